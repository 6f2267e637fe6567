section LZ
theorem pf_one {x xa x1 : Wd} {t : Nat} {b : Bool} (a1 : f_X1_begin t 0 x = some xa) (a2 : f_X1_goesOn xa = some (bI b, x1)) : f_X8_playFirsts t 1 x = if b = true then bd (f_X6_play t 59 11 16 x1) (fun q => some (1, q)) else some (0, x1) := by
  obtain ⟨f, hf⟩ : ∃ f, FU = f + 2 := ⟨1999998, rfl⟩
  unfold f_X8_playFirsts f_X8_playFirsts_2
  rw [hf, lp_s]
  have e2 : ∀ q, lp (fun _ _ _ => none) (fun rec => fb_X8_playFirsts_2 t rec) (f + 1) 1 (0 + 1) q = some (1, q) := fun q => by
    rw [lp_s]
    generalize lp _ _ f = u
    show fb_X8_playFirsts_2 t u 1 1 q = _
    unfold fb_X8_playFirsts_2
    rw [if_pos (by decide)]
  generalize lp (fun _ _ _ => none) (fun rec => fb_X8_playFirsts_2 t rec) (f + 1) = u at e2
  show fb_X8_playFirsts_2 t u 1 0 x = _
  unfold fb_X8_playFirsts_2
  rw [if_neg (by decide), a1, bd_s, a2, bd_s, bI_ite1]
  cases b with
  | false => rw [if_neg (by decide), if_neg (by decide)]
  | true =>
    rw [if_pos rfl, if_pos rfl]
    simp only [e2]
theorem rem_nI {j Q : Nat} (hj : j < 2 ^ 31) (h0 : 0 < Q) (hQ : Q ≤ 6) : nI j - nI j / nI Q * nI Q = nI (j % Q) := by
  have hne : (nI Q).toInt ≠ -1 := by rw [nI_toInt (by omega)]; omega
  have hdl : j / Q ≤ j := Nat.div_le_self _ _
  have e : nI j / nI Q = nI (j / Q) := by
    apply Int32.toInt_inj.mp
    rw [Int32.toInt_div_of_ne_right _ _ (fun z => hne (by rw [z]; decide)), nI_toInt (by omega), nI_toInt (by omega), nI_toInt (by omega)]
    rw [Int.tdiv_eq_ediv_of_nonneg (by omega)]
    exact (Int.natCast_ediv j Q).symm
  rw [e, nI_mul, nI_subN (Nat.div_mul_le_self _ _)]
  congr 1
  have := Nat.div_add_mod j Q
  rw [Nat.mul_comm] at this
  omega
theorem bitsN {v : Int32} {N : Nat} (h : ∀ i, i < 32 → N ≤ i → bt v i = false) : ∃ n, n < 2 ^ N ∧ v = nI n := by
  refine ⟨v.toBitVec.toNat, Nat.lt_pow_two_of_testBit (n := N) _ (fun i hi => ?_), Int32.toBitVec_inj.mp ?_⟩
  · rcases Nat.lt_or_ge i 32 with q | q
    · exact h i q hi
    · exact b_big q
  · show v.toBitVec = BitVec.ofNat 32 v.toBitVec.toNat
    simp
theorem ushr8 (v : Int32) : ∃ j, j < 2 ^ 24 ∧ ushr v 8 = nI j := by
  refine bitsN (fun i hi h => ?_)
  have : bt (ushr v (nI 8)) i = bt v (8 + i) := b_ushr 8 (by omega) v i
  exact this.trans (b_big (by omega))
theorem T_cells {x x' : Wd} {t P Q : Nat} {r : Rw} (hx : ∀ k, t ≤ k → k ≤ t + 8 → x' k = x k) (h : RT x t r P Q) (hP : P ≤ 5) (hQ : Q ≤ 6) : RT x' t r P Q := RT_congr ⟨hP, hQ⟩ (fun k k1 k2 => hx k k1 (by omega)) (fun _ _ => rfl) h
/-- one draw -/
theorem lo_draw {n : Nat} {x y : Wd} {P Q n' : Nat} (hn5 : n < 512) (h : Rel n x y) (hS : SR x y 2 P Q n') (hn' : n' ≤ 9999) (h0 : 0 < Q) : ∃ s p xs ys xi yi, p < Q ∧ f_X0_draw 1 x = some (s, xs) ∧ xs 2 5 = nI Q ∧ s - s / nI Q * nI Q = nI p ∧ updW xs 2 10 ((x 2 10) ^^^ ((1:Int32) <<< (nI p &&& 31))) = xi ∧ f_X9_drawn (nI Q) y = some (nI p, ys) ∧ f_X9_of ys (nI p) 4 = some (y 101 (33 + 5 * p)) ∧ f_X9_gets (nI p) 4 (1 - y 101 (33 + 5 * p)) ys = some yi ∧ Rel n xi yi ∧ SR xi yi 2 P Q n' := by
  obtain ⟨hR, hW, hl0, hl1, h0'⟩ := hS
  have hP := hW.1
  have hQ := hW.2.1
  have hz : x 1 5 = y 101 2 := h.1.2.2.2.2.1
  obtain ⟨j, hj, ej⟩ := ushr8 (y 101 2 * 1103515245 + 12345)
  have hpQ : j % Q < Q := Nat.mod_lt _ h0
  generalize hv : y 101 2 * (1103515245:Int32) + (12345:Int32) = v at ej
  generalize hp : j % Q = p at hpQ
  have hrem : nI j - nI j / nI Q * nI Q = nI p := by rw [rem_nI (by omega) h0 hQ, hp]
  have hRel1 : Rel n (updW x 1 5 v) (updW y 101 2 v) := by
    obtain ⟨r, x', y', g1, g2, g3⟩ := st_seed n x y v hn5 h
    unfold f_X8_seed at g1
    unfold f_X9_seed at g2
    rw [lv_s, wl_s] at g1
    rw [m_r2, m_s2] at g2
    have e1 := (Prod.mk.inj (Option.some.inj g1)).2
    have e2 := (Prod.mk.inj (Option.some.inj g2)).2
    rw [e1, e2]
    refine Rel_n h g3 ?_ (by omega) (by omega)
    rw [← e1, updW_cell (by omega)]
  have hrow : ∀ i, i ≠ 2 → updW y 101 2 v 101 i = y 101 i := fun i hi => updW_place hi
  have hS1 : SR (updW x 1 5 v) (updW y 101 2 v) 2 P Q n' := by
    refine ⟨RT_skip hP hQ (fun i _ z _ _ => hrow i z) (T_cells (fun k k1 k2 => updW_cell (by omega)) hR hP hQ), WF_skip (fun i _ z _ _ => hrow i z) hW, ?_, ?_, by rw [hrow 0 (by omega)]; exact h0'⟩
    · exact RLw_congr (updW_cell (by omega)) (updW_cell (by omega)) (updW_cell (by omega)) (hrow _ (by omega)) (fun i hi => hrow _ (by omega)) hl0
    · exact RLw_congr (updW_cell (by omega)) (updW_cell (by omega)) (updW_cell (by omega)) (hrow _ (by omega)) (fun i hi => hrow _ (by omega)) hl1
  obtain ⟨hR1, hW1, hl01, hl11, h01⟩ := hS1
  have hu : ∃ b : Bool, 1 - y 101 (33 + 5 * p) = bI b ∧ b = !decide (y 101 (33 + 5 * p) = 1) := by
    refine ⟨_, ?_, rfl⟩
    rcases (hW.2.2.2.2.2.2.2 p hpQ).2.2.2.2 with z | z <;> rw [z] <;> decide
  obtain ⟨b, hb1, hb2⟩ := hu
  have hbits : ∀ i, i < 32 → bt ((x 2 10) ^^^ ((1:Int32) <<< (nI p &&& 31))) i = if i = p then b else bt (updW x 1 5 v 2 10) i := fun i hi => by
    rw [b_xor, b_sh1 (by omega) hi, updW_cell (k' := 2) (by omega)]
    by_cases e : i = p
    · subst e
      rw [if_pos rfl, decide_eq_true rfl, hR.2.2.2.1 i hi, decide_eq_true hpQ, hb2]
      cases decide (y 101 (33 + 5 * i) = 1) <;> rfl
    · rw [if_neg e, decide_eq_false e]
      simp
  have hT := T_ill (u := 1 - y 101 (33 + 5 * p)) hP hQ hpQ hbits hb1 hR1
  have hWi := W_ill (u := 1 - y 101 (33 + 5 * p)) hP hpQ (by rw [hb1]; cases b <;> simp [bI]) hW1
  have ey : updW (updW y 101 2 v) 101 (29 + 5 * p + 4) (1 - y 101 (33 + 5 * p)) 101 = upd (updW y 101 2 v 101) (33 + 5 * p) (1 - y 101 (33 + 5 * p)) := by
    rw [updW_row, show 29 + 5 * p + 4 = 33 + 5 * p by omega]
  have hrow2 : ∀ i, i ≠ 33 + 5 * p → updW (updW y 101 2 v) 101 (29 + 5 * p + 4) (1 - y 101 (33 + 5 * p)) 101 i = updW y 101 2 v 101 i := fun i hi => by
    rw [ey, upd_ne hi]
  have hSi : SR (updW (updW x 1 5 v) 2 10 ((x 2 10) ^^^ ((1:Int32) <<< (nI p &&& 31)))) (updW (updW y 101 2 v) 101 (29 + 5 * p + 4) (1 - y 101 (33 + 5 * p))) 2 P Q n' := by
    refine ⟨by rw [ey]; exact hT, by rw [ey]; exact hWi, ?_, ?_, by rw [hrow2 0 (by omega)]; exact h01⟩
    · exact RLw_congr (updW_cell (by omega)) (updW_cell (by omega)) (updW_cell (by omega)) (hrow2 _ (by omega)) (fun i hi => hrow2 _ (by omega)) hl01
    · exact RLw_congr (updW_cell (by omega)) (updW_cell (by omega)) (updW_cell (by omega)) (hrow2 _ (by omega)) (fun i hi => hrow2 _ (by omega)) hl11
  refine ⟨nI j, p, updW x 1 5 v, updW y 101 2 v, _, _, hpQ, ?_, ?_, hrem, rfl, ?_, ?_, ?_, ?_, hSi⟩
  · unfold f_X0_draw
    rw [wl_s, hz, hv, updW_self, ej]
  · rw [updW_cell (by omega)]; exact hR.1.2.1
  · unfold f_X9_drawn
    rw [m_r2, m_s2, hv, m_r2, updW_self, ej, nz_s (nI_ne0 h0 (by omega)), hrem]
  · rw [m_of4 (by omega), hrow _ (by omega)]
  · rw [show (4:Int32) = nI 4 from rfl, m_gets (by omega)]
  · exact Rel_live hRel1 hSi hn' (fun c z1 _ _ _ _ _ => updW_cell (by omega)) (FYk_c (Or.inl rfl) (fun k hk => updW_cell hk)) (fun i hi => hrow2 i (by omega))
/-- the night behind a draw -/
theorem lo_play {n : Nat} {x y : Wd} {P Q n' i N : Nat} (h : Rel n x y) (hS : SR x y 2 P Q n') (hn' : n' + 1 ≤ 9999) : ∃ x' y', (∀ g, f_X8_loose_79 g (nI N) (nI i) x = g (nI N) (nI (i + 1)) x') ∧ (∀ g, f_X9_loose_81 g (nI N) (nI i) y = g (nI N) (nI (i + 1)) y') ∧ Rel n x' y' ∧ SR x' y' 2 P Q (n' + 1) := by
  obtain ⟨b, xa, x1, y1, a1, a2, a3, a4, a5⟩ := pf_step (Or.inl rfl) hS (by omega)
  have hpf := pf_one a1 a2
  cases b with
  | false =>
    obtain ⟨c1, c2, c3, c4⟩ := a4 rfl
    rw [if_neg (by decide)] at hpf
    have hR1 : Rel n x1 y1 := Rel_live h c1 (by omega) c2 (FYk_n c3) (fun i _ => by rw [c4])
    obtain ⟨hR, hW, hl0, hl1, h0⟩ := c1
    have hP := hW.1
    have hQ := hW.2.1
    have eN : x1 2 12 + 1 = nI (n' + 1) := by rw [hR.1.2.2.2, h0, nI_1]
    have eN2 : y1 101 0 + 1 = nI (n' + 1) := by rw [h0, nI_1]
    have hrow : ∀ i, i ≠ 0 → updW y1 101 0 (nI (n' + 1)) 101 i = y1 101 i := fun i hi => updW_place hi
    have hSn : SR (updW x1 2 12 (nI (n' + 1))) (updW y1 101 0 (nI (n' + 1))) 2 P Q (n' + 1) := by
      refine ⟨by rw [updW_row]; exact T_night hP hQ hR, by rw [updW_row]; exact W_night (by omega) hW, ?_, ?_, updW_self _ _ _ _⟩
      · exact RLw_congr (updW_cell (by omega)) (updW_cell (by omega)) (updW_cell (by omega)) (hrow _ (by omega)) (fun i hi => hrow _ (by omega)) hl0
      · exact RLw_congr (updW_cell (by omega)) (updW_cell (by omega)) (updW_cell (by omega)) (hrow _ (by omega)) (fun i hi => hrow _ (by omega)) hl1
    refine ⟨_, _, fun g => ?_, fun g => ?_, Rel_live hR1 hSn hn' (fun c z1 _ _ _ _ _ => updW_cell (by omega)) (FYk_c (Or.inl rfl) (fun k hk => updW_cell hk)) (fun i hi => hrow i (by omega)), hSn⟩
    · unfold f_X8_loose_79 f_X8_loose_98
      rw [hpf, bd_s]
      dsimp only
      rw [if_neg (fun z => z rfl), wl_s, eN, nI_1]
    · unfold f_X9_loose_81 f_X9_loose_105
      rw [a3, bd_s]
      dsimp only
      rw [if_pos bI_f, m_r0, m_s0, eN2, nI_1]
  | true =>
    obtain ⟨x2, y2, c1, c2, c3, c4, c5⟩ := a5 rfl
    rw [if_pos rfl, c1, bd_s] at hpf
    refine ⟨x2, y2, fun g => ?_, fun g => ?_, Rel_live h c3 hn' c4 (FYk_n c5) (fun i hi => c5.2.2 i (by omega)), c3⟩
    · unfold f_X8_loose_79 f_X8_loose_98
      rw [hpf, bd_s]
      dsimp only
      rw [if_pos (by decide), nI_1]
    · unfold f_X9_loose_81 f_X9_loose_105
      rw [a3, bd_s]
      dsimp only
      rw [if_neg (by decide), c2, bd_s, nI_1]
theorem lo_go {n N : Nat} (hn5 : n < 512) (hN : N ≤ 40) : ∀ (d i : Nat) (x y : Wd) (P Q n' fx fy : Nat), i + d = N → d < fx → d < fy → Rel n x y → SR x y 2 P Q n' → n' + d ≤ 9999 → ∃ r x' y', lp (fun _ _ _ => none) (fun rec => fb_X8_loose_44 rec) fx (nI N) (nI i) x = some (r, x') ∧ lp (fun _ _ _ => none) (fun rec => fb_X9_loose_40 rec) fy (nI N) (nI i) y = some (r, y') ∧ Rel n x' y' := by
  intro d
  induction d with
  | zero =>
    intro i x y P Q n' fx fy h1 h2 h3 h hS h4
    obtain ⟨f, rfl⟩ : ∃ f, fx = f + 1 := ⟨fx - 1, by omega⟩
    obtain ⟨g, rfl⟩ : ∃ f, fy = f + 1 := ⟨fy - 1, by omega⟩
    have hi : i = N := by omega
    subst hi
    have hQ := hS.2.1.2.1
    have eX : ∀ u, fb_X8_loose_44 u (nI i) (nI i) x = some (sumN (fun q => x (2 + 8) q) Q, x) := fun u => by
      unfold fb_X8_loose_44 f_X8_loose_104
      rw [if_pos (nI_le (Nat.le_refl _) (by omega)), x_allPurses rfl hQ hS.1.1.2.1, bd_s]
    have eY : ∀ u, fb_X9_loose_40 u (nI i) (nI i) y = some (sumN (fun q => x (2 + 8) q) Q, y) := fun u => by
      unfold fb_X9_loose_40 f_X9_loose_111
      rw [if_pos (nI_le (Nat.le_refl _) (by omega)), m_purses hQ hS.2.1.2.2.2.1, bd_s]
      have : sumN (fun q => y 101 (32 + 5 * q)) Q = sumN (fun q => x (2 + 8) q) Q := sumN_eq (fun q hq => ((hS.1.2.2.1 q hq).2.2.2).symm)
      rw [this]
    rw [lp_s, lp_s]
    exact ⟨_, x, y, eX _, eY _, h⟩
  | succ d ih =>
    intro i x y P Q n' fx fy h1 h2 h3 h hS h4
    obtain ⟨f, rfl⟩ : ∃ f, fx = f + 1 := ⟨fx - 1, by omega⟩
    obtain ⟨g, rfl⟩ : ∃ f, fy = f + 1 := ⟨fy - 1, by omega⟩
    have hQ := hS.2.1.2.1
    rw [lp_s, lp_s]
    by_cases hz : Q = 0
    · obtain ⟨x1, y1, a1, a2, a3, a4⟩ := lo_play (i := i) (N := N) h hS (by omega)
      have eX : ∀ u, fb_X8_loose_44 u (nI N) (nI i) x = u (nI N) (nI (i + 1)) x1 := fun u => by
        unfold fb_X8_loose_44
        rw [if_neg (nI_ge (by omega) (by omega)), hS.1.1.2.1, hz, if_pos (by decide), a1]
      have eY : ∀ u, fb_X9_loose_40 u (nI N) (nI i) y = u (nI N) (nI (i + 1)) y1 := fun u => by
        unfold fb_X9_loose_40
        rw [if_neg (nI_ge (by omega) (by omega)), m_r8, hS.2.1.2.2.2.1, hz, if_pos (by decide), a2]
      obtain ⟨r, x', y', c1, c2, c3⟩ := ih (i + 1) x1 y1 P Q (n' + 1) f g (by omega) (by omega) (by omega) a3 a4 (by omega)
      exact ⟨r, x', y', (eX _).trans c1, (eY _).trans c2, c3⟩
    · obtain ⟨s, p, xs, ys, xi, yi, b1, b2, b3, b4, b5, b6, b7, b8, b9, b10⟩ := lo_draw hn5 h hS (by omega) (by omega : 0 < Q)
      obtain ⟨x1, y1, a1, a2, a3, a4⟩ := lo_play (i := i) (N := N) b9 b10 (by omega)
      have eX : ∀ u, fb_X8_loose_44 u (nI N) (nI i) x = u (nI N) (nI (i + 1)) x1 := fun u => by
        unfold fb_X8_loose_44
        rw [if_neg (nI_ge (by omega) (by omega)), hS.1.1.2.1, if_neg (nI_nle (by omega) (by omega)), b2, bd_s]
        dsimp only
        rw [b3, nz_s (nI_ne0 (by omega) (by omega)), wl_s, b4, b5, a1]
      have eY : ∀ u, fb_X9_loose_40 u (nI N) (nI i) y = u (nI N) (nI (i + 1)) y1 := fun u => by
        unfold fb_X9_loose_40
        rw [if_neg (nI_ge (by omega) (by omega)), m_r8, hS.2.1.2.2.2.1, if_neg (nI_nle (by omega) (by omega)), m_r8, hS.2.1.2.2.2.1, b6, bd_s]
        dsimp only
        rw [b7, bd_s, b8, bd_s, a2]
      obtain ⟨r, x', y', c1, c2, c3⟩ := ih (i + 1) x1 y1 P Q (n' + 1) f g (by omega) (by omega) (by omega) a3 a4 (by omega)
      exact ⟨r, x', y', (eX _).trans c1, (eY _).trans c2, c3⟩
theorem st_loose : St_loose Rel := by
  intro n x y p1 hn h
  obtain ⟨P, Q, n', hn', hS⟩ := SR_of h
  unfold f_X8_loose f_X9_loose
  rw [x_within, m_in, bd_s, bd_s, bI_ite1, bI_ite1]
  by_cases c1 : (1:Int32) ≤ p1 ∧ p1 ≤ 40
  · rw [dT c1, dT c1]
    obtain ⟨N, hN1, hN, rfl⟩ := (in_rng (M := 1) (N := 40) (by omega) (by omega)).mp c1
    rw [hS.1.1.2.2.2, m_r0, hS.2.2.2.2, nI_add]
    by_cases c2 : n' + N ≤ 9999
    · rw [if_pos (show nI (n' + N) ≤ 9999 from nI_le (b := 9999) c2 (by omega)), if_pos (show nI (n' + N) ≤ 9999 from nI_le (b := 9999) c2 (by omega))]
      obtain ⟨r, x', y', d1, d2, d3⟩ := lo_go hn hN N 0 x y P Q n' FU FU (by omega) (FU_lt (by omega)) (FU_lt (by omega)) h hS c2
      exact ⟨r, x', y', d1, d2, Rel_mono _ _ _ d3⟩
    · rw [if_neg (show ¬ nI (n' + N) ≤ 9999 from nI_ge (a := 9999) (by omega) (by omega)), if_neg (show ¬ nI (n' + N) ≤ 9999 from nI_ge (a := 9999) (by omega) (by omega))]
      exact st_fail h 3 _ _ (by omega) rfl (by decide)
  · rw [dF c1, dF c1]
    exact st_fail h 1 _ _ (by omega) rfl (by decide)
end LZ
