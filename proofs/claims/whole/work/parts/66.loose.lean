section LO
/-- a season thought on both sides, the reference's row put back -/
theorem seasonOf_both {x y : Wd} {P Q n : Nat} (h : SR x y 49 P Q n) (hn : n ≤ 19000) : ∃ k x' y', k ≤ 60 ∧ f_X8_playFirsts 49 60 x = some (nI k, x') ∧ f_X9_seasonOf y = some (nI k, y') ∧ y' 101 = y 101 ∧ FXt 49 x x' ∧ FYk y y' ∧ y' 104 = y 104 := by
  obtain ⟨y1, b1, b2, -, b3⟩ := m_moveAll (y := y) (a := 101) (b := 103) rfl rfl (by omega)
  have e1 : y1 101 = y 101 := b3 101 (by omega)
  have h1 : SR x y1 49 P Q n := by
    obtain ⟨hR, hW, hl0, hl1, h0⟩ := h
    exact ⟨by rw [e1]; exact hR, by rw [e1]; exact hW, by rw [e1]; exact hl0, by rw [e1]; exact hl1, by rw [e1]; exact h0⟩
  obtain ⟨k, x2, y2, c1, c2, c3, c4, c5, c6, -⟩ := pf_season (m := 60) (Or.inr rfl) (by omega) h1 (by omega)
  obtain ⟨y3, d1, d2, d3, d4⟩ := m_moveAll (y := y2) (a := 103) (b := 101) rfl rfl (by omega)
  have hr : ∀ i, y3 101 i = y 101 i := fun i => by
    rcases Nat.lt_or_ge i 229 with z | z
    · rw [d2 i z, c6.1 103 (by omega) (by omega) (by omega) (by omega) (by omega), b2 i z]
    · rw [d3 i z, c6.2.2 i (by omega), e1]
  refine ⟨k, x2, y3, c3, c1, ?_, funext hr, c5, FYk_trans (FYk_c (Or.inr (Or.inl rfl)) b3) (FYk_trans (FYk_n c6) (FYk_c (Or.inl rfl) d4)), ?_⟩
  · unfold f_X9_seasonOf
    rw [b1, bd_s, show (60:Int32) = nI 60 from rfl, c2, bd_s, d1, bd_s]
  · rw [d4 104 (by omega), c6.1 104 (by omega) (by omega) (by omega) (by omega) (by omega), b3 104 (by omega)]
theorem st_spare : St_spare Rel := by
  intro n x y p1 hn h
  obtain ⟨P, Q, n', hn', hS⟩ := SR_of h
  have hS0 := hS
  obtain ⟨hR, hW, hl0, hl1, h0⟩ := hS
  have hP := hW.1
  have hQ := hW.2.1
  unfold f_X8_spare f_X9_spare f_X6_allParts
  rw [hR.1.1, bd_s, full_nI P (by omega), x_within, m_isSet hP hW.2.2.1, bd_s, bd_s, bI_ite1, bI_ite1]
  by_cases c1 : 0 ≤ p1 ∧ p1 ≤ nI (2 ^ P - 1)
  · rw [dT c1, dT c1, hR.1.2.1, m_r8, hW.2.2.2.1]
    have hp63 := p2_63 P (by omega)
    obtain ⟨j, hj, ej⟩ := (in_nI (N := 2 ^ P - 1) (by omega)).mp c1
    by_cases c2 : Q < 6
    · rw [if_pos (show nI Q < 6 from nI_lt (a := Q) (b := 6) c2 (by omega)), if_pos (show ¬ nI Q = 6 from fun z => by rw [show (6:Int32) = nI 6 from rfl, nI_eq (by omega) (by omega)] at z; omega)]
      obtain ⟨x1, a1, a2, a3⟩ := x_think hR hW
      have hS1 : SR x1 y 49 P Q n' := ⟨a2, hW, RLw_frame hl0 (a3 _ (by omega)) (a3 _ (by omega)) (a3 _ (by omega)), RLw_frame hl1 (a3 _ (by omega)) (a3 _ (by omega)) (a3 _ (by omega)), h0⟩
      obtain ⟨k1, x2, y2, -, b1, b2, b3, b4, b5, b6⟩ := seasonOf_both hS1 (by omega)
      have hx2 : ∀ c, c < 49 → c ≠ 14 → c ≠ 15 → c ≠ 19 → c ≠ 20 → x2 c = x c := fun c z1 z2 z3 z4 z5 => by
        rw [b4 c (by omega) z2 z3 z4 z5 (by omega), a3 c (by omega)]
      have hR2 : RT x2 2 (y 101) P Q := RT_congr ⟨hP, hQ⟩ (fun k g1 g2 => hx2 k (by omega) (by omega) (by omega) (by omega) (by omega)) (fun _ _ => rfl) hR
      obtain ⟨x3, d1, d2, d3⟩ := x_think hR2 hW
      obtain ⟨y4, g1, g2, -, g3⟩ := m_moveAll (y := y2) (a := 101) (b := 104) rfl rfl (by omega)
      have e4 : y4 101 = y 101 := by rw [g3 101 (by omega), b3]
      obtain ⟨t1, t2⟩ := TW_add (x := x3) (y := y4) (t := 49) (kn := p1) (ow := -1) c2 (by rw [e4]; exact hW) (by rw [e4]; exact d2) (fun i hi => by rw [ej]; exact set_hi hj hi) (Or.inl rfl)
      have hnr : ∀ i, (i < 8 ∨ 59 ≤ i) → newR y4 Q p1 (-1) 101 i = y 101 i := fun i hi => by rw [newR_at (by omega) (by omega), e4]
      have hx3 : ∀ c, c < 49 → c ≠ 14 → c ≠ 15 → c ≠ 19 → c ≠ 20 → newX x3 49 Q p1 (-1) c = x c := fun c z1 z2 z3 z4 z5 => by
        rw [newX_cell (by omega) (by omega) (by omega), d3 c (by omega)]
        exact hx2 c z1 z2 z3 z4 z5
      have hS3 : SR (newX x3 49 Q p1 (-1)) (newR y4 Q p1 (-1)) 49 P (Q + 1) n' := by
        refine ⟨t2, t1, ?_, ?_, by rw [hnr 0 (by omega)]; exact h0⟩
        · exact RLw_congr (hx3 _ (by omega) (by omega) (by omega) (by omega) (by omega)) (hx3 _ (by omega) (by omega) (by omega) (by omega) (by omega)) (hx3 _ (by omega) (by omega) (by omega) (by omega) (by omega)) (hnr _ (by omega)) (fun i hi => hnr _ (by omega)) hl0
        · exact RLw_congr (hx3 _ (by omega) (by omega) (by omega) (by omega) (by omega)) (hx3 _ (by omega) (by omega) (by omega) (by omega) (by omega)) (hx3 _ (by omega) (by omega) (by omega) (by omega) (by omega)) (hnr _ (by omega)) (fun i hi => hnr _ (by omega)) hl1
      obtain ⟨k2, x5, y5, -, f1, f2, f3, f4, f5, f6⟩ := seasonOf_both hS3 (by omega)
      obtain ⟨y6, q1, q2, q3, q4⟩ := m_moveAll (y := y5) (a := 104) (b := 101) rfl rfl (by omega)
      have hr : ∀ i, y6 101 i = y 101 i := fun i => by
        rcases Nat.lt_or_ge i 229 with z | z
        · rw [q2 i z, f6, newR_cell (by omega), g2 i z, b3]
        · rw [q3 i z, f3, hnr i (by omega)]
      have hFX : FXt 49 x x5 := fun c z1 z2 z3 z4 z5 z6 => by
        rw [f4 c z1 z2 z3 z4 z5 z6, newX_cell (by omega) (by omega) (by omega), d3 c (by omega), b4 c z1 z2 z3 z4 z5 z6, a3 c (by omega)]
      have hFY : FYk y y6 := FYk_trans b5 (FYk_trans (FYk_c (Or.inr (Or.inr (Or.inl rfl))) g3) (FYk_trans (FYk_c (Or.inl rfl) (fun k hk => newR_cell hk)) (FYk_trans f5 (FYk_c (Or.inl rfl) q4))))
      refine ⟨nI k2 - nI k1, x5, y6, ?_, ?_, Rel_mono _ _ _ (Rel_thought h hFX hFY hr)⟩
      · rw [a1, bd_s, b1, bd_s]
        dsimp only
        rw [d1, bd_s, x_addPlayer c2 d2.1.2.1, bd_s]
        dsimp only
        rw [f1, bd_s]
      · rw [b2, bd_s]
        dsimp only
        rw [g1, bd_s, m_addPlayer c2 (by rw [e4]; exact hW.2.2.2.1), bd_s]
        dsimp only
        rw [if_pos (nI_pos' (by omega)), f2, bd_s]
        unfold f_X9_spare_70
        rw [q1, bd_s]
    · have hQ6 : Q = 6 := by omega
      subst hQ6
      rw [if_neg (by decide), if_neg (fun z => z (by decide))]
      exact st_fail h 4 _ _ (by omega) rfl (by decide)
  · rw [dF c1, dF c1]
    exact st_fail h 1 _ _ (by omega) rfl (by decide)
theorem nt_go {P Q m N n0 : Nat} (hm : m ≤ N) (hN : N ≤ 60) (hm2 : n0 + m ≤ 9999) (hm3 : m = N ∨ n0 + m = 9999) : ∀ (d i : Nat) (x y : Wd) (fx fy : Nat), i + d = m → d < fx → d < fy → SR x y 2 P Q (n0 + i) → ∃ k x' y', lp (fun _ _ _ => none) (fun rec => fb_X8_playFirsts_2 2 rec) fx (nI m) (nI i) x = some (nI k, x') ∧ lp (fun _ _ _ => none) (fun rec => fb_X9_nights_19 rec) fy (nI N) (nI i) y = some (nI k, y') ∧ i ≤ k ∧ k ≤ m ∧ SR x' y' 2 P Q (n0 + k) ∧ FXt 2 x x' ∧ FYn y y' := by
  intro d
  induction d with
  | zero =>
    intro i x y fx fy h1 h2 h3 h
    obtain ⟨f, rfl⟩ : ∃ f, fx = f + 1 := ⟨fx - 1, by omega⟩
    obtain ⟨g, rfl⟩ : ∃ f, fy = f + 1 := ⟨fy - 1, by omega⟩
    have hi : i = m := by omega
    subst hi
    have eX : ∀ u, fb_X8_playFirsts_2 2 u (nI i) (nI i) x = some (nI i, x) := fun u => by
      unfold fb_X8_playFirsts_2
      rw [if_pos (nI_le (Nat.le_refl _) (by omega))]
    have eY : ∀ u, fb_X9_nights_19 u (nI N) (nI i) y = some (nI i, y) := fun u => by
      unfold fb_X9_nights_19
      by_cases z : N ≤ i
      · rw [if_pos (nI_le z (by omega))]
      · rw [if_neg (nI_ge (by omega) (by omega)), m_r0, h.2.2.2.2, if_pos (show (9999:Int32) ≤ nI (n0 + i) from nI_le (a := 9999) (by omega) (by omega))]
    rw [lp_s, lp_s]
    exact ⟨i, x, y, eX _, eY _, Nat.le_refl _, Nat.le_refl _, h, FXt_refl _ _, FYn_refl _⟩
  | succ d ih =>
    intro i x y fx fy h1 h2 h3 h
    obtain ⟨f, rfl⟩ : ∃ f, fx = f + 1 := ⟨fx - 1, by omega⟩
    obtain ⟨g, rfl⟩ : ∃ f, fy = f + 1 := ⟨fy - 1, by omega⟩
    obtain ⟨b, xa, x1, y1, a1, a2, a3, a4, a5⟩ := pf_step (Or.inl rfl) h (by omega)
    have eX : ∀ u, fb_X8_playFirsts_2 2 u (nI m) (nI i) x = (if ¬ bI b = 0 then bd (f_X6_play 2 59 11 16 x1) (fun q3 => u (nI m) (nI (i + 1)) q3) else some (nI i, x1)) := fun u => by
      unfold fb_X8_playFirsts_2
      rw [if_neg (nI_ge (by omega) (by omega)), a1, bd_s, a2, bd_s, nI_1]
    have eY : ∀ u, fb_X9_nights_19 u (nI N) (nI i) y = (if bI b = 0 then some (nI i, y1) else bd (f_X9_nightGoes y1) (fun q2 => u (nI N) (nI (i + 1)) q2)) := fun u => by
      unfold fb_X9_nights_19
      rw [if_neg (nI_ge (by omega) (by omega)), m_r0, h.2.2.2.2, if_neg (show ¬ (9999:Int32) ≤ nI (n0 + i) from nI_ge (b := 9999) (by omega) (by omega)), a3, bd_s, nI_1]
    rw [lp_s, lp_s]
    cases b with
    | false =>
      obtain ⟨c1, c2, c3, -⟩ := a4 rfl
      refine ⟨i, x1, y1, (eX _).trans ?_, (eY _).trans ?_, Nat.le_refl _, by omega, c1, c2, c3⟩
      · rw [if_neg (fun z => z rfl)]
      · rw [if_pos bI_f]
    | true =>
      obtain ⟨x2, y2, c1, c2, c3, c4, c5⟩ := a5 rfl
      obtain ⟨k, x', y', d1, d2, d3, d4, d5, d6, d7⟩ := ih (i + 1) x2 y2 f g (by omega) (by omega) (by omega) c3
      refine ⟨k, x', y', (eX _).trans ?_, (eY _).trans ?_, by omega, d4, d5, FXt_trans c4 d6, FYn_trans c5 d7⟩
      · rw [if_pos (by decide), c1, bd_s]; exact d1
      · rw [if_neg (by decide), c2, bd_s]; exact d2
theorem nI_subN {a b : Nat} (h : b ≤ a) : nI a - nI b = nI (a - b) := by
  have : nI a = nI (a - b) + nI b := by rw [nI_add]; congr 1; omega
  rw [this]
  exact Int32.add_sub_cancel _ _
theorem st_nights : St_nights Rel := by
  intro n x y p1 hn h
  obtain ⟨P, Q, n', hn', hS⟩ := SR_of h
  have hS0 := hS
  obtain ⟨hR, hW, hl0, hl1, h0⟩ := hS
  unfold f_X8_nights f_X9_nights
  rw [x_within, m_in, bd_s, bd_s, bI_ite1, bI_ite1]
  by_cases c1 : (1:Int32) ≤ p1 ∧ p1 ≤ 60
  · rw [dT c1, dT c1]
    obtain ⟨N, hN1, hN, rfl⟩ := (in_rng (M := 1) (N := 60) (by omega) (by omega)).mp c1
    have em : mmin (nI N) ((9999:Int32) - x 2 12) = nI (min N (9999 - n')) := by
      rw [hR.1.2.2.2, h0, show (9999:Int32) = nI 9999 from rfl, nI_subN hn']
      unfold mmin
      by_cases z : nI (9999 - n') < nI N
      · rw [if_pos z]
        rw [nI_ltI (by omega) (by omega)] at z
        congr 1
        omega
      · rw [if_neg z]
        rw [nI_ltI (by omega) (by omega)] at z
        congr 1
        omega
    obtain ⟨k, x', y', d1, d2, d3, d4, d5, d6, d7⟩ := nt_go (P := P) (Q := Q) (m := min N (9999 - n')) (N := N) (n0 := n') (by omega) hN (by omega) (by omega) (min N (9999 - n')) 0 x y FU FU (by omega) (FU_lt (by omega)) (FU_lt (by omega)) hS0
    refine ⟨nI k, x', y', ?_, ?_, Rel_mono _ _ _ (Rel_live h d5 (by omega) d6 (FYk_n d7) (fun i hi => d7.2.2 i (by omega)))⟩
    · rw [em]
      unfold f_X8_playFirsts
      have : f_X8_playFirsts_2 2 (nI (min N (9999 - n'))) 0 x = some (nI k, x') := d1
      rw [this, bd_s]
    · exact d2
  · rw [dF c1, dF c1]
    exact st_fail h 1 _ _ (by omega) rfl (by decide)
end LO
