section NB
theorem m_night {x y : Wd} {P Q : Nat} (hW : WF (y 101) P Q) (hl0 : RLw x 11 (y 101) 0) (hl1 : RLw x 16 (y 101) 1) (hRF : RF (y 106) P Q) : ∃ y' r', f_X9_nightGoes y = some y' ∧ NR (y 101) P Q (y 106) P r' ∧ y' 101 = upd (upd r' 1 0) 0 (y 101 0 + 1) ∧ (∀ k, k ≠ 100 → k ≠ 101 → k ≠ 108 → k ≠ 109 → y' k = y k) ∧ ∀ i, (i < 7 ∨ 14 < i) → y' 100 i = y 100 i := by
  have hP := hW.1
  have hQ := hW.2.1
  have h8 := hW.2.2.2.1
  have h3 := hW.2.2.1
  unfold f_X9_nightGoes f_X9_nightGoes_2
  obtain ⟨s, ⟨a1, a2⟩, a3⟩ := lp_run (z := fun _ _ => none) (F := fun rec => fb_X9_nightGoes_2 rec) (fun g (s : Wd) i => g (nI i) s) Q (fun s => f_X9_nightGoes_34 s) (fun i s => (∀ k, k ≠ 108 → s k = y k) ∧ ∀ q, q < i → s 108 q = nI (cntB (bt (y 101 (30 + 5 * q))) 6)) (fun g i s hi hI => by
    obtain ⟨a1, a2⟩ := hI
    unfold fb_X9_nightGoes_2
    rw [m_r8, a1 101 (by omega), h8, if_neg (nI_ge hi (by omega)), m_of1 (by omega), bd_s, a1 101 (by omega), m_bits, bd_s, ast_nI (by omega) (by omega), nI_1]
    refine ⟨_, ⟨fun k hk => by rw [updW_cell hk]; exact a1 k hk, fun q hq => ?_⟩, rfl⟩
    rw [updW_get]
    by_cases e : q = i
    · subst e; rw [if_pos ⟨rfl, rfl⟩]
    · rw [if_neg (fun z => e z.2)]; exact a2 q (by omega)) (fun g s hI => by
    unfold fb_X9_nightGoes_2
    rw [m_r8, hI.1 101 (by omega), h8, if_pos (nI_le (Nat.le_refl _) (by omega))]) (by omega) y ⟨fun _ _ => rfl, fun q hq => by omega⟩
  have b101 : s 101 = y 101 := a1 101 (by omega)
  obtain ⟨u, ⟨c1, c2⟩, c3⟩ := lp_run (z := fun _ _ => none) (F := fun rec => fb_X9_nightGoes_36 rec) (fun g (u : Wd) i => g (nI i) u) P (fun u => f_X9_nightGoes_66 u) (fun i u => (∀ k, k ≠ 109 → u k = s k) ∧ ∀ p, p < i → u 109 p = nI (cntB (fun q => decide (q < Q) && knR (y 101) q p) 6)) (fun g i u hi hI => by
    obtain ⟨c1, c2⟩ := hI
    have d101 : u 101 = y 101 := by rw [c1 101 (by omega), b101]
    obtain ⟨v, v1, v2⟩ := m_knowers (y := u) (p := i) (Q := Q) (by omega) hQ (by rw [d101]; exact h8)
    unfold fb_X9_nightGoes_36
    rw [m_r3, d101, h3, if_neg (nI_ge hi (by omega)), v1, bd_s, m_bits, bd_s, ast_nI (by omega) (by omega), nI_1]
    refine ⟨_, ⟨fun k hk => by rw [updW_cell hk]; exact c1 k hk, fun p hp => ?_⟩, rfl⟩
    rw [updW_get]
    by_cases e : p = i
    · subst e
      rw [if_pos ⟨rfl, rfl⟩]
      congr 1
      refine cntB_congr (fun q hq => ?_)
      rw [v2 q (by omega), d101]
    · rw [if_neg (fun z => e z.2)]; exact c2 p (by omega)) (fun g u hI => by
    unfold fb_X9_nightGoes_36
    rw [m_r3, hI.1 101 (by omega), b101, h3, if_pos (nI_le (Nat.le_refl _) (by omega))]) (by omega) s ⟨fun _ _ => rfl, fun q hq => by omega⟩
  have d101 : u 101 = y 101 := by rw [c1 101 (by omega), b101]
  have d106 : u 106 = y 106 := by rw [c1 106 (by omega), a1 106 (by omega)]
  have d108 : u 108 = s 108 := c1 108 (by omega)
  obtain ⟨w, ⟨e1, e2, e3⟩, e4⟩ := lp_run (z := fun _ _ => none) (F := fun rec => fb_X9_nightGoes_68 rec) (fun g (w : Wd) i => g (nI i) w) P (fun w => f_X9_nightGoes_261 w) (fun i w => NR (y 101) P Q (y 106) i (w 101) ∧ (∀ k, k ≠ 100 → k ≠ 101 → w k = u k) ∧ ∀ i, (i < 7 ∨ 14 < i) → w 100 i = u 100 i) (fun g i w hi hI => by
    obtain ⟨e1, e2, e3⟩ := hI
    rcases hRF i hi with hf | ⟨q, hq, hf⟩
    · refine ⟨w, ⟨NR_skip hf e1 hQ, e2, e3⟩, ?_⟩
      unfold fb_X9_nightGoes_68 f_X9_nightGoes_255
      rw [m_r3, e1.2.2 3 (by omega), h3, if_neg (nI_ge hi (by omega)), ald_nI (by omega) (by omega), e2 106 (by omega) (by omega), d106, hf, if_pos (by decide), nI_1]
    · obtain ⟨s', z1, z2, z3, z4⟩ := m_nstep (g := g) hW hl0 hl1 hi hq hf (by rw [e2 106 (by omega) (by omega), d106]) (by rw [e2 108 (by omega) (by omega), d108]; exact a2 q hq) (by rw [e2 109 (by omega) (by omega)]; exact c2 i hi) e1
      exact ⟨s', ⟨z2, fun k b1 b2 => by rw [z3 k b1 b2]; exact e2 k b1 b2, fun j hj => by rw [z4 j hj]; exact e3 j hj⟩, z1⟩) (fun g w hI => by
    unfold fb_X9_nightGoes_68
    rw [m_r3, hI.1.2.2 3 (by omega), h3, if_pos (nI_le (Nat.le_refl _) (by omega))]) (by omega) u ⟨by rw [d101]; exact NR_0, fun _ _ _ => rfl, fun _ _ => rfl⟩
  refine ⟨updW (updW w 101 1 0) 101 0 (y 101 0 + 1), w 101, ?_, e1, ?_, fun k k1 k2 k3 k4 => ?_, fun i hi => ?_⟩
  · refine a3.trans ?_
    unfold f_X9_nightGoes_34 f_X9_nightGoes_36
    refine c3.trans ?_
    unfold f_X9_nightGoes_66 f_X9_nightGoes_68
    refine e4.trans ?_
    unfold f_X9_nightGoes_261
    rw [m_s1, m_r0, m_s0, updW_place (by omega), e1.2.2 0 (by omega)]
  · rw [updW_row, updW_row]
  · rw [updW_cell k2, updW_cell k2, e2 k k1 k2, c1 k k4, a1 k k3]
  · rw [updW_cell (by omega), updW_cell (by omega), e3 i hi, c1 100 (by omega), a1 100 (by omega)]
def FXt (t : Nat) (x x' : Wd) : Prop := ∀ c, ¬ (t ≤ c ∧ c ≤ t + 8) → c ≠ 14 → c ≠ 15 → c ≠ 19 → c ≠ 20 → ¬ (58 ≤ c ∧ c ≤ 63) → x' c = x c
def FYn (y y' : Wd) : Prop := (∀ k, k ≠ 100 → k ≠ 101 → k ≠ 106 → k ≠ 108 → k ≠ 109 → y' k = y k) ∧ (∀ i, (i < 7 ∨ 14 < i) → y' 100 i = y 100 i) ∧ ∀ i, (2 ≤ i ∧ i < 9 ∨ 59 ≤ i) → y' 101 i = y 101 i
theorem FXt_refl (t : Nat) (x : Wd) : FXt t x x := fun _ _ _ _ _ _ _ => rfl
theorem FYn_refl (y : Wd) : FYn y y := ⟨fun _ _ _ _ _ _ => rfl, fun _ _ => rfl, fun _ _ => rfl⟩
theorem FXt_trans {t : Nat} {x y z : Wd} (h1 : FXt t x y) (h2 : FXt t y z) : FXt t x z := fun c a1 a2 a3 a4 a5 a6 => by rw [h2 c a1 a2 a3 a4 a5 a6, h1 c a1 a2 a3 a4 a5 a6]
theorem FYn_trans {x y z : Wd} (h1 : FYn x y) (h2 : FYn y z) : FYn x z := ⟨fun k a1 a2 a3 a4 a5 => by rw [h2.1 k a1 a2 a3 a4 a5, h1.1 k a1 a2 a3 a4 a5], fun i hi => by rw [h2.2.1 i hi, h1.2.1 i hi], fun i hi => by rw [h2.2.2 i hi, h1.2.2 i hi]⟩
theorem FYn_of {y y' : Wd} (h : FY y y') : FYn y y' := ⟨fun k _ _ a _ _ => h k a, fun i _ => by rw [h 100 (by omega)], fun i _ => by rw [h 101 (by omega)]⟩
theorem FXt_of {t : Nat} {x x' : Wd} (h : FC x x') : FXt t x x' := fun c _ _ _ _ _ a => h c (by omega) (by omega) (by omega) (by omega) (by omega) (by omega)
/-- class and reference with one troupe -/
def SR (x y : Wd) (t P Q n : Nat) : Prop := RT x t (y 101) P Q ∧ WF (y 101) P Q ∧ RLw x 11 (y 101) 0 ∧ RLw x 16 (y 101) 1 ∧ y 101 0 = nI n
theorem night_both {x y : Wd} {t b1 P Q n : Nat} (ht : t = 2 ∨ t = 49) (h : SR x y t P Q n) (hn : n < 20000) (hb : b1 = 59 ∨ ∃ s, s < 4 ∧ b1 = 72 + 2 * s) (hl : 5 ≤ lenX b1 ∧ lenX b1 ≤ 1000) (hf : ∀ j, j < P → x b1 j = y 106 j) (hRF : RF (y 106) P Q) : ∃ x' y', f_X6_play t b1 11 16 x = some x' ∧ f_X9_nightGoes y = some y' ∧ SR x' y' t P Q (n + 1) ∧ FXt t x x' ∧ FYn y y' := by
  obtain ⟨hR, hW, hl0, hl1, h0⟩ := h
  obtain ⟨x', g1, g2, g3⟩ := x_play ht hR hW hl0 hl1 hb hl hf hRF
  obtain ⟨y', r', k1, k2, k3, k4, k5⟩ := m_night hW hl0 hl1 hRF
  have hrow : ∀ i, (2 ≤ i ∧ i < 9 ∨ 59 ≤ i) → y' 101 i = y 101 i := fun i hi => by
    rw [k3, upd_ne (by omega), upd_ne (by omega), k2.2.2 i (by omega)]
  have hF : FXt t x x' := fun c a1 a2 a3 a4 a5 a6 => g2 c (by omega) (by omega) (by omega) (by omega) (by omega) a2 a3 a4 a5
  refine ⟨x', y', g1, k1, ⟨?_, ?_, ?_, ?_, ?_⟩, hF, ⟨fun k a1 a2 a3 a4 a5 => k4 k a1 a2 a4 a5, k5, hrow⟩⟩
  · rw [k3]; exact g3 r' k2
  · rw [k3]; exact WF_night hW k2 h0 hn
  · exact RLw_congr (g2 11 (by omega) (by omega) (by omega) (by omega) (by omega) (by omega) (by omega) (by omega) (by omega)) (g2 12 (by omega) (by omega) (by omega) (by omega) (by omega) (by omega) (by omega) (by omega) (by omega)) (g2 13 (by omega) (by omega) (by omega) (by omega) (by omega) (by omega) (by omega) (by omega) (by omega)) (hrow _ (by omega)) (fun i hi => hrow _ (by omega)) hl0
  · exact RLw_congr (g2 16 (by omega) (by omega) (by omega) (by omega) (by omega) (by omega) (by omega) (by omega) (by omega)) (g2 17 (by omega) (by omega) (by omega) (by omega) (by omega) (by omega) (by omega) (by omega) (by omega)) (g2 18 (by omega) (by omega) (by omega) (by omega) (by omega) (by omega) (by omega) (by omega) (by omega)) (hrow _ (by omega)) (fun i hi => hrow _ (by omega)) hl1
  · rw [k3]
    show y 101 0 + 1 = _
    rw [h0, nI_1]
theorem SR_search {x y x' y' : Wd} {t P Q n : Nat} (ht : t = 2 ∨ t = 49) (h : SR x y t P Q n) (hx : FC x x') (hy : FY y y') : SR x' y' t P Q n := by
  obtain ⟨hR, hW, hl0, hl1, h0⟩ := h
  have e : y' 101 = y 101 := hy 101 (by omega)
  have hc : ∀ c, c < 58 → x' c = x c := fun c hc => hx c (by omega) (by omega) (by omega) (by omega) (by omega) (by omega)
  refine ⟨?_, by rw [e]; exact hW, ?_, ?_, by rw [e]; exact h0⟩
  · rw [e]; exact RT_congr ⟨hW.1, hW.2.1⟩ (fun k k1 k2 => hc k (by omega)) (fun _ _ => rfl) hR
  · rw [e]; exact RLw_frame hl0 (hc _ (by omega)) (hc _ (by omega)) (hc _ (by omega))
  · rw [e]; exact RLw_frame hl1 (hc _ (by omega)) (hc _ (by omega)) (hc _ (by omega))
theorem FC_trans {x y z : Wd} (h1 : FC x y) (h2 : FC y z) : FC x z := fun c a1 a2 a3 a4 a5 a6 => by rw [h2 c a1 a2 a3 a4 a5 a6, h1 c a1 a2 a3 a4 a5 a6]
theorem RF_of {r : Rw} {P Q : Nat} {w : Int32} {f : Nat → Int32} {rp : Rp} (hG : GD (mbE r Q w) rp) (hRW : RW f rp) (hl : rp.length = P) : RF f P Q := fun j hj => by
  rcases GD_cd hG hRW j (by omega) with ⟨-, z⟩ | ⟨-, q, hq, z, -⟩
  · exact Or.inl z
  · exact Or.inr ⟨q, hq, z⟩
/-- the first casting, on both sides -/
theorem first_both {x y : Wd} {t P Q n : Nat} (ht : t = 2 ∨ t = 49) (h : SR x y t P Q n) : ∃ b xa x1 y1, f_X1_begin t 0 x = some xa ∧ f_X1_goesOn xa = some (bI b, x1) ∧ f_X9_isFirst y = some (bI b, y1) ∧ SR x1 y1 t P Q n ∧ FC x x1 ∧ FY y y1 ∧ (b = true → RF (y1 106) P Q ∧ (∀ j, j < P → x1 59 j = y1 106 j)) := by
  obtain ⟨hR, hW, hl0, hl1, h0⟩ := h
  obtain ⟨xa, a1, a2, a3⟩ := x_begin ht hR hW 0
  obtain ⟨x1, b1, b2, b3⟩ := x_goesOn hW.1 (mbE_7 hW.2.1) a3
  obtain ⟨y1, c1, c2, c3⟩ := y_isFirst hW
  refine ⟨_, xa, x1, y1, a1, b1, c1, SR_search ht ⟨hR, hW, hl0, hl1, h0⟩ (FC_trans a2 b2) c2, FC_trans a2 b2, c2, fun hb => ?_⟩
  rcases b3 with z | ⟨r, L', r1, r2, r3⟩
  · rw [z] at hb
    exact absurd hb (by decide)
  · rcases c3 with z | ⟨r', L'', q1, q2, q3⟩
    · have z' : comp (okE (mbE (y 101) Q 0) (alE (y 101))) P [] = [] := z
      rw [z'] at hb
      exact absurd hb (by decide)
    · have e : comp (okE (mbE (y 101) Q 0) (alE (y 101))) P [] = r' :: L'' := q1
      rw [r1] at e
      have er : r = r' := (List.cons.inj e).1
      subst er
      have e101 : y1 101 = y 101 := c2 101 (by omega)
      refine ⟨RF_of q2.2.1 q2.1 q2.2.2, fun j hj => RW_eq r2.2.2.1 q2.1 j (by rw [q2.2.2]; exact hj)⟩
theorem pf_step {x y : Wd} {t P Q n : Nat} (ht : t = 2 ∨ t = 49) (h : SR x y t P Q n) (hn : n < 20000) : ∃ b xa x1 y1, f_X1_begin t 0 x = some xa ∧ f_X1_goesOn xa = some (bI b, x1) ∧ f_X9_isFirst y = some (bI b, y1) ∧ (b = false → SR x1 y1 t P Q n ∧ FXt t x x1 ∧ FYn y y1 ∧ y1 101 = y 101) ∧ (b = true → ∃ x2 y2, f_X6_play t 59 11 16 x1 = some x2 ∧ f_X9_nightGoes y1 = some y2 ∧ SR x2 y2 t P Q (n + 1) ∧ FXt t x x2 ∧ FYn y y2) := by
  obtain ⟨b, xa, x1, y1, a1, a2, a3, a4, a5, a6, a7⟩ := first_both ht h
  refine ⟨b, xa, x1, y1, a1, a2, a3, fun _ => ⟨a4, FXt_of a5, FYn_of a6, a6 101 (by omega)⟩, fun hb => ?_⟩
  obtain ⟨hRF, hf⟩ := a7 hb
  obtain ⟨x2, y2, c1, c2, c3, c4, c5⟩ := night_both ht a4 hn (Or.inl rfl) ⟨by decide, by decide⟩ hf hRF
  exact ⟨x2, y2, c1, c2, c3, FXt_trans (FXt_of a5) c4, FYn_trans (FYn_of a6) c5⟩
theorem pf_go {t P Q m : Nat} (ht : t = 2 ∨ t = 49) (hm : m ≤ 1000) : ∀ (d i : Nat) (x y : Wd) (n fx fy : Nat), i + d = m → d < fx → d < fy → SR x y t P Q n → n + d ≤ 20000 → ∃ k x' y', lp (fun _ _ _ => none) (fun rec => fb_X8_playFirsts_2 t rec) fx (nI m) (nI i) x = some (nI k, x') ∧ lp (fun _ _ _ => none) (fun rec => fb_X9_seasonGoes_2 rec) fy (nI m) (nI i) y = some (nI k, y') ∧ i ≤ k ∧ k ≤ m ∧ SR x' y' t P Q (n + (k - i)) ∧ FXt t x x' ∧ FYn y y' ∧ (k = i → y' 101 = y 101) := by
  intro d
  induction d with
  | zero =>
    intro i x y n fx fy h1 h2 h3 h h4
    obtain ⟨f, rfl⟩ : ∃ f, fx = f + 1 := ⟨fx - 1, by omega⟩
    obtain ⟨g, rfl⟩ : ∃ f, fy = f + 1 := ⟨fy - 1, by omega⟩
    have hi : i = m := by omega
    subst hi
    refine ⟨i, x, y, ?_, ?_, Nat.le_refl _, Nat.le_refl _, by rw [Nat.sub_self]; exact h, FXt_refl _ _, FYn_refl _, fun _ => rfl⟩
    · rw [lp_s]
      generalize lp _ _ f = u
      show fb_X8_playFirsts_2 t u (nI i) (nI i) x = _
      unfold fb_X8_playFirsts_2
      rw [if_pos (nI_le (Nat.le_refl _) (by omega))]
    · rw [lp_s]
      generalize lp _ _ g = u
      show fb_X9_seasonGoes_2 u (nI i) (nI i) y = _
      unfold fb_X9_seasonGoes_2
      rw [if_pos (nI_le (Nat.le_refl _) (by omega))]
  | succ d ih =>
    intro i x y n fx fy h1 h2 h3 h h4
    obtain ⟨f, rfl⟩ : ∃ f, fx = f + 1 := ⟨fx - 1, by omega⟩
    obtain ⟨g, rfl⟩ : ∃ f, fy = f + 1 := ⟨fy - 1, by omega⟩
    obtain ⟨b, xa, x1, y1, a1, a2, a3, a4, a5⟩ := pf_step ht h (by omega)
    have eX : ∀ u, fb_X8_playFirsts_2 t u (nI m) (nI i) x = (if ¬ bI b = 0 then bd (f_X6_play t 59 11 16 x1) (fun q3 => u (nI m) (nI (i + 1)) q3) else some (nI i, x1)) := fun u => by
      unfold fb_X8_playFirsts_2
      rw [if_neg (nI_ge (by omega) (by omega)), a1, bd_s, a2, bd_s, nI_1]
    have eY : ∀ u, fb_X9_seasonGoes_2 u (nI m) (nI i) y = (if bI b = 0 then some (nI i, y1) else bd (f_X9_nightGoes y1) (fun q2 => u (nI m) (nI (i + 1)) q2)) := fun u => by
      unfold fb_X9_seasonGoes_2
      rw [if_neg (nI_ge (by omega) (by omega)), a3, bd_s, nI_1]
    rw [lp_s, lp_s]
    cases b with
    | false =>
      obtain ⟨c1, c2, c3, c4⟩ := a4 rfl
      refine ⟨i, x1, y1, (eX _).trans ?_, (eY _).trans ?_, Nat.le_refl _, by omega, by rw [Nat.sub_self]; exact c1, c2, c3, fun _ => c4⟩
      · rw [if_neg (fun z => z rfl)]
      · rw [if_pos bI_f]
    | true =>
      obtain ⟨x2, y2, c1, c2, c3, c4, c5⟩ := a5 rfl
      obtain ⟨k, x', y', d1, d2, d3, d4, d5, d6, d7, -⟩ := ih (i + 1) x2 y2 (n + 1) f g (by omega) (by omega) (by omega) c3 (by omega)
      refine ⟨k, x', y', (eX _).trans ?_, (eY _).trans ?_, by omega, d4, by rw [show n + (k - i) = n + 1 + (k - (i + 1)) by omega]; exact d5, FXt_trans c4 d6, FYn_trans c5 d7, fun z => by omega⟩
      · rw [if_pos (by decide), c1, bd_s]; exact d1
      · rw [if_neg (by decide), c2, bd_s]; exact d2
theorem pf_season {x y : Wd} {t P Q n m : Nat} (ht : t = 2 ∨ t = 49) (hm : m ≤ 1000) (h : SR x y t P Q n) (hn : n + m ≤ 20000) : ∃ k x' y', f_X8_playFirsts t (nI m) x = some (nI k, x') ∧ f_X9_seasonGoes (nI m) y = some (nI k, y') ∧ k ≤ m ∧ SR x' y' t P Q (n + k) ∧ FXt t x x' ∧ FYn y y' ∧ (k = 0 → y' 101 = y 101) := by
  obtain ⟨k, x', y', a1, a2, a3, a4, a5, a6, a7, a8⟩ := pf_go ht hm m 0 x y n FU FU (by omega) (FU_lt (by omega)) (FU_lt (by omega)) h hn
  exact ⟨k, x', y', a1, a2, a4, by rw [Nat.sub_zero] at a5; exact a5, a6, a7, a8⟩
end NB
