section CK
theorem RT_skip {x : Wd} {t P Q : Nat} {r r' : Rw} (hP : P ≤ 5) (hQ : Q ≤ 6) (hr : ∀ i, i < 59 → i ≠ 2 → i ≠ 4 → i ≠ 5 → r' i = r i) (h : RT x t r P Q) : RT x t r' P Q := by
  obtain ⟨⟨a1, a2, a3, a4⟩, b1, b2, b3, b4, b5⟩ := h
  refine ⟨⟨a1, a2, by rw [hr 1 (by omega) (by omega) (by omega) (by omega)]; exact a3, by rw [hr 0 (by omega) (by omega) (by omega) (by omega)]; exact a4⟩, fun p hp => ?_, fun q hq => ?_, fun i hi => ?_, b4, b5⟩
  · rw [hr (9 + 4 * p) (by omega) (by omega) (by omega) (by omega), hr (10 + 4 * p) (by omega) (by omega) (by omega) (by omega), hr (11 + 4 * p) (by omega) (by omega) (by omega) (by omega), hr (12 + 4 * p) (by omega) (by omega) (by omega) (by omega)]; exact b1 p hp
  · rw [hr (29 + 5 * q) (by omega) (by omega) (by omega) (by omega), hr (30 + 5 * q) (by omega) (by omega) (by omega) (by omega), hr (31 + 5 * q) (by omega) (by omega) (by omega) (by omega), hr (32 + 5 * q) (by omega) (by omega) (by omega) (by omega)]; exact b2 q hq
  · rw [b3 i hi]
    by_cases e : i < Q
    · rw [hr (33 + 5 * i) (by omega) (by omega) (by omega) (by omega)]
    · rw [decide_eq_false e]; rfl
theorem WF_skip {r r' : Rw} {P Q : Nat} (hr : ∀ i, i < 59 → i ≠ 2 → i ≠ 4 → i ≠ 5 → r' i = r i) (h : WF r P Q) : WF r' P Q := by
  obtain ⟨h1, h2, h3, h4, h5, h6, h7, h8⟩ := h
  refine ⟨h1, h2, by rw [hr 3 (by omega) (by omega) (by omega) (by omega)]; exact h3, by rw [hr 8 (by omega) (by omega) (by omega) (by omega)]; exact h4, by rw [hr 0 (by omega) (by omega) (by omega) (by omega)]; exact h5, by rw [hr 1 (by omega) (by omega) (by omega) (by omega)]; exact h6, fun p hp => ?_, fun q hq => ?_⟩
  · rw [hr (9 + 4 * p) (by omega) (by omega) (by omega) (by omega), hr (10 + 4 * p) (by omega) (by omega) (by omega) (by omega), hr (11 + 4 * p) (by omega) (by omega) (by omega) (by omega), hr (12 + 4 * p) (by omega) (by omega) (by omega) (by omega)]
    exact h7 p hp
  · rw [hr (29 + 5 * q) (by omega) (by omega) (by omega) (by omega), hr (30 + 5 * q) (by omega) (by omega) (by omega) (by omega), hr (31 + 5 * q) (by omega) (by omega) (by omega) (by omega), hr (32 + 5 * q) (by omega) (by omega) (by omega) (by omega), hr (33 + 5 * q) (by omega) (by omega) (by omega) (by omega)]
    exact h8 q hq
theorem ck_go {P Q W : Nat} (hW20 : W ≤ 20) : ∀ (d i : Nat) (x y : Wd) (n fx fy : Nat), i + d = W → d + 1 < fx → d + 1 < fy → SR x y 49 P Q n → n + d ≤ 19000 → x 23 1 = nI W → (∀ j, j < W → x 24 j = y 101 (109 + j)) →
    ∃ (a : Int32) (x' y' : Wd), lp (fun _ _ _ => none) (fun rec => fb_X8_check_9 rec) fx 0 (nI i) x = some (a, updW x' 23 1 0) ∧ lp (fun _ _ _ _ => none) (fun rec => fb_X9_check_30 rec) fy (nI W) (nI i) 1 y = bd (f_X9_moveAll 103 101 y') (fun q => some (a, q)) ∧ FXt 49 x x' ∧ FYn y y' := by
  intro d
  induction d with
  | zero =>
    intro i x y n fx fy h1 h2 h3 h h4 h23 h24
    obtain ⟨f, rfl⟩ : ∃ f, fx = f + 1 := ⟨fx - 1, by omega⟩
    obtain ⟨g, rfl⟩ : ∃ f, fy = f + 1 := ⟨fy - 1, by omega⟩
    have hi : i = W := by omega
    subst hi
    have eX : ∀ u, fb_X8_check_9 u 0 (nI i) x = some (0, updW x 23 1 0) := fun u => by
      unfold fb_X8_check_9 f_X8_check_63 f_X4_clear
      rw [h23, if_pos (nI_le (Nat.le_refl _) (by omega)), wl_s, bd_s]
    have eY : ∀ u, fb_X9_check_30 u (nI i) (nI i) 1 y = bd (f_X9_moveAll 103 101 y) (fun q => some (0, q)) := fun u => by
      unfold fb_X9_check_30 f_X9_check_88
      rw [if_pos (nI_le (Nat.le_refl _) (by omega))]
      simp only [if_neg (by decide : ¬ (1:Int32) = 0)]
    rw [lp_s, lp_s]
    exact ⟨0, x, y, eX _, eY _, FXt_refl _ _, FYn_refl _⟩
  | succ d ih =>
    intro i x y n fx fy h1 h2 h3 h h4 h23 h24
    obtain ⟨f, rfl⟩ : ∃ f, fx = f + 2 := ⟨fx - 2, by omega⟩
    obtain ⟨g, rfl⟩ : ∃ f, fy = f + 2 := ⟨fy - 2, by omega⟩
    obtain ⟨k, x1, y1, hk1, a1, a2, a3, a4, a5, a6⟩ := one_both (Or.inr rfl) h (by omega)
    have hQ := a3.2.1.2.1
    have c24 : x1 24 = x 24 := a4 24 (by omega) (by omega) (by omega) (by omega) (by omega) (by omega)
    have c23 : x1 23 = x 23 := a4 23 (by omega) (by omega) (by omega) (by omega) (by omega) (by omega)
    have hp : f_X9_purses y1 = f_X6_allPurses 49 x1 := by
      rw [m_purses hQ a3.2.1.2.2.2.1, x_allPurses rfl hQ a3.1.1.2.1]
      congr 1
      exact sumN_eq (fun q hq => ((a3.1.2.2.1 q hq).2.2.2).symm)
    obtain ⟨s, hs⟩ : ∃ s, f_X6_allPurses 49 x1 = some s := ⟨_, x_allPurses rfl hQ a3.1.1.2.1⟩
    have e109 : (109:Int32) + nI i = nI (109 + i) := by rw [show (109:Int32) = nI 109 from rfl, nI_add]
    have ev : y1 101 (109 + i) = x 24 i := by rw [a5.2.2 _ (by omega), h24 i (by omega)]
    have eX : ∀ u, fb_X8_check_9 u 0 (nI i) x = (if x 24 i = s then u 0 (nI (i + 1)) x1 else u (1 + nI i) (nI (i + 1)) x1) := fun u => by
      unfold fb_X8_check_9 f_X8_check_57
      rw [h23, if_neg (nI_ge (by omega) (by omega)), if_neg (fun z => z rfl), a1, bd_s]
      dsimp only
      rw [ald_nI (by omega) (by omega), hs, bd_s, c24, nI_1]
      rfl
    have eX2 : ∀ u a, ¬ a = 0 → fb_X8_check_9 u a (nI (i + 1)) x1 = some (a, updW x1 23 1 0) := fun u a ha => by
      unfold fb_X8_check_9 f_X8_check_63 f_X4_clear
      rw [if_pos ha, wl_s, bd_s]
      split <;> rfl
    have eY : ∀ u, fb_X9_check_30 u (nI W) (nI i) 1 y = (if x 24 i = s then u (nI W) (nI (i + 1)) 1 y1 else u (nI W) (nI i) 0 y1) := fun u => by
      unfold fb_X9_check_30 f_X9_check_71 f_X9_check_72 f_X9_check_83
      rw [if_neg (nI_ge (by omega) (by omega)), if_neg (by decide), a2, bd_s]
      dsimp only
      rw [if_neg (nI_pos (by omega)), hp, hs, bd_s, e109, m_rowN (by omega), ev]
      by_cases e : x 24 i = s
      · rw [if_pos e, if_neg (fun z => z e.symm), if_neg (by decide), lv_s, nI_1]
      · rw [if_neg e, if_pos (fun z => e z.symm), if_pos rfl, lv_s]
        rw [show nI i + (0:Int32) = nI i from Int32.add_zero _]
    have eY2 : ∀ u, fb_X9_check_30 u (nI W) (nI i) 0 y1 = bd (f_X9_moveAll 103 101 y1) (fun q => some (1 + nI i, q)) := fun u => by
      unfold fb_X9_check_30 f_X9_check_88
      rw [if_neg (nI_ge (by omega) (by omega)), if_pos rfl]
      simp only [if_true]
    rw [lp_s, lp_s]
    by_cases e : x 24 i = s
    · obtain ⟨a, x', y', c1, c2, c3, c4⟩ := ih (i + 1) x1 y1 (n + k) (f + 1) (g + 1) (by omega) (by omega) (by omega) a3 (by omega) (by rw [c23]; exact h23) (fun j hj => by rw [c24, a5.2.2 _ (by omega)]; exact h24 j hj)
      refine ⟨a, x', y', (eX _).trans ?_, (eY _).trans ?_, FXt_trans a4 c3, FYn_trans a5 c4⟩
      · rw [if_pos e]; exact c1
      · rw [if_pos e]; exact c2
    · refine ⟨1 + nI i, x1, y1, (eX _).trans ?_, (eY _).trans ?_, a4, a5⟩
      · rw [if_neg e]
        refine eX2 _ _ ?_
        rw [show (1:Int32) = nI 1 from rfl, nI_add]
        exact nI_ne0 (by omega) (by omega)
      · rw [if_neg e]
        exact eY2 _
theorem st_check : St_check Rel := by
  intro n x y hn h
  obtain ⟨P, Q, n', hn', hS⟩ := SR_of h
  have hS0 := hS
  obtain ⟨hR, hW, hl0, hl1, h0⟩ := hS
  obtain ⟨-, -, -, -, -, hT, ⟨W, w1, w2, w3, w4⟩⟩ := h.1
  have hP := hW.1
  have hQ := hW.2.1
  have e0 : ∀ i, updW y 101 5 0 101 i = if i = 5 then 0 else y 101 i := fun i => by
    rw [updW_get]
    by_cases z : i = 5
    · rw [if_pos ⟨rfl, z⟩, if_pos z]
    · rw [if_neg (fun q => z q.2), if_neg z]
  have hR0 : Rel (n + 1) (updW x 23 1 0) (updW y 101 5 0) := by
    refine Rel_rows h (fun k hk => updW_cell (by omega)) (fun k hk => updW_cell hk) (fun i _ z _ => by rw [e0, if_neg z]) ?_ ⟨0, by omega, by rw [e0, if_pos rfl]; rfl, by rw [updW_self]; rfl, fun i hi => by omega⟩
    obtain ⟨t, t1, t2, t3, t4⟩ := hT
    exact ⟨t, t1, by rw [e0, if_neg (by omega)]; exact t2, by rw [updW_cell (by omega)]; exact t3, fun i hi => by rw [updW_cell (by omega), e0, if_neg (by omega)]; exact t4 i hi⟩
  have hsk : ∀ i, i < 59 → i ≠ 2 → i ≠ 4 → i ≠ 5 → updW y 101 5 0 101 i = y 101 i := fun i _ _ _ z => by rw [e0, if_neg z]
  obtain ⟨x1, a1, a2, a3⟩ := x_think (RT_skip hP hQ hsk hR) (WF_skip hsk hW)
  obtain ⟨y1, b1, b2, -, b3⟩ := m_moveAll (y := updW y 101 5 0) (a := 101) (b := 103) rfl rfl (by omega)
  have e1 : y1 101 = updW y 101 5 0 101 := b3 101 (by omega)
  have hSR : SR x1 y1 49 P Q n' := by
    refine ⟨by rw [e1]; exact a2, by rw [e1]; exact WF_skip hsk hW, ?_, ?_, by rw [e1, e0, if_neg (by omega)]; exact h0⟩
    · rw [e1]
      exact RLw_congr (a3 _ (by omega)) (a3 _ (by omega)) (a3 _ (by omega)) (by rw [e0, if_neg (by omega)]) (fun i hi => by rw [e0, if_neg (by omega)]) hl0
    · rw [e1]
      exact RLw_congr (a3 _ (by omega)) (a3 _ (by omega)) (a3 _ (by omega)) (by rw [e0, if_neg (by omega)]) (fun i hi => by rw [e0, if_neg (by omega)]) hl1
  obtain ⟨a, x2, y2, c1, c2, c3, c4⟩ := ck_go w1 W 0 x1 y1 n' FU FU (by omega) (FU_lt (by omega)) (FU_lt (by omega)) hSR (by omega) (by rw [a3 _ (by omega)]; exact w3) (fun j hj => by rw [a3 _ (by omega), e1, e0, if_neg (by omega)]; exact w4 j hj)
  have hFX : FXt 49 (updW x 23 1 0) (updW x2 23 1 0) := fun c z1 z2 z3 z4 z5 z6 => by
    have hc : x2 c = x c := by rw [c3 c z1 z2 z3 z4 z5 z6, a3 c (by omega)]
    by_cases z : c = 23
    · subst z
      funext i
      rw [updW_get, updW_get, hc]
    · rw [updW_cell z, updW_cell z, hc]
  obtain ⟨y3, d1, d2, d3, d4⟩ := th_end (x := updW x 23 1 0) (y := updW y 101 5 0) hR0 hFX (FYk_trans (FYk_c (Or.inr (Or.inl rfl)) b3) (FYk_n c4)) (fun i hi => by rw [c4.1 103 (by omega) (by omega) (by omega) (by omega) (by omega)]; exact b2 i hi) (fun i hi => by rw [c4.2.2 i (by omega), e1])
  refine ⟨a, updW x2 23 1 0, y3, ?_, ?_, d2⟩
  · unfold f_X8_check
    rw [a1, bd_s]
    exact c1
  · unfold f_X9_check
    rw [show (5:Int32) = nI 5 from rfl, m_rowN (by omega), ast_nI (by omega) (by omega), b1, bd_s, w2]
    refine c2.trans ?_
    rw [d1, bd_s]
end CK
