section SH
theorem Rel_sh {n : Nat} {x y x' y' : Wd} (h : Rel n x y) (hx : ∀ k, ¬ (71 ≤ k ∧ k ≤ 78) → x' k = x k) (hy : ∀ k, ¬ (110 ≤ k ∧ k ≤ 113) → y' k = y k) (hS : RS x' y') : Rel (n + 1) x' y' := by
  obtain ⟨h1, ⟨k, k1, k2, k3, k4, k5, k6, k7⟩, he, -, ⟨t, t1, t2, t3, t4⟩⟩ := h
  refine ⟨?_, ⟨k, by omega, by rw [hx 0 (by omega)]; exact k2, by rw [hy 100 (by omega)]; exact k3, by rw [hy 100 (by omega)]; exact k4, fun hk => ?_, by rw [hx 35 (by omega)]; exact k6, by rw [hx 40 (by omega)]; exact k7⟩, fun k hk => ?_, hS, ⟨t, t1, by rw [hx 68 (by omega)]; exact t2, by rw [hy 100 (by omega)]; exact t3, fun i hi => by rw [hx 69 (by omega), hy 114 (by omega)]; exact t4 i hi⟩⟩
  · rw [hy 101 (by omega)]; exact RB_congr (fun k k1 k2 => hx k (by omega)) h1
  · rw [hy 102 (by omega)]; exact RB_congr (fun k k1 k2 => hx k (by omega)) (k5 hk)
  · rw [hx 80 (by omega), hy 105 (by omega)]; exact he k hk
theorem x_sheetAt_ok {x : Wd} {s : Nat} (hs : s < 4) : f_X8_sheetAt x (nI s) = some (some (71 + 2 * s)) := by
  unfold f_X8_sheetAt
  rw [x_within, bd_s, bI_ite0, dT ⟨nI_pos' (by omega), (show nI s ≤ 3 from nI_le (a := s) (b := 3) (by omega) (by omega))⟩]
  rcases (by omega : s = 0 ∨ s = 1 ∨ s = 2 ∨ s = 3) with rfl | rfl | rfl | rfl <;> rfl
theorem x_sheetAt_no {x : Wd} {p : Int32} (h : ¬ (0 ≤ p ∧ p ≤ 3)) : f_X8_sheetAt x p = some none := by
  unfold f_X8_sheetAt
  rw [x_within, bd_s, bI_ite0, dF h]
theorem m_isSheet (p : Int32) : f_X9_isSheet p = some (bI (decide (0 ≤ p ∧ p ≤ 3))) := by
  unfold f_X9_isSheet
  rw [m_in, bd_s, zk_b]
theorem oc_n {α : Type} {g : Nat → Bool} {A : Option α} {B : Nat → Option α} : oc none g A B = A := rfl
theorem oc_sh {α : Type} {s : Nat} (hs : s < 4) {A : Option α} {B : Nat → Option α} : oc (some (71 + 2 * s)) isSh A B = B (71 + 2 * s) := by
  unfold oc
  rcases (by omega : s = 0 ∨ s = 1 ∨ s = 2 ∨ s = 3) with rfl | rfl | rfl | rfl <;> rfl
theorem x_renew {x : Wd} {b : Nat} {v l : Int32} : ∃ x', f_X5_renew b v l x = some x' ∧ x' b 0 = v ∧ x' b 1 = l ∧ (∀ i, i < 40 → x' (b + 1) i = 0) ∧ ∀ k, k ≠ b → k ≠ b + 1 → x' k = x k := by
  unfold f_X5_renew f_X5_renew_12
  rw [wl_s, wl_s]
  obtain ⟨s, ⟨h1, h2, h3⟩, h4⟩ := lp_run (z := fun _ _ => none) (F := fun rec => fb_X5_renew_12 b rec) (fun g (s : Wd) i => g (nI i) s) 40 some (fun i s => s b = (updW (updW x b 0 v) b 1 l) b ∧ (∀ j, j < i → s (b + 1) j = 0) ∧ ∀ k, k ≠ b → k ≠ b + 1 → s k = x k) (fun g i s hi hI => by
    obtain ⟨i1, i2, i3⟩ := hI
    refine ⟨updW s (b + 1) i 0, ⟨by rw [updW_cell (by omega)]; exact i1, fun j hj => ?_, fun k k1 k2 => by rw [updW_cell k2]; exact i3 k k1 k2⟩, ?_⟩
    · rw [updW_get]
      by_cases q : j = i
      · rw [if_pos ⟨rfl, q⟩]
      · rw [if_neg (fun z => q z.2)]; exact i2 j (by omega)
    · unfold fb_X5_renew_12
      rw [if_neg (show ¬ (40:Int32) ≤ nI i from nI_ge (a := i) (b := 40) hi (by omega)), ast_nI hi (by omega), nI_1]) (fun g s hI => by
    unfold fb_X5_renew_12
    rw [if_pos (by decide)]) (by omega) (updW (updW x b 0 v) b 1 l) ⟨rfl, fun j hj => by omega, fun k k1 k2 => by rw [updW_cell k1, updW_cell k1]⟩
  exact ⟨s, h4, by rw [h1, updW_place (by omega), updW_self], by rw [h1, updW_self], h2, h3⟩
theorem ix_40 (s i : Nat) : (40:Int32) * nI s + nI i = nI (40 * s + i) := by rw [show (40:Int32) = nI 40 from rfl, nI_mul, nI_add]
theorem m_renew {y : Wd} {s : Nat} (hs : s < 4) : ∃ y', f_X9_sheet_93 (nI s) 0 y = some (1, y') ∧ (∀ j, y' 112 j = if 40 * s ≤ j ∧ j < 40 * s + 40 then 0 else y 112 j) ∧ ∀ k, k ≠ 112 → y' k = y k := by
  unfold f_X9_sheet_93
  obtain ⟨u, ⟨h1, h2⟩, h4⟩ := lp_run (z := fun _ _ _ => none) (F := fun rec => fb_X9_sheet_93 rec) (fun g (u : Wd) i => g (nI s) (nI i) u) 40 (fun u => some ((1:Int32), u)) (fun i u => (∀ j, u 112 j = if 40 * s ≤ j ∧ j < 40 * s + i then 0 else y 112 j) ∧ ∀ k, k ≠ 112 → u k = y k) (fun g i u hi hI => by
    obtain ⟨i1, i2⟩ := hI
    refine ⟨updW u 112 (40 * s + i) 0, ⟨fun j => ?_, fun k k1 => by rw [updW_cell k1]; exact i2 k k1⟩, ?_⟩
    · rw [updW_get]
      by_cases q : j = 40 * s + i
      · rw [if_pos ⟨rfl, q⟩, if_pos (by omega)]
      · rw [if_neg (fun z => q z.2), i1 j]
        by_cases w : 40 * s ≤ j ∧ j < 40 * s + i
        · rw [if_pos w, if_pos (by omega)]
        · rw [if_neg w, if_neg (by omega)]
    · unfold fb_X9_sheet_93
      rw [if_neg (show ¬ (40:Int32) ≤ nI i from nI_ge (a := i) (b := 40) hi (by omega)), ix_40, ast_nI (by omega) (by omega), nI_1]) (fun g u hI => by
    unfold fb_X9_sheet_93
    rw [if_pos (by decide)]) (by omega) y ⟨fun j => by rw [if_neg (by omega)], fun k k1 => rfl⟩
  exact ⟨u, h4, h1, h2⟩
theorem sheet_do {n : Nat} {x y : Wd} {s l : Nat} {v : Int32} (h : Rel n x y) (hs : s < 4) (hl : l ≤ 40) (hv : v = 0 ∨ v = 8 ∨ v = 16 ∨ v = 32) : ∃ (r : Int32) (x' y' : Wd), bd (f_X5_renew (71 + 2 * s) v (nI l) x) (fun q1 => some ((1:Int32), q1)) = some (r, x') ∧ ast y 110 4 (nI s) v (fun w1 => ast w1 111 4 (nI s) (nI l) (fun w1 => f_X9_sheet_93 (nI s) 0 w1)) = some (r, y') ∧ Rel (n + 1) x' y' := by
  obtain ⟨x', e1, a1, a2, a3, a4⟩ := x_renew (x := x) (b := 71 + 2 * s) (v := v) (l := nI l)
  obtain ⟨y', e2, b1, b2⟩ := m_renew (y := updW (updW y 110 s v) 111 s (nI l)) hs
  rw [e1, bd_s, ast_nI hs (by omega), ast_nI hs (by omega), e2]
  refine ⟨1, x', y', rfl, rfl, Rel_sh h (fun k hk => a4 k (by omega) (by omega)) (fun k hk => by rw [b2 k (by omega), updW_cell (by omega), updW_cell (by omega)]) (fun u hu => ?_)⟩
  rw [b2 110 (by omega), b2 111 (by omega), updW_cell (k := 111) (k' := 110) (by omega), updW_get, updW_get, updW_cell (k' := 111) (k := 110) (by omega)]
  by_cases q : u = s
  · subst q
    rw [if_pos ⟨rfl, rfl⟩, if_pos ⟨rfl, rfl⟩]
    refine ⟨⟨a1, hv⟩, ⟨l, hl, rfl, a2⟩, fun i hi => ?_⟩
    rw [show 72 + 2 * u = 71 + 2 * u + 1 by omega, a3 i hi, b1, if_pos (by omega)]
  · rw [if_neg (fun z => q z.2), if_neg (fun z => q z.2), a4 (71 + 2 * u) (by omega) (by omega), a4 (72 + 2 * u) (by omega) (by omega)]
    obtain ⟨r1, r2, r3⟩ := h.2.2.2.1 u hu
    refine ⟨r1, r2, fun i hi => ?_⟩
    rw [b1, if_neg (by omega), updW_cell (by omega), updW_cell (by omega)]
    exact r3 i hi
theorem sheet_in {n : Nat} {x y : Wd} {s : Nat} {v p : Int32} (h : Rel n x y) (hs : s < 4) (hv : v = 0 ∨ v = 8 ∨ v = 16 ∨ v = 32) : ∃ (r : Int32) (x' y' : Wd), f_X8_sheet_40 (71 + 2 * s) v p x = some (r, x') ∧ f_X9_sheet_36 (nI s) v p y = some (r, y') ∧ Rel (n + 1) x' y' := by
  unfold f_X8_sheet_40 f_X8_sheet_54 f_X8_sheet_70 f_X8_sheet_82 f_X9_sheet_36 f_X9_sheet_51 f_X9_sheet_68 f_X9_sheet_89
  by_cases c0 : v = 0
  · rw [if_pos c0, if_pos c0, if_neg (fun q => q c0), if_pos c0, if_pos c0]
    simp only [if_neg (fun q : ¬ v = 0 => q c0)]
    exact sheet_do (l := 0) h hs (by omega) hv
  · rw [if_neg c0, if_neg c0, if_pos c0, if_neg c0, if_neg c0]
    simp only [if_pos c0]
    by_cases c1 : 0 ≤ p
    · rw [if_pos c1, if_pos c1]
      by_cases c2 : p ≤ 40
      · rw [if_pos c2, if_pos c2]
        obtain ⟨l, hl, rfl⟩ := (in_nI (N := 40) (by omega)).mp ⟨c1, c2⟩
        exact sheet_do h hs hl hv
      · rw [if_neg c2, if_neg c2]
        exact st_fail h 1 _ _ (by omega) rfl (by decide)
    · rw [if_neg c1, if_neg c1]
      exact st_fail h 3 _ _ (by omega) rfl (by decide)
theorem st_sheet : St_sheet Rel := by
  intro n x y p1 p2 p3 hn h
  unfold f_X8_sheet f_X9_sheet
  rw [m_isSheet, bd_s, bI_ite0]
  by_cases c : 0 ≤ p1 ∧ p1 ≤ 3
  · obtain ⟨s, hs, rfl⟩ := (in_nI (N := 3) (by omega)).mp c
    rw [dT c, x_sheetAt_ok (by omega), bd_s, oc_sh (by omega)]
    by_cases c0 : p2 = 0
    · rw [if_pos c0, if_pos c0]; exact sheet_in h (by omega) (Or.inl c0)
    rw [if_neg c0, if_neg c0]
    by_cases c8 : p2 = 8
    · rw [if_pos c8, if_pos c8]; exact sheet_in h (by omega) (Or.inr (Or.inl c8))
    rw [if_neg c8, if_neg c8]
    by_cases c16 : p2 = 16
    · rw [if_pos c16, if_pos c16]; exact sheet_in h (by omega) (Or.inr (Or.inr (Or.inl c16)))
    rw [if_neg c16, if_neg c16]
    by_cases c32 : p2 = 32
    · rw [if_pos c32, if_pos c32]; exact sheet_in h (by omega) (Or.inr (Or.inr (Or.inr c32)))
    rw [if_neg c32, if_neg c32]
    exact st_fail h 1 _ _ (by omega) rfl (by decide)
  · rw [dF c, x_sheetAt_no c, bd_s, oc_n]
    exact st_fail h 1 _ _ (by omega) rfl (by decide)
end SH
