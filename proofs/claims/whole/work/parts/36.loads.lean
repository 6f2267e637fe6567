section SJ
theorem min_nI {a b : Nat} (ha : a < 2 ^ 31) (hb : b < 2 ^ 31) : mmin (nI a) (nI b) = nI (min a b) := by
  unfold mmin
  by_cases c : b < a
  · rw [if_pos (nI_lt c ha), show min a b = b by omega]
  · rw [if_neg (Int32.not_lt.mpr (nI_le (by omega) hb)), show min a b = a by omega]
theorem st_loads : St_loads Rel := by
  intro n x y p1 hn h
  unfold f_X8_loads f_X9_loads
  rw [m_isSheet, bd_s, bI_ite1]
  by_cases c : 0 ≤ p1 ∧ p1 ≤ 3
  · obtain ⟨s, hs, rfl⟩ := (in_nI (N := 3) (by omega)).mp c
    obtain ⟨⟨r1, r1'⟩, ⟨l, l1, l2, l3⟩, r3⟩ := h.2.2.2.1 s (by omega)
    obtain ⟨P, Q, hW, hR⟩ := h.1.1
    have hP := hW.1
    have w3 := hW.2.2.1
    rw [dT c, x_sheetAt_ok (by omega), bd_s, oc_sh (by omega), x_isMissing, bd_s, bI_ite0, ald_nI (by omega) (by omega), r1]
    by_cases c0 : y 110 s = 0
    · rw [dT c0, if_neg (fun q => q c0)]
      exact st_fail h 2 _ _ (by omega) rfl (by decide)
    · rw [dF c0, if_pos c0, lv_s, l3, show x 2 0 = nI P from hR.1.1, min_nI (by omega) (by omega)]
      unfold f_X8_loads_50 f_X9_loads_32
      suffices hs2 : ∀ d i x y f, i + d = min l P → d < f → Rel n x y → y 101 3 = nI P → y 111 s = nI l → ∃ r x' y', lp (fun _ _ _ => none) (fun rec => fb_X8_loads_50 (71 + 2 * s) rec) f (nI (min l P)) (nI i) x = some (r, x') ∧ lp (fun _ _ _ => none) (fun rec => fb_X9_loads_32 rec) f (nI s) (nI i) y = some (r, y') ∧ Rel (n + 1) x' y' from hs2 (min l P) 0 x y FU (by omega) (FU_lt (by omega)) h w3 l2
      clear h r1 r1' l2 l3 r3 hR hW w3 c0
      intro d
      induction d with
      | zero =>
        intro i x y f h1 h2 hr h3 h4
        obtain ⟨g, rfl⟩ : ∃ g, f = g + 1 := ⟨f - 1, by omega⟩
        have hi : i = min l P := by omega
        rw [lp_s, lp_s]
        unfold fb_X8_loads_50 fb_X9_loads_32
        rw [if_pos (nI_le (by omega) (by omega)), ald_nI (by omega) (by omega), h4, m_r3, h3]
        by_cases z : l ≤ i
        · rw [if_pos (nI_le z (by omega))]
          exact Rel_same hr rfl rfl
        · rw [if_neg (nI_ge (by omega) (by omega)), if_pos (nI_le (by omega) (by omega))]
          exact Rel_same hr rfl rfl
      | succ d ih =>
        intro i x y f h1 h2 hr h3 h4
        obtain ⟨g, rfl⟩ : ∃ g, f = g + 1 := ⟨f - 1, by omega⟩
        rw [lp_s, lp_s]
        generalize hA : lp (fun _ _ _ => none) (fun rec => fb_X8_loads_50 (71 + 2 * s) rec) g = A at ih ⊢
        generalize hB : lp (fun _ _ _ => none) (fun rec => fb_X9_loads_32 rec) g = B at ih ⊢
        obtain ⟨-, -, r3⟩ := hr.2.2.2.1 s (by omega)
        have e := r3 i (by omega)
        rw [show 72 + 2 * s = 71 + 2 * s + 1 by omega] at e
        unfold fb_X8_loads_50 fb_X9_loads_32
        rw [if_neg (nI_ge (by omega) (by omega)), ald_nI (by omega) (by omega), ald_nI (by omega) (by omega), ald_nI (by omega) (by omega), h4, m_r3, h3, if_neg (nI_ge (by omega) (by omega)), if_neg (nI_ge (by omega) (by omega)), ix_40, ald_nI (by omega) (by omega), ald_nI (by omega) (by omega), x_within, m_in, bd_s, bd_s, e, bI_ite0, bI_ite0]
        by_cases c2 : (0:Int32) ≤ y 112 (40 * s + i) ∧ y 112 (40 * s + i) ≤ 99
        · rw [dT c2, dT c2]
          obtain ⟨j, hj, ej⟩ := (in_nI (N := 99) (by omega)).mp c2
          rw [ej, ast_nI (by omega) (by omega), ix_its, ix_2, ast_nI (by omega) (by omega), nI_1]
          obtain ⟨P', Q, hW, hR⟩ := hr.1.1
          have eP : P' = P := by
            have := hW.1
            have w := hW.2.2.1
            rw [h3, nI_eq (by omega) (by omega)] at w
            exact w.symm
          subst eP
          have hr' : Rel (n + 1) (updW x 5 i (nI j)) (updW y 101 (11 + 4 * i) (nI j)) := by
            refine Rel_tr hr (fun k hk => updW_cell (by omega)) (fun k hk => updW_cell hk) (fun i hi => updW_place (by omega)) ?_ ⟨P', Q, ?_, ?_⟩
            · rw [updW_place (by omega)]; exact hr.1.2.1
            · rw [updW_row]
              exact W_part (c := 3) (by omega) (by omega) (fun q => by omega) (fun q => by omega) (fun _ => ⟨j, hj, rfl⟩) (fun q => by omega) hW
            · rw [updW_row]
              exact T_part (c := 3) hP hW.2.1 (by omega) (by omega) hR
          have hRn := Rel_n hr hr' (by rw [updW_cell (by omega)]) (by omega) (by omega)
          rw [← hA, ← hB]
          exact ih (i + 1) _ _ g (by omega) (by omega) hRn (by rw [updW_place (by omega)]; exact h3) (by rw [updW_cell (by omega)]; exact h4)
        · rw [dF c2, dF c2]
          exact Rel_same hr rfl rfl
  · rw [dF c, x_sheetAt_no c, bd_s, oc_n]
    exact st_fail h 1 _ _ (by omega) rfl (by decide)
end SJ
