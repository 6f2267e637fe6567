section SF
theorem Rel_play {n : Nat} {x y : Wd} {P Q q c : Nat} {v : Int32} (h : Rel n x y) (hW : WF (y 101) P Q) (hR : RT x 2 (y 101) P Q) (hc : c ≤ 3) (hq : q < Q) (h1 : c = 0 ∨ c = 1 → ∀ i, P ≤ i → bt v i = false) (h2 : c = 2 → v = -1 ∨ ∃ o, o < P ∧ v = nI o) (h3 : c = 3 → ∃ k, k ≤ 9999 ∧ v = nI k) : Rel (n + 1) (updW x (7 + c) q v) (updW y 101 (29 + c + 5 * q) v) := by
  refine Rel_tr h (fun k hk => updW_cell (by omega)) (fun k hk => updW_cell hk) (fun i hi => updW_place (by have := hW.2.1; omega)) ?_ ⟨P, Q, ?_, ?_⟩
  · rw [updW_place (by omega)]; exact h.1.2.1
  · rw [updW_row]
    exact W_play hc hW.1 hq h1 h2 h3 hW
  · rw [updW_row]
    exact T_play hW.1 hW.2.1 hc hq hR
theorem ix_ofc (q c : Nat) : nI (29 + 5 * q) + nI c = nI (29 + c + 5 * q) := by
  rw [nI_add]; congr 1; omega
theorem m_isSet {y : Wd} {P : Nat} (hP : P ≤ 5) (h : y 101 3 = nI P) (a : Int32) : f_X9_isSet y a = some (bI (decide (0 ≤ a ∧ a ≤ nI (2 ^ P - 1)))) := by
  unfold f_X9_isSet
  rw [m_r3, h, m_in, bd_s, zk_b, full_nI P (by omega)]
theorem st_change : St_change Rel := by
  intro n x y p1 p2 p3 hn h
  obtain ⟨P, Q, hW, hR⟩ := h.1.1
  have hP := hW.1
  have hQ := hW.2.1
  unfold f_X8_change f_X9_change
  rw [x_hasPlayer hR.1.2.1 hW.2.1, m_isPlayer hW.2.1 hW.2.2.2.1, bd_s, bd_s, bI_ite1, bI_ite0]
  have bad1 : f_X9_change_62 p1 p2 p3 y = bd (f_X9_errs (-1000000001:Int32) y) (fun q1 => some (q1.1, q1.2)) := by
    unfold f_X9_change_62 f_X9_change_63
    rw [if_pos rfl]
  by_cases c1 : 0 ≤ p1 ∧ p1 ≤ nI Q - 1
  · rw [dT c1, dT c1]
    obtain ⟨q, hq, rfl⟩ := (le_pred (N := Q) (by omega)).mp c1
    obtain ⟨b1, b2, b3, b4⟩ := hR.2.2.1 q hq
    have hp63 := p2_63 P (by omega)
    have good : ∀ c, c ≤ 2 → p2 = nI c → f_X9_change_58 (nI q) p2 p3 y = some (y 101 (29 + c + 5 * q), updW y 101 (29 + c + 5 * q) p3) := fun c hc hp => by
      unfold f_X9_change_58 f_X9_change_63 f_X9_change_87
      rw [if_neg (by decide), hp, if_pos (by rw [show (3:Int32) = nI 3 from rfl, nI_eq (by omega) (by omega)]; omega), ix_of, ix_ofc, m_becomes (by omega), bd_s]
    by_cases e0 : p2 = 0
    · rw [if_pos e0, if_pos e0]
      unfold f_X6_allParts f_X9_change_17
      rw [hR.1.1, bd_s, full_nI P (by omega), x_within, m_isSet hP hW.2.2.1, bd_s, bd_s, bI_ite0, bI_ite0]
      by_cases c3 : 0 ≤ p3 ∧ p3 ≤ nI (2 ^ P - 1)
      · obtain ⟨j, hj, ej⟩ := (in_nI (N := 2 ^ P - 1) (by omega)).mp c3
        rw [dT c3, dT c3, good 0 (by omega) e0]
        unfold f_X8_swap
        rw [show lenX 7 = 6 from rfl, ald_nI (by omega) (by omega), ast_nI (by omega) (by omega), bd_s, show x 7 q = y 101 (29 + 5 * q) from b1]
        exact ⟨_, _, _, rfl, rfl, Rel_play (c := 0) h hW hR (by omega) hq (fun _ i hi => by rw [ej]; exact set_hi hj hi) (fun z => by omega) (fun z => by omega)⟩
      · rw [dF c3, dF c3, bad1]
        exact st_fail h 1 _ _ (by omega) rfl (by decide)
    rw [if_neg e0, if_neg e0]
    by_cases e1 : p2 = 1
    · rw [if_pos e1, if_neg (fun z => z e1)]
      unfold f_X6_allParts f_X9_change_17
      rw [hR.1.1, bd_s, full_nI P (by omega), x_within, m_isSet hP hW.2.2.1, bd_s, bd_s, bI_ite0, bI_ite0]
      by_cases c3 : 0 ≤ p3 ∧ p3 ≤ nI (2 ^ P - 1)
      · obtain ⟨j, hj, ej⟩ := (in_nI (N := 2 ^ P - 1) (by omega)).mp c3
        rw [dT c3, dT c3, good 1 (by omega) e1]
        unfold f_X8_swap
        rw [show lenX 8 = 6 from rfl, ald_nI (by omega) (by omega), ast_nI (by omega) (by omega), bd_s, show x 8 q = y 101 (30 + 5 * q) from b2]
        exact ⟨_, _, _, rfl, rfl, Rel_play (c := 1) h hW hR (by omega) hq (fun _ i hi => by rw [ej]; exact set_hi hj hi) (fun z => by omega) (fun z => by omega)⟩
      · rw [dF c3, dF c3, bad1]
        exact st_fail h 1 _ _ (by omega) rfl (by decide)
    rw [if_neg e1, if_pos e1]
    by_cases e2 : p2 = 2
    · rw [if_pos e2, if_neg (fun z => z e2), hR.1.1, x_within, m_isOwn hP hW.2.2.1, bd_s, bd_s, bI_ite0, bI_ite0]
      have hiff : ((-1:Int32) ≤ p3 ∧ p3 ≤ nI P - 1) ↔ (p3 = -1 ∨ (0 ≤ p3 ∧ p3 ≤ nI P - 1)) := by
        constructor
        · rintro ⟨z1, z2⟩
          by_cases z : p3 = -1
          · exact Or.inl z
          · refine Or.inr ⟨?_, z2⟩
            have k1 := Int32.le_iff_toInt_le.mp z1
            have k2 : p3.toInt ≠ -1 := fun q => z (Int32.toInt_inj.mp q)
            have k3 : (-1:Int32).toInt = -1 := by decide
            apply Int32.le_iff_toInt_le.mpr
            show (0:Int) ≤ _
            omega
        · rintro (z | ⟨z1, z2⟩)
          · subst z
            refine ⟨Int32.le_refl _, ?_⟩
            rcases (by omega : P = 0 ∨ P = 1 ∨ P = 2 ∨ P = 3 ∨ P = 4 ∨ P = 5) with z | z | z | z | z | z <;> rw [z] <;> decide
          · exact ⟨Int32.le_trans (by decide) z1, z2⟩
      by_cases c3 : p3 = -1 ∨ (0 ≤ p3 ∧ p3 ≤ nI P - 1)
      · rw [dT (hiff.mpr c3), dT c3, good 2 (by omega) e2]
        unfold f_X8_swap
        rw [show lenX 9 = 6 from rfl, ald_nI (by omega) (by omega), ast_nI (by omega) (by omega), bd_s, show x 9 q = y 101 (31 + 5 * q) from b3]
        exact ⟨_, _, _, rfl, rfl, Rel_play (c := 2) h hW hR (by omega) hq (fun z => by omega) (fun _ => c3.elim Or.inl (fun q => Or.inr ((le_pred (N := P) (by omega)).mp q))) (fun z => by omega)⟩
      · rw [dF (fun z => c3 (hiff.mp z)), dF c3, bad1]
        exact st_fail h 1 _ _ (by omega) rfl (by decide)
    rw [if_neg e2, if_pos e2]
    by_cases e3 : p2 = 3
    · rw [if_pos e3, if_neg (fun z => z e3), x_within, m_in, bd_s, bd_s, bI_ite0, bI_ite0]
      by_cases c3 : 0 ≤ p3 ∧ p3 ≤ 1
      · rw [dT c3, dT c3]
        obtain ⟨j, hj, ej⟩ := (in_nI (N := 1) (by omega)).mp c3
        have hb : ∃ b, p3 = bI b := by
          rcases (by omega : j = 0 ∨ j = 1) with rfl | rfl
          · exact ⟨false, ej⟩
          · exact ⟨true, ej⟩
        obtain ⟨b, rfl⟩ := hb
        unfold f_X6_swapIll f_X9_change_58 f_X9_change_63 f_X9_change_87
        rw [lv_s, wl_s, bd_s, if_neg (by decide), if_neg (fun z => z e3), ix_of, show nI (29 + 5 * q) + 4 = nI (33 + 5 * q) from by rw [show (4:Int32) = nI 4 from rfl, nI_add]; congr 1; omega, m_becomes (by omega), bd_s]
        have e : (x 2 10 >>> (nI q &&& 31)) &&& 1 = y 101 (33 + 5 * q) := by
          rw [and1_bI (by omega), hR.2.2.2.1 q (by omega), decide_eq_true hq]
          rcases (hW.2.2.2.2.2.2.2 q hq).2.2.2.2 with z | z
          · rw [z]; rfl
          · rw [z]; rfl
        rw [e]
        refine ⟨y 101 (33 + 5 * q), _, updW y 101 (33 + 5 * q) (bI b), rfl, rfl, ?_⟩
        refine Rel_tr h (fun k hk => updW_cell (by omega)) (fun k hk => updW_cell hk) (fun i hi => updW_place (by omega)) ?_ ⟨P, Q, ?_, ?_⟩
        · rw [updW_place (by omega)]; exact h.1.2.1
        · rw [updW_row]
          refine W_ill hP hq ?_ hW
          cases b
          · exact Or.inl rfl
          · exact Or.inr rfl
        · rw [updW_row]
          refine T_ill (b := b) hP hQ hq (fun i hi => ?_) rfl hR
          rw [b_or, b_and, b_not _ hi, b_sh1 (by omega) hi, b_bIsh (by omega) hi]
          by_cases z : i = q
          · rw [if_pos z]; simp [z]
          · rw [if_neg z]; simp [z]
      · rw [dF c3, dF c3, bad1]
        exact st_fail h 1 _ _ (by omega) rfl (by decide)
    rw [if_neg e3, if_pos e3, bad1]
    exact st_fail h 1 _ _ (by omega) rfl (by decide)
  · rw [dF c1, dF c1, bad1]
    exact st_fail h 1 _ _ (by omega) rfl (by decide)
end SF
