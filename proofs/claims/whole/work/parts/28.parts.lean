section SB
theorem x_allApplause {x : Wd} {t P : Nat} (ht : isTr t = true) (hP : P ≤ 5) (h0 : x t 0 = nI P) : f_X6_allApplause t x = some (sumN (fun p => x (t + 4) p) P) := by
  unfold f_X6_allApplause f_X6_allApplause_4
  obtain ⟨s, h1, h2⟩ := lp_run (z := fun _ _ => none) (F := fun rec => fb_X6_allApplause_4 t x rec) (fun g (s : Int32) i => g s (nI i)) P some (fun i s => s = sumN (fun p => x (t + 4) p) i) (fun g i s hi hI => by
    refine ⟨sumN (fun p => x (t + 4) p) (i + 1), rfl, ?_⟩
    unfold fb_X6_allApplause_4
    rw [h0, if_neg (nI_ge hi (by omega)), ald_nI (by omega) (by omega), lv_s, nI_1, hI]
    rfl) (fun g s hI => by
    unfold fb_X6_allApplause_4
    rw [h0, if_pos (nI_le (Nat.le_refl _) (by omega))]) (by omega) 0 rfl
  rw [← h1]
  exact h2
theorem x_allPurses {x : Wd} {t Q : Nat} (ht : isTr t = true) (hQ : Q ≤ 6) (h5 : x t 5 = nI Q) : f_X6_allPurses t x = some (sumN (fun q => x (t + 8) q) Q) := by
  unfold f_X6_allPurses f_X6_allPurses_4
  obtain ⟨s, h1, h2⟩ := lp_run (z := fun _ _ => none) (F := fun rec => fb_X6_allPurses_4 t x rec) (fun g (s : Int32) i => g s (nI i)) Q some (fun i s => s = sumN (fun q => x (t + 8) q) i) (fun g i s hi hI => by
    refine ⟨sumN (fun q => x (t + 8) q) (i + 1), rfl, ?_⟩
    unfold fb_X6_allPurses_4
    rw [h5, if_neg (nI_ge hi (by omega)), ald_nI (by omega) (by omega), lv_s, nI_1, hI]
    rfl) (fun g s hI => by
    unfold fb_X6_allPurses_4
    rw [h5, if_pos (nI_le (Nat.le_refl _) (by omega))]) (by omega) 0 rfl
  rw [← h1]
  exact h2
theorem st_count : St_count Rel := by
  intro n x y p1 hn h
  obtain ⟨P, Q, hW, hR⟩ := h.1.1
  obtain ⟨-, -, -, -, b5, ⟨t, t1, t2, t3, -⟩, ⟨s, s1, s2, s3, -⟩⟩ := h.1
  obtain ⟨u, u1, u2, u3, -⟩ := h.2.2.2.2
  obtain ⟨⟨a0, a5, a11, a12⟩, r1, r2, r3, -, -⟩ := hR
  obtain ⟨w1, w2, w3, w4, w5, w6, w7, w8⟩ := hW
  unfold f_X8_count f_X9_count
  by_cases c0 : p1 = 0
  · rw [if_pos c0, if_pos c0, m_r3, a0, w3]; exact Rel_same h rfl rfl
  rw [if_neg c0, if_neg c0]
  by_cases c1 : p1 = 1
  · rw [if_pos c1, if_pos c1, m_r8, a5, w4]; exact Rel_same h rfl rfl
  rw [if_neg c1, if_neg c1]
  by_cases c2 : p1 = 2
  · rw [if_pos c2, if_pos c2, m_r0, a12]; exact Rel_same h rfl rfl
  rw [if_neg c2, if_neg c2]
  by_cases c3 : p1 = 3
  · rw [if_pos c3, if_pos c3, m_r1, a11]; exact Rel_same h rfl rfl
  rw [if_neg c3, if_neg c3]
  by_cases c4 : p1 = 4
  · rw [if_pos c4, if_pos c4, x_allApplause rfl w1 a0, m_applause w1 w3, bd_s, bd_s, sumN_eq (fun i hi => (r1 i hi).2.2.2)]; exact Rel_same h rfl rfl
  rw [if_neg c4, if_neg c4]
  by_cases c5 : p1 = 5
  · rw [if_pos c5, if_pos c5, x_allPurses rfl w2 a5, m_purses w2 w4, bd_s, bd_s, sumN_eq (fun i hi => (r2 i hi).2.2.2)]; exact Rel_same h rfl rfl
  rw [if_neg c5, if_neg c5]
  by_cases c6 : p1 = 6
  · obtain ⟨v, v1, v2⟩ := m_illSet w2 w4 (fun q hq => (w8 q hq).2.2.2.2)
    rw [if_pos c6, if_pos c6, v1, bd_s, isB_eq r3 v2 (fun i hi => rfl)]; exact Rel_same h rfl rfl
  rw [if_neg c6, if_neg c6]
  by_cases c7 : p1 = 7
  · rw [if_pos c7, if_pos c7, m_r4, t2, t3]; exact Rel_same h rfl rfl
  rw [if_neg c7, if_neg c7]
  by_cases c8 : p1 = 8
  · rw [if_pos c8, if_pos c8, m_r5, s2, s3]; exact Rel_same h rfl rfl
  rw [if_neg c8, if_neg c8]
  by_cases c9 : p1 = 9
  · rw [if_pos c9, if_pos c9, u2, u3]; exact Rel_same h rfl rfl
  rw [if_neg c9, if_neg c9]
  by_cases c10 : p1 = 10
  · rw [if_pos c10, if_pos c10, m_r2, b5]; exact Rel_same h rfl rfl
  rw [if_neg c10, if_neg c10]
  exact st_fail h 1 _ _ (by omega) rfl (by decide)
theorem m_becomes {y : Wd} {i : Nat} {v : Int32} (h : i < 229) : f_X9_becomes (nI i) v y = some (y 101 i, updW y 101 i v) := by
  unfold f_X9_becomes
  rw [ald_nI h (by omega), ast_nI h (by omega)]
theorem ix_its (p : Nat) : (9:Int32) + 4 * nI p = nI (9 + 4 * p) := by
  rw [show (4:Int32) = nI 4 from rfl, show (9:Int32) = nI 9 from rfl, nI_mul, nI_add]
theorem ix_of (p : Nat) : (29:Int32) + 5 * nI p = nI (29 + 5 * p) := by
  rw [show (5:Int32) = nI 5 from rfl, show (29:Int32) = nI 29 from rfl, nI_mul, nI_add]
theorem ix_2 (p : Nat) : nI (9 + 4 * p) + 2 = nI (11 + 4 * p) := by
  rw [show (2:Int32) = nI 2 from rfl, nI_add]; congr 1; omega
theorem ix_1 (p : Nat) : nI (9 + 4 * p) + 1 = nI (10 + 4 * p) := by
  rw [nI_1]; congr 1; omega
theorem ix_3 (p : Nat) : nI (9 + 4 * p) + 3 = nI (12 + 4 * p) := by
  rw [show (3:Int32) = nI 3 from rfl, nI_add]; congr 1; omega
theorem st_lines : St_lines Rel := by
  intro n x y p1 p2 hn h
  obtain ⟨P, Q, hW, hR⟩ := h.1.1
  unfold f_X8_lines f_X9_lines
  rw [x_hasPart hR.1.1 hW.1, m_isPart hW.1 hW.2.2.1, bd_s, bd_s, bI_ite0, bI_ite0]
  by_cases c1 : 0 ≤ p1 ∧ p1 ≤ nI P - 1
  · rw [dT c1, dT c1, x_within, m_in, bd_s, bd_s, bI_ite1, bI_ite0]
    have hP := hW.1
    obtain ⟨p, hp, rfl⟩ := (le_pred (N := P) (by omega)).mp c1
    by_cases c2 : (0:Int32) ≤ p2 ∧ p2 ≤ 99
    · rw [dT c2, dT c2]
      obtain ⟨j, hj, rfl⟩ := (in_nI (N := 99) (by omega)).mp c2
      rw [ald_nI (by omega) (by omega), ast_nI (by omega) (by omega), ix_its, ix_2, m_becomes (by omega), bd_s, (hR.2.1 p hp).2.2.1]
      refine ⟨y 101 (11 + 4 * p), updW x 5 p (nI j), updW y 101 (11 + 4 * p) (nI j), rfl, rfl, Rel_tr h (fun k hk => updW_cell (by omega)) (fun k hk => updW_cell hk) (fun i hi => updW_place (by omega)) ?_ ⟨P, Q, ?_, ?_⟩⟩
      · rw [updW_place (by omega)]; exact h.1.2.1
      · rw [updW_row]
        exact W_part (c := 3) (by omega) hp (fun q => by omega) (fun q => by omega) (fun _ => ⟨j, hj, rfl⟩) (fun q => by omega) hW
      · rw [updW_row]
        exact T_part (c := 3) hP hW.2.1 (by omega) hp hR
    · rw [dF c2, dF c2]
      exact st_fail h 1 _ _ (by omega) rfl (by decide)
  · rw [dF c1, dF c1]
    exact st_fail h 1 _ _ (by omega) rfl (by decide)
theorem ten_nI : ∀ j, j ≤ 69 → nI j / 10 = nI (j / 10) ∧ nI j - nI (j / 10) * 10 = nI (j % 10) := by decide +kernel
theorem upd_comm {f : Nat → Int32} {a b : Nat} {u v : Int32} (h : a ≠ b) : upd (upd f a u) b v = upd (upd f b v) a u := by
  funext i
  rw [upd_get, upd_get, upd_get, upd_get]
  by_cases e1 : i = b
  · rw [if_pos e1, if_neg (by omega), if_pos e1]
  · rw [if_neg e1, if_neg e1]
theorem st_become : St_become Rel := by
  intro n x y p1 p2 hn h
  obtain ⟨P, Q, hW, hR⟩ := h.1.1
  unfold f_X8_become f_X9_become f_X8_isKindWithMark
  rw [x_hasPart hR.1.1 hW.1, m_isPart hW.1 hW.2.2.1, bd_s, bd_s, bI_ite0, bI_ite0]
  by_cases c1 : 0 ≤ p1 ∧ p1 ≤ nI P - 1
  · rw [dT c1, dT c1, x_within, m_in, bd_s, bd_s, zk_b, bd_s, bI_ite1, bI_ite1]
    have hP := hW.1
    obtain ⟨p, hp, rfl⟩ := (le_pred (N := P) (by omega)).mp c1
    by_cases c2 : (0:Int32) ≤ p2 ∧ p2 ≤ 69
    · rw [dT c2, dT c2]
      obtain ⟨j, hj, rfl⟩ := (in_nI (N := 69) (by omega)).mp c2
      obtain ⟨t1, t2⟩ := ten_nI j hj
      unfold f_X6_shape
      rw [ald_nI (by omega) (by omega), nz_s (by decide), ast_nI (by omega) (by omega), nz_s (by decide), ast_nI (by omega) (by omega), bd_s, nz_s (by decide), ix_its, ix_1, ast_nI (by omega) (by omega), nz_s (by decide), m_becomes (by omega), bd_s, t1, t2, (hR.2.1 p hp).1]
      refine ⟨y 101 (9 + 4 * p), _, updW (updW y 101 (10 + 4 * p) (nI (j % 10))) 101 (9 + 4 * p) (nI (j / 10)), rfl, by rw [updW_place (by omega)], Rel_tr h (fun k hk => by rw [updW_cell (by omega), updW_cell (by omega)]) (fun k hk => by rw [updW_cell hk, updW_cell hk]) (fun i hi => by rw [updW_place (by omega), updW_place (by omega)]) ?_ ⟨P, Q, ?_, ?_⟩⟩
      · rw [updW_place (by omega), updW_place (by omega)]; exact h.1.2.1
      · rw [updW_row, updW_row]
        exact W_part (c := 1) (by omega) hp (fun _ => ⟨j / 10, by omega, rfl⟩) (fun q => by omega) (fun q => by omega) (fun q => by omega) (W_part (c := 2) (by omega) hp (fun q => by omega) (fun _ => ⟨j % 10, by omega, rfl⟩) (fun q => by omega) (fun q => by omega) hW)
      · rw [updW_row, updW_row, upd_comm (by omega)]
        exact T_part (c := 2) hP hW.2.1 (by omega) hp (T_part (c := 1) hP hW.2.1 (by omega) hp hR)
    · rw [dF c2, dF c2]
      exact st_fail h 1 _ _ (by omega) rfl (by decide)
  · rw [dF c1, dF c1]
    exact st_fail h 1 _ _ (by omega) rfl (by decide)
theorem m_as32 {y : Wd} {a : Int32} : ∀ k, k < 7 → ∀ m, m < 7 → f_X9_as_32 a (nI m) (nI k) y = f_X9_as_49 a (if decide (m = k ∨ ((k = 1 ∨ k = 2 ∨ k = 3) ∧ m = 0) ∨ (k = 4 ∧ (m = 0 ∨ m = 1)) ∨ (k = 5 ∧ (m = 0 ∨ m = 2)) ∨ (k = 6 ∧ (m = 0 ∨ m = 3))) = true then nI m else -1) y := by
  have hF : ∃ f, FU = f + 8 := ⟨1999992, rfl⟩
  obtain ⟨f, hf⟩ := hF
  unfold f_X9_as_32
  rw [hf]
  show ∀ k, k < 7 → ∀ m, m < 7 → fb_X9_as_32 (fb_X9_as_32 (fb_X9_as_32 (fb_X9_as_32 (lp _ (fun rec => fb_X9_as_32 rec) (f + 4))))) a (nI m) (nI k) y = _
  generalize lp _ (fun rec => fb_X9_as_32 rec) (f + 4) = g
  intro k hk m hm
  rcases (by omega : k = 0 ∨ k = 1 ∨ k = 2 ∨ k = 3 ∨ k = 4 ∨ k = 5 ∨ k = 6) with rfl | rfl | rfl | rfl | rfl | rfl | rfl <;> rcases (by omega : m = 0 ∨ m = 1 ∨ m = 2 ∨ m = 3 ∨ m = 4 ∨ m = 5 ∨ m = 6) with rfl | rfl | rfl | rfl | rfl | rfl | rfl <;> rfl
theorem st_as : St_as Rel := by
  intro n x y p1 p2 hn h
  obtain ⟨P, Q, hW, hR⟩ := h.1.1
  unfold f_X8_as f_X9_as
  rw [x_hasPart hR.1.1 hW.1, m_isPart hW.1 hW.2.2.1, bd_s, bd_s, bI_ite0, bI_ite0]
  by_cases c1 : 0 ≤ p1 ∧ p1 ≤ nI P - 1
  · rw [dT c1, dT c1, x_within, m_in, bd_s, bd_s, bI_ite1, bI_ite1]
    have hP := hW.1
    obtain ⟨p, hp, rfl⟩ := (le_pred (N := P) (by omega)).mp c1
    by_cases c2 : (0:Int32) ≤ p2 ∧ p2 ≤ 6
    · rw [dT c2, dT c2]
      obtain ⟨m, hm, rfl⟩ := (in_nI (N := 6) (by omega)).mp c2
      obtain ⟨⟨k, hk, ek⟩, -⟩ := hW.2.2.2.2.2.2.1 p hp
      rw [ald_nI (by omega) (by omega), (hR.2.1 p hp).1, m_its0 (by omega), bd_s, ek, x_isUnder k hk m (by omega), bd_s, bI_ite1, m_as32 k hk m (by omega)]
      unfold f_X9_as_49
      by_cases c3 : m = k ∨ ((k = 1 ∨ k = 2 ∨ k = 3) ∧ m = 0) ∨ (k = 4 ∧ (m = 0 ∨ m = 1)) ∨ (k = 5 ∧ (m = 0 ∨ m = 2)) ∨ (k = 6 ∧ (m = 0 ∨ m = 3))
      · rw [dT c3, dT c3, if_pos (nI_pos' (by omega)), ald_nI (by omega) (by omega), m_its1 (by omega), bd_s, (hR.2.1 p hp).2.1]
        exact Rel_same h rfl rfl
      · rw [dF c3, dF c3, if_neg (by decide)]
        exact st_fail h 5 _ _ (by omega) rfl (by decide)
    · rw [dF c2, dF c2]
      exact st_fail h 1 _ _ (by omega) rfl (by decide)
  · rw [dF c1, dF c1]
    exact st_fail h 1 _ _ (by omega) rfl (by decide)
end SB
