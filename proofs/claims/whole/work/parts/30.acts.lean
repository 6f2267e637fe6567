section SD
theorem st_part : St_part Rel := by
  intro n x y p1 p2 hn h
  obtain ⟨P, Q, hW, hR⟩ := h.1.1
  unfold f_X8_part f_X9_part f_X8_isKindWithMark
  rw [x_within, m_in, bd_s, bd_s, zk_b, bd_s, bI_ite0, bI_ite0]
  by_cases c1 : 0 ≤ p1 ∧ p1 ≤ 69
  · rw [dT c1, dT c1, x_within, m_in, bd_s, bd_s, bI_ite1, bI_ite1]
    by_cases c2 : (0:Int32) ≤ p2 ∧ p2 ≤ 99
    · rw [dT c2, dT c2, m_r3, m_r3, hR.1.1, hW.2.2.1]
      have hP := hW.1
      obtain ⟨j, hj, rfl⟩ := (in_nI (N := 69) (by omega)).mp c1
      obtain ⟨l, hl, rfl⟩ := (in_nI (N := 99) (by omega)).mp c2
      obtain ⟨t1, t2⟩ := ten_nI j hj
      by_cases c3 : P = 5
      · subst c3
        rw [if_neg (by decide), if_neg (fun q => q rfl)]
        exact st_fail h 4 _ _ (by omega) rfl (by decide)
      · have e5 : ¬ nI P = 5 := by rw [show (5:Int32) = nI 5 from rfl, nI_eq (by omega) (by omega)]; exact c3
        have l5 : nI P < nI 5 := nI_lt (by omega) (by omega)
        rw [if_pos (show nI P < 5 from l5), if_pos e5]
        unfold f_X6_addPart f_X6_shape
        rw [lv_s, hR.1.1, if_neg (show ¬ (5:Int32) ≤ nI P from nI_ge (a := P) (b := 5) (by omega) (by omega)), nz_s (by decide), ast_nI (by omega) (by omega), nz_s (by decide), ast_nI (by omega) (by omega), bd_s, ast_nI (by omega) (by omega), wl_s, bd_s]
        rw [lv_s, ix_its, nz_s (by decide), ast_nI (by omega) (by omega), nz_s (by decide), ix_1, ast_nI (by omega) (by omega), ix_2, ast_nI (by omega) (by omega), ix_3, ast_nI (by omega) (by omega), m_r3, m_s3, m_r3, t1, t2]
        have e3 : (updW (updW (updW (updW y 101 (9 + 4 * P) (nI (j / 10))) 101 (10 + 4 * P) (nI (j % 10))) 101 (11 + 4 * P) (nI l)) 101 (12 + 4 * P) 0) 101 3 = nI P := by
          rw [updW_place (by omega), updW_place (by omega), updW_place (by omega), updW_place (by omega)]; exact hW.2.2.1
        have e0 : (updW (updW (updW x (2 + 1) P (nI (j / 10))) (2 + 2) P (nI (j % 10))) (2 + 3) P (nI l)) 2 0 = nI P := by
          rw [updW_cell (by omega), updW_cell (by omega), updW_cell (by omega)]; exact hR.1.1
        rw [e3, e0, nI_1, updW_self, nI_m1 (by omega)]
        refine ⟨nI P, updW (updW (updW (updW x (2 + 1) P (nI (j / 10))) (2 + 2) P (nI (j % 10))) (2 + 3) P (nI l)) 2 0 (nI (P + 1)), updW (updW (updW (updW (updW y 101 (9 + 4 * P) (nI (j / 10))) 101 (10 + 4 * P) (nI (j % 10))) 101 (11 + 4 * P) (nI l)) 101 (12 + 4 * P) 0) 101 3 (nI (P + 1)), rfl, rfl, ?_⟩
        refine Rel_tr h (fun k hk => by rw [updW_cell (by omega), updW_cell (by omega), updW_cell (by omega), updW_cell (by omega)]) (fun k hk => by rw [updW_cell hk, updW_cell hk, updW_cell hk, updW_cell hk, updW_cell hk]) (fun i hi => by rw [updW_place (by omega), updW_place (by omega), updW_place (by omega), updW_place (by omega), updW_place (by omega)]) ?_ ⟨P + 1, Q, ?_, ?_⟩
        · rw [updW_place (by omega), updW_place (by omega), updW_place (by omega), updW_place (by omega), updW_place (by omega)]; exact h.1.2.1
        · rw [updW_row, updW_row, updW_row, updW_row, updW_row]
          exact W_newpart (by omega) (by omega) (by omega) hl hW
        · rw [updW_row, updW_row, updW_row, updW_row, updW_row]
          exact T_newpart (by omega) hW.2.1 hR
    · rw [dF c2, dF c2]
      exact st_fail h 1 _ _ (by omega) rfl (by decide)
  · rw [dF c1, dF c1]
    exact st_fail h 1 _ _ (by omega) rfl (by decide)
/-- the reference's row with one player more -/
def newR (y : Wd) (Q : Nat) (kn ow : Int32) : Wd := updW (updW (updW (updW (updW (updW y 101 8 (nI (Q + 1))) 101 (29 + 5 * Q) kn) 101 (30 + 5 * Q) 0) 101 (31 + 5 * Q) ow) 101 (32 + 5 * Q) 0) 101 (33 + 5 * Q) 0
def newX (x : Wd) (t Q : Nat) (kn ow : Int32) : Wd := updW (updW (updW x (t + 7) Q ow) (t + 5) Q kn) t 5 (nI (Q + 1))
theorem m_addPlayer {y : Wd} {Q : Nat} {kn ow : Int32} (hQ : Q < 6) (h8 : y 101 8 = nI Q) : f_X9_addPlayer ow kn y = some (nI Q, newR y Q kn ow) := by
  unfold f_X9_addPlayer newR
  rw [m_r8, m_r8, m_s8, h8, m_gets0 (by omega), bd_s, m_gets1 (by omega), bd_s, m_gets2 (by omega), bd_s, m_gets3 (by omega), bd_s, m_gets4 (by omega), bd_s, nI_1]
theorem x_addPlayer {x : Wd} {t Q : Nat} {kn ow : Int32} (hQ : Q < 6) (h5 : x t 5 = nI Q) : f_X6_addPlayer t ow kn x = some (nI Q, newX x t Q kn ow) := by
  unfold f_X6_addPlayer newX
  rw [lv_s, h5, if_neg (show ¬ (6:Int32) ≤ nI Q from nI_ge (a := Q) (b := 6) (by omega) (by omega)), ast_nI (by omega) (by omega), ast_nI (by omega) (by omega), wl_s, updW_cell (by omega), updW_cell (by omega), h5, nI_1]
theorem TW_add {x y : Wd} {t P Q : Nat} {kn ow : Int32} (hQ : Q < 6) (hW : WF (y 101) P Q) (hR : RT x t (y 101) P Q) (hk : ∀ i, P ≤ i → bt kn i = false) (ho : ow = -1 ∨ ∃ o, o < P ∧ ow = nI o) : WF (newR y Q kn ow 101) P (Q + 1) ∧ RT (newX x t Q kn ow) t (newR y Q kn ow 101) P (Q + 1) := by
  unfold newR newX
  rw [updW_row, updW_row, updW_row, updW_row, updW_row, updW_row]
  exact ⟨W_newplayer hQ hW.1 hk ho hW, T_newplayer hW.1 hQ hR⟩
theorem newR_cell {y : Wd} {Q : Nat} {kn ow : Int32} {k : Nat} (h : k ≠ 101) : newR y Q kn ow k = y k := by
  unfold newR
  rw [updW_cell h, updW_cell h, updW_cell h, updW_cell h, updW_cell h, updW_cell h]
theorem newR_at {y : Wd} {Q : Nat} {kn ow : Int32} {i : Nat} (h : i ≠ 8) (h2 : ¬ (29 + 5 * Q ≤ i ∧ i ≤ 33 + 5 * Q)) : newR y Q kn ow 101 i = y 101 i := by
  unfold newR
  rw [updW_place (by omega), updW_place (by omega), updW_place (by omega), updW_place (by omega), updW_place (by omega), updW_place (by omega)]
theorem newX_cell {x : Wd} {t Q : Nat} {kn ow : Int32} {k : Nat} (h : k ≠ t) (h5 : k ≠ t + 5) (h7 : k ≠ t + 7) : newX x t Q kn ow k = x k := by
  unfold newX
  rw [updW_cell h, updW_cell h5, updW_cell h7]
theorem m_isOwn {y : Wd} {P : Nat} (hP : P ≤ 5) (h : y 101 3 = nI P) (a : Int32) : f_X9_isOwn y a = some (bI (decide (a = -1 ∨ (0 ≤ a ∧ a ≤ nI P - 1)))) := by
  unfold f_X9_isOwn f_X9_isOwn_13
  by_cases c : a = -1
  · rw [if_pos c]; simp [c, bI]
  · rw [if_neg c, m_isPart hP h, bd_s, bI_ite0]
    by_cases c2 : 0 ≤ a ∧ a ≤ nI P - 1
    · rw [dT c2, decide_eq_true (Or.inr c2)]; rfl
    · rw [dF c2, decide_eq_false (fun q => q.elim c c2)]; rfl
theorem st_player : St_player Rel := by
  intro n x y p1 hn h
  obtain ⟨P, Q, hW, hR⟩ := h.1.1
  have hx : f_X8_player p1 x = if decide (p1 = -1 ∨ (0 ≤ p1 ∧ p1 ≤ nI P - 1)) = true then f_X8_player_25 p1 x else bd (f_X8_error (1:Int32) x) (fun q2 => some (q2.1, q2.2)) := by
    unfold f_X8_player
    by_cases c : p1 = -1
    · rw [if_pos c, dT (Or.inl c)]
    · rw [if_neg c, x_hasPart hR.1.1 hW.1, bd_s, bI_ite1]
      by_cases c2 : 0 ≤ p1 ∧ p1 ≤ nI P - 1
      · rw [dT c2, dT (Or.inr c2)]
      · rw [dF c2, dF (fun q => q.elim c c2)]
  rw [hx]
  unfold f_X9_player
  rw [m_isOwn hW.1 hW.2.2.1, bd_s, bI_ite1]
  by_cases c : p1 = -1 ∨ (0 ≤ p1 ∧ p1 ≤ nI P - 1)
  · rw [dT c, dT c, m_r8, hW.2.2.2.1]
    unfold f_X8_player_25 f_X8_player_65 f_X9_player_47
    rw [hR.1.2.1]
    have hQ := hW.2.1
    have hP := hW.1
    by_cases c3 : Q = 6
    · subst c3
      rw [if_neg (by decide), if_neg (fun q => q rfl)]
      exact st_fail h 4 _ _ (by omega) rfl (by decide)
    · have e6 : ¬ nI Q = 6 := by rw [show (6:Int32) = nI 6 from rfl, nI_eq (by omega) (by omega)]; exact c3
      have l6 : nI Q < nI 6 := nI_lt (by omega) (by omega)
      rw [if_pos (show nI Q < 6 from l6), if_pos e6, x_addPlayer (by omega) hR.1.2.1, x_addPlayer (by omega) hR.1.2.1, m_addPlayer (by omega) hW.2.2.2.1, m_addPlayer (by omega) hW.2.2.2.1, bd_s, bd_s, bd_s, bd_s]
      have fin : ∀ kn : Int32, (∀ i, P ≤ i → bt kn i = false) → Rel (n + 1) (newX x 2 Q kn p1) (newR y Q kn p1) := fun kn hk => by
        have ho : p1 = -1 ∨ ∃ o, o < P ∧ p1 = nI o := c.elim Or.inl (fun q => Or.inr ((le_pred (N := P) (by omega)).mp q))
        obtain ⟨k1, k2⟩ := TW_add (t := 2) (by omega) hW hR hk ho
        refine Rel_tr h (fun k hk => newX_cell (by omega) (by omega) (by omega)) (fun k hk => newR_cell hk) (fun i hi => newR_at (by omega) (by omega)) ?_ ⟨P, Q + 1, k1, k2⟩
        rw [newR_at (by omega) (by omega)]; exact h.1.2.1
      by_cases c4 : 0 ≤ p1
      · rw [if_pos c4, if_pos c4]
        refine ⟨_, _, _, rfl, rfl, fin _ (fun i hi => ?_)⟩
        have : ∃ o, o < P ∧ p1 = nI o := by
          rcases c with q | q
          · subst q; exact absurd c4 (by decide)
          · exact (le_pred (N := P) (by omega)).mp q
        obtain ⟨o, o1, rfl⟩ := this
        by_cases hi2 : i < 32
        · rw [b_sh1 (by omega) hi2]; exact decide_eq_false (by omega)
        · exact b_big (by omega)
      · rw [if_neg c4, if_neg c4]
        exact ⟨_, _, _, rfl, rfl, fin _ (fun i hi => b_0 i)⟩
  · rw [dF c, dF c]
    exact st_fail h 1 _ _ (by omega) rfl (by decide)
theorem x_whoKnow {x : Wd} {t p Q : Nat} (ht : isTr t = true) (hQ : Q ≤ 6) (hq : x t 5 = nI Q) (hp : p < 32) : ∃ v, f_X6_whoKnow t x (nI p) = some v ∧ isB v Q (fun q => bt (x (t + 5) q) p) := by
  obtain ⟨v, v1, v2⟩ := x_whoHold (t := t) (p := p) (len6 ht).1 hQ hq hp
  exact ⟨v, by unfold f_X6_whoKnow; rw [v1, bd_s], v2⟩
theorem st_ofPart : St_ofPart Rel := by
  intro n x y p1 p2 hn h
  obtain ⟨P, Q, hW, hR⟩ := h.1.1
  unfold f_X8_ofPart f_X9_ofPart
  rw [x_hasPart hR.1.1 hW.1, m_isPart hW.1 hW.2.2.1, bd_s, bd_s, bI_ite1, bI_ite0]
  by_cases c1 : 0 ≤ p1 ∧ p1 ≤ nI P - 1
  · rw [dT c1, dT c1, m_in, bd_s, bI_ite1]
    have hP := hW.1
    obtain ⟨p, hp, rfl⟩ := (le_pred (N := P) (by omega)).mp c1
    obtain ⟨n0, hn0, e0⟩ := hW.2.2.2.2.1
    obtain ⟨b1, b2, b3, b4⟩ := hR.2.1 p hp
    by_cases c2 : 0 ≤ p2 ∧ p2 ≤ 6
    · rw [dT c2]
      obtain ⟨j, hj, rfl⟩ := (in_nI (N := 6) (by omega)).mp c2
      rcases (by omega : j = 0 ∨ j = 1 ∨ j = 2 ∨ j = 3 ∨ j = 4 ∨ j = 5 ∨ j = 6) with rfl | rfl | rfl | rfl | rfl | rfl | rfl
      · rw [if_pos (by decide), if_neg (by decide), if_neg (by decide), if_neg (by decide), ald_nI (by omega) (by omega), show nI 0 = (0:Int32) from rfl, m_its0 (by omega), bd_s, b1]
        exact Rel_same h rfl rfl
      · rw [if_neg (by decide), if_pos (by decide), if_neg (by decide), if_neg (by decide), if_neg (by decide), ald_nI (by omega) (by omega), show nI 1 = (1:Int32) from rfl, m_its1 (by omega), bd_s, b2]
        exact Rel_same h rfl rfl
      · rw [if_neg (by decide), if_neg (by decide), if_pos (by decide), if_neg (by decide), if_neg (by decide), if_neg (by decide), ald_nI (by omega) (by omega), show nI 2 = (2:Int32) from rfl, m_its2 (by omega), bd_s, b3]
        exact Rel_same h rfl rfl
      · rw [if_neg (by decide), if_neg (by decide), if_neg (by decide), if_pos (by decide), if_neg (by decide), if_neg (by decide), if_neg (by decide), ald_nI (by omega) (by omega), show nI 3 = (3:Int32) from rfl, m_its3 (by omega), bd_s, b4]
        exact Rel_same h rfl rfl
      · rw [if_neg (by decide), if_neg (by decide), if_neg (by decide), if_neg (by decide), if_pos (by decide), if_pos (by decide), x_isEmpty hR hP hp, m_isEmpty (by omega) (by omega) e0, bd_s, bd_s, bI_ite0, bI_ite0]
        cases emR (y 101) p
        · exact Rel_same h rfl rfl
        · exact Rel_same h rfl rfl
      · obtain ⟨v, v1, v2⟩ := x_whoMay rfl hR hW hp
        obtain ⟨u, u1, u2⟩ := m_maySet (p := p) (by omega) hW.2.1 hW.2.2.2.1 (by omega) e0
        rw [if_neg (by decide), if_neg (by decide), if_neg (by decide), if_neg (by decide), if_neg (by decide), if_pos (by decide), if_neg (by decide), if_pos (by decide), v1, u1, bd_s, bd_s, isB_eq v2 u2 (fun i hi => rfl)]
        exact Rel_same h rfl rfl
      · obtain ⟨v, v1, v2⟩ := x_whoKnow (t := 2) (p := p) rfl hW.2.1 hR.1.2.1 (by omega)
        obtain ⟨u, u1, u2⟩ := m_knowers (p := p) (by omega) hW.2.1 hW.2.2.2.1
        have e := isB_eq v2 u2 (fun i hi => by unfold knR; rw [(hR.2.2.1 i hi).1])
        rw [if_neg (by decide), if_neg (by decide), if_neg (by decide), if_neg (by decide), if_neg (by decide), if_neg (by decide), if_pos (by decide), if_neg (by decide), if_neg (by decide), if_pos (by decide), v1, u1, bd_s, bd_s, e]
        exact Rel_same h rfl rfl
    · rw [dF c2]
      have hj : ∀ j, j ≤ 6 → ¬ p2 = nI j := fun j hj e => c2 ((in_nI (N := 6) (by omega)).mpr ⟨j, hj, e⟩)
      rw [if_neg (show ¬ p2 = 0 from hj 0 (by omega)), if_neg (show ¬ p2 = 1 from hj 1 (by omega)), if_neg (show ¬ p2 = 2 from hj 2 (by omega)), if_neg (show ¬ p2 = 3 from hj 3 (by omega)), if_neg (show ¬ p2 = 4 from hj 4 (by omega)), if_neg (show ¬ p2 = 5 from hj 5 (by omega)), if_neg (show ¬ p2 = 6 from hj 6 (by omega))]
      exact st_fail h 1 _ _ (by omega) rfl (by decide)
  · rw [dF c1, dF c1]
    exact st_fail h 1 _ _ (by omega) rfl (by decide)
end SD
