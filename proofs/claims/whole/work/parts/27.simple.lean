section SA
theorem Rel_same {n : Nat} {x y : Wd} (h : Rel n x y) {r : Int32} {A B : Option (Int32 × Wd)} (a : A = some (r, x)) (b : B = some (r, y)) : ∃ (r : Int32) (x' y' : Wd), A = some (r, x') ∧ B = some (r, y') ∧ Rel (n + 1) x' y' := ⟨r, x, y, a, b, Rel_mono _ _ _ h⟩
theorem Rel_tr {n : Nat} {x y x' y' : Wd} (h : Rel n x y) (hx : ∀ k, ¬ (2 ≤ k ∧ k ≤ 10) → x' k = x k) (hy : ∀ k, k ≠ 101 → y' k = y k) (hr : ∀ i, (i = 2 ∨ 4 ≤ i ∧ i ≤ 7 ∨ 59 ≤ i) → y' 101 i = y 101 i) (hN : ∃ n, n ≤ 9999 ∧ y' 101 0 = nI n) (hT : ∃ P Q, WF (y' 101) P Q ∧ RT x' 2 (y' 101) P Q) : Rel (n + 1) x' y' := by
  obtain ⟨m1, m2, m3, m4⟩ := keepM_y hy
  exact Rel_of h (RB_troupe h.1 hT hN (fun k hk => hx k (by omega)) hr) (fun k hk => hx k (by unfold keepX at hk; omega)) m1 m2 m3 m4
theorem dT {c : Prop} [Decidable c] (h : c) {α : Type} {A B : α} : (if decide c = true then A else B) = A := if_pos (decide_eq_true h)
theorem dF {c : Prop} [Decidable c] (h : ¬ c) {α : Type} {A B : α} : (if decide c = true then A else B) = B := if_neg (by rw [decide_eq_true_eq]; exact h)
theorem st_gala : St_gala Rel := by
  intro n x y p1 hn h
  unfold f_X8_gala f_X9_gala
  rw [x_within, m_in, bd_s, bd_s, bI_ite1, bI_ite0]
  by_cases c : (0:Int32) ≤ p1 ∧ p1 ≤ 1
  · rw [dT c, dT c]
    obtain ⟨P, Q, hW, hR⟩ := h.1.1
    obtain ⟨j, hj, ej⟩ := (in_nI (a := p1) (N := 1) (by omega)).mp c
    refine ⟨y 101 1, updW x 2 11 p1, updW y 101 1 p1, ?_, ?_, ?_⟩
    · rw [lv_s, wl_s, hR.1.2.2.1]
    · unfold f_X9_becomes
      rw [m_r1, m_s1, bd_s]
    · refine Rel_tr h (fun k hk => updW_cell (by omega)) (fun k hk => updW_cell hk) (fun i hi => updW_place (by omega)) ?_ ⟨P, Q, ?_, ?_⟩
      · rw [updW_place (by omega)]; exact h.1.2.1
      · rw [updW_row]
        refine W_gala ?_ hW
        rcases (by omega : j = 0 ∨ j = 1) with rfl | rfl
        · exact Or.inl ej
        · exact Or.inr ej
      · rw [updW_row]
        exact T_gala hW.1 hW.2.1 hR
  · rw [dF c, dF c]
    exact st_fail h 1 _ _ (by omega) rfl (by decide)
theorem st_seed : St_seed Rel := by
  intro n x y p1 hn h
  unfold f_X8_seed f_X9_seed
  rw [lv_s, wl_s, m_r2, m_s2]
  obtain ⟨h1, h2, h3, h4, h5, h6, h7⟩ := h.1
  refine ⟨y 101 2, updW x 1 5 p1, updW y 101 2 p1, by rw [h5], rfl, ?_⟩
  obtain ⟨m1, m2, m3, m4⟩ := keepM_y (y := y) (y' := updW y 101 2 p1) (fun k hk => updW_cell hk)
  refine Rel_of h ?_ (fun k hk => updW_cell (by unfold keepX at hk; omega)) m1 m2 m3 m4
  rw [updW_row]
  obtain ⟨P, Q, w, r⟩ := h1
  refine ⟨⟨P, Q, ?_, ?_⟩, h2, ?_, ?_, updW_self _ _ _ _, ?_, ?_⟩
  · obtain ⟨w1, w2, w3, w4, w5, w6, w7, w8⟩ := w
    refine ⟨w1, w2, w3, w4, w5, w6, fun p hp => ?_, fun q hq => ?_⟩
    · rw [upd_ne (by omega), upd_ne (by omega), upd_ne (by omega), upd_ne (by omega)]; exact w7 p hp
    · rw [upd_ne (by omega), upd_ne (by omega), upd_ne (by omega), upd_ne (by omega), upd_ne (by omega)]; exact w8 q hq
  · obtain ⟨w1, w2, -⟩ := w
    obtain ⟨⟨a1, a2, a3, a4⟩, b1, b2, b3, b4, b5⟩ := r
    have hc : ∀ k, k ≠ 1 → updW x 1 5 p1 k = x k := fun k hk => updW_cell hk
    refine ⟨⟨a1, a2, a3, a4⟩, fun p hp => ?_, fun q hq => ?_, fun i hi => ?_, fun p q1 q2 => ?_, fun q q1 q2 => ?_⟩
    · rw [hc _ (by omega), hc _ (by omega), hc _ (by omega), hc _ (by omega), upd_ne (by omega), upd_ne (by omega), upd_ne (by omega), upd_ne (by omega)]; exact b1 p hp
    · rw [hc _ (by omega), hc _ (by omega), hc _ (by omega), hc _ (by omega), upd_ne (by omega), upd_ne (by omega), upd_ne (by omega), upd_ne (by omega)]; exact b2 q hq
    · rw [hc _ (by omega), upd_ne (by omega)]; exact b3 i hi
    · rw [hc _ (by omega)]; exact b4 p q1 q2
    · rw [hc _ (by omega), hc _ (by omega)]; exact b5 q q1 q2
  · exact RLw_congr (updW_cell (by omega)) (updW_cell (by omega)) (updW_cell (by omega)) (upd_ne (by omega)) (fun i _ => upd_ne (by omega)) h3
  · exact RLw_congr (updW_cell (by omega)) (updW_cell (by omega)) (updW_cell (by omega)) (upd_ne (by omega)) (fun i _ => upd_ne (by omega)) h4
  · obtain ⟨t, t1, t2, t3, t4⟩ := h6
    refine ⟨t, t1, t2, ?_, fun i hi => ?_⟩
    · rw [updW_cell (by omega)]; exact t3
    · rw [updW_cell (by omega), upd_ne (by omega)]; exact t4 i hi
  · obtain ⟨t, t1, t2, t3, t4⟩ := h7
    refine ⟨t, t1, t2, ?_, fun i hi => ?_⟩
    · rw [updW_cell (by omega)]; exact t3
    · rw [updW_cell (by omega), upd_ne (by omega)]; exact t4 i hi
theorem in_rng {a : Int32} {M N : Nat} (hN : N < 2 ^ 31) (hM : M < 2 ^ 31) : (nI M ≤ a ∧ a ≤ nI N) ↔ ∃ j, M ≤ j ∧ j ≤ N ∧ a = nI j := by
  constructor
  · rintro ⟨h1, h2⟩
    have h0 : ¬ a < 0 := Int32.not_lt.mpr (Int32.le_trans (nI_pos' hM) h1)
    obtain ⟨j, hj, rfl⟩ := nI_of h0
    rw [nI_leI hj hN] at h2
    rw [nI_leI hM hj] at h1
    exact ⟨j, h1, h2, rfl⟩
  · rintro ⟨j, hj, hj2, rfl⟩
    exact ⟨nI_le hj (by omega), nI_le hj2 hN⟩
theorem st_told : St_told Rel := by
  intro n x y p1 hn h
  unfold f_X8_told f_X9_told
  rw [x_within, m_in, bd_s, bd_s, bI_ite0, bI_ite0]
  by_cases c : (1:Int32) ≤ p1 ∧ p1 ≤ 5
  · rw [dT c, dT c]
    obtain ⟨j, hj1, hj, rfl⟩ := (in_rng (a := p1) (M := 1) (N := 5) (by omega) (by omega)).mp c
    rw [ald_nI (by omega) (by omega), ald_nI (by omega) (by omega), h.2.2.1 j (by omega)]
    exact Rel_same h rfl rfl
  · rw [dF c, dF c]
    exact st_fail h 1 _ _ (by omega) rfl (by decide)
theorem st_trace : St_trace Rel := by
  intro n x y p1 hn h
  unfold f_X8_trace f_X9_trace
  obtain ⟨t, t1, t2, t3, t4⟩ := h.2.2.2.2
  rw [t2, t3, x_within, m_in, bd_s, bd_s, bI_ite0, bI_ite1]
  by_cases c : (0:Int32) ≤ p1 ∧ p1 ≤ nI t - 1
  · rw [dT c, dT c]
    obtain ⟨j, hj, rfl⟩ := (le_pred (a := p1) (N := t) (by omega)).mp c
    rw [ald_nI (by omega) (by omega), ald_nI (by omega) (by omega), t4 j hj]
    exact Rel_same h rfl rfl
  · rw [dF c, dF c]
    exact st_fail h 2 _ _ (by omega) rfl (by decide)
end SA
