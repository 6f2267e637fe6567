section SC
theorem T_newpart {x : Wd} {t : Nat} {r : Rw} {P Q : Nat} {k m l : Int32} (hP : P < 5) (hQ : Q ≤ 6) (h : RT x t r P Q) : RT (updW (updW (updW (updW x (t + 1) P k) (t + 2) P m) (t + 3) P l) t 0 (nI (P + 1))) t (upd (upd (upd (upd (upd r (9 + 4 * P) k) (10 + 4 * P) m) (11 + 4 * P) l) (12 + 4 * P) 0) 3 (nI (P + 1))) (P + 1) Q := by
  obtain ⟨⟨a1, a2, a3, a4⟩, h1, h2, h3, h4, h5⟩ := h
  have hr : ∀ i, i ≠ 3 → ¬ (9 + 4 * P ≤ i ∧ i ≤ 12 + 4 * P) → (upd (upd (upd (upd (upd r (9 + 4 * P) k) (10 + 4 * P) m) (11 + 4 * P) l) (12 + 4 * P) 0) 3 (nI (P + 1))) i = r i := fun i i1 i2 => by
    rw [upd_ne (by omega), upd_ne (by omega), upd_ne (by omega), upd_ne (by omega), upd_ne (by omega)]
  have hx : ∀ k', k' ≠ t → k' ≠ t + 1 → k' ≠ t + 2 → k' ≠ t + 3 → (updW (updW (updW (updW x (t + 1) P k) (t + 2) P m) (t + 3) P l) t 0 (nI (P + 1))) k' = x k' := fun k' i1 i2 i3 i4 => by
    rw [updW_cell (by omega), updW_cell (by omega), updW_cell (by omega), updW_cell (by omega)]
  have ht : ∀ i, i ≠ 0 → (updW (updW (updW (updW x (t + 1) P k) (t + 2) P m) (t + 3) P l) t 0 (nI (P + 1))) t i = x t i := fun i i1 => by
    rw [updW_place (by omega), updW_cell (by omega), updW_cell (by omega), updW_cell (by omega)]
  refine ⟨⟨updW_self _ _ _ _, ?_, ?_, ?_⟩, fun p hp => ?_, fun q hq => ?_, fun i hi => ?_, fun p q1 q2 => ?_, fun q q1 q2 => ?_⟩
  · rw [ht _ (by omega)]; exact a2
  · rw [ht _ (by omega), hr _ (by omega) (by omega)]; exact a3
  · rw [ht _ (by omega), hr _ (by omega) (by omega)]; exact a4
  · by_cases ep : p = P
    · subst ep
      refine ⟨?_, ?_, ?_, ?_⟩
      · rw [updW_cell (by omega), updW_cell (by omega), updW_cell (by omega), updW_self, upd_ne (by omega), upd_ne (by omega), upd_ne (by omega), upd_ne (by omega), upd_get, if_pos rfl]
      · rw [updW_cell (by omega), updW_cell (by omega), updW_self, upd_ne (by omega), upd_ne (by omega), upd_ne (by omega), upd_get, if_pos rfl]
      · rw [updW_cell (by omega), updW_self, upd_ne (by omega), upd_ne (by omega), upd_get, if_pos rfl]
      · rw [hx _ (by omega) (by omega) (by omega) (by omega), upd_ne (by omega), upd_get, if_pos rfl]
        exact h4 p (Nat.le_refl _) hP
    · rw [hr _ (by omega) (by omega), hr _ (by omega) (by omega), hr _ (by omega) (by omega), hr _ (by omega) (by omega)]
      obtain ⟨b1, b2, b3, b4⟩ := h1 p (by omega)
      refine ⟨?_, ?_, ?_, ?_⟩
      · rw [updW_cell (by omega), updW_place (by omega), updW_place (by omega), updW_place (by omega)]; exact b1
      · rw [updW_cell (by omega), updW_place (by omega), updW_place (by omega), updW_place (by omega)]; exact b2
      · rw [updW_cell (by omega), updW_place (by omega), updW_place (by omega), updW_place (by omega)]; exact b3
      · rw [updW_cell (by omega), updW_place (by omega), updW_place (by omega), updW_place (by omega)]; exact b4
  · rw [hx _ (by omega) (by omega) (by omega) (by omega), hx _ (by omega) (by omega) (by omega) (by omega), hx _ (by omega) (by omega) (by omega) (by omega), hx _ (by omega) (by omega) (by omega) (by omega), hr _ (by omega) (by omega), hr _ (by omega) (by omega), hr _ (by omega) (by omega), hr _ (by omega) (by omega)]
    exact h2 q hq
  · rw [ht _ (by omega), h3 i hi]
    by_cases hq : i < Q
    · rw [hr _ (by omega) (by omega)]
    · simp [hq]
  · rw [hx _ (by omega) (by omega) (by omega) (by omega)]; exact h4 p (by omega) q2
  · rw [hx _ (by omega) (by omega) (by omega) (by omega), hx _ (by omega) (by omega) (by omega) (by omega)]; exact h5 q q1 q2
theorem W_newpart {r : Rw} {P Q k m l : Nat} (hP : P < 5) (hk : k < 7) (hm : m < 10) (hl : l ≤ 99) (h : WF r P Q) : WF (upd (upd (upd (upd (upd r (9 + 4 * P) (nI k)) (10 + 4 * P) (nI m)) (11 + 4 * P) (nI l)) (12 + 4 * P) 0) 3 (nI (P + 1))) (P + 1) Q := by
  obtain ⟨w1, w2, w3, w4, w5, w6, w7, w8⟩ := h
  have hr : ∀ i, i ≠ 3 → ¬ (9 + 4 * P ≤ i ∧ i ≤ 12 + 4 * P) → (upd (upd (upd (upd (upd r (9 + 4 * P) (nI k)) (10 + 4 * P) (nI m)) (11 + 4 * P) (nI l)) (12 + 4 * P) 0) 3 (nI (P + 1))) i = r i := fun i i1 i2 => by
    rw [upd_ne (by omega), upd_ne (by omega), upd_ne (by omega), upd_ne (by omega), upd_ne (by omega)]
  refine ⟨by omega, w2, by rw [upd_get, if_pos rfl], by rw [hr _ (by omega) (by omega)]; exact w4, by rw [hr _ (by omega) (by omega)]; exact w5, by rw [hr _ (by omega) (by omega)]; exact w6, fun p hp => ?_, fun q hq => ?_⟩
  · by_cases ep : p = P
    · subst ep
      refine ⟨⟨k, hk, ?_⟩, ⟨m, hm, ?_⟩, ⟨l, hl, ?_⟩, ⟨0, by omega, ?_⟩⟩
      · rw [upd_ne (by omega), upd_ne (by omega), upd_ne (by omega), upd_ne (by omega), upd_get, if_pos rfl]
      · rw [upd_ne (by omega), upd_ne (by omega), upd_ne (by omega), upd_get, if_pos rfl]
      · rw [upd_ne (by omega), upd_ne (by omega), upd_get, if_pos rfl]
      · rw [upd_ne (by omega), upd_get, if_pos rfl]; rfl
    · rw [hr _ (by omega) (by omega), hr _ (by omega) (by omega), hr _ (by omega) (by omega), hr _ (by omega) (by omega)]
      exact w7 p (by omega)
  · rw [hr _ (by omega) (by omega), hr _ (by omega) (by omega), hr _ (by omega) (by omega), hr _ (by omega) (by omega), hr _ (by omega) (by omega)]
    obtain ⟨b1, b2, b3, b4, b5⟩ := w8 q hq
    refine ⟨fun i hi => b1 i (by omega), fun i hi => b2 i (by omega), ?_, b4, b5⟩
    rcases b3 with b | ⟨o, o1, o2⟩
    · exact Or.inl b
    · exact Or.inr ⟨o, by omega, o2⟩
theorem T_newplayer {x : Wd} {t : Nat} {r : Rw} {P Q : Nat} {kn ow : Int32} (hP : P ≤ 5) (hQ : Q < 6) (h : RT x t r P Q) : RT (updW (updW (updW x (t + 7) Q ow) (t + 5) Q kn) t 5 (nI (Q + 1))) t (upd (upd (upd (upd (upd (upd r 8 (nI (Q + 1))) (29 + 5 * Q) kn) (30 + 5 * Q) 0) (31 + 5 * Q) ow) (32 + 5 * Q) 0) (33 + 5 * Q) 0) P (Q + 1) := by
  obtain ⟨⟨a1, a2, a3, a4⟩, h1, h2, h3, h4, h5⟩ := h
  have hr : ∀ i, i ≠ 8 → ¬ (29 + 5 * Q ≤ i ∧ i ≤ 33 + 5 * Q) → (upd (upd (upd (upd (upd (upd r 8 (nI (Q + 1))) (29 + 5 * Q) kn) (30 + 5 * Q) 0) (31 + 5 * Q) ow) (32 + 5 * Q) 0) (33 + 5 * Q) 0) i = r i := fun i i1 i2 => by
    rw [upd_ne (by omega), upd_ne (by omega), upd_ne (by omega), upd_ne (by omega), upd_ne (by omega), upd_ne (by omega)]
  have hx : ∀ k', k' ≠ t → k' ≠ t + 7 → k' ≠ t + 5 → (updW (updW (updW x (t + 7) Q ow) (t + 5) Q kn) t 5 (nI (Q + 1))) k' = x k' := fun k' i1 i2 i3 => by
    rw [updW_cell (by omega), updW_cell (by omega), updW_cell (by omega)]
  have ht : ∀ i, i ≠ 5 → (updW (updW (updW x (t + 7) Q ow) (t + 5) Q kn) t 5 (nI (Q + 1))) t i = x t i := fun i i1 => by
    rw [updW_place (by omega), updW_cell (by omega), updW_cell (by omega)]
  refine ⟨⟨?_, updW_self _ _ _ _, ?_, ?_⟩, fun p hp => ?_, fun q hq => ?_, fun i hi => ?_, fun p q1 q2 => ?_, fun q q1 q2 => ?_⟩
  · rw [ht _ (by omega)]; exact a1
  · rw [ht _ (by omega), hr _ (by omega) (by omega)]; exact a3
  · rw [ht _ (by omega), hr _ (by omega) (by omega)]; exact a4
  · rw [hx _ (by omega) (by omega) (by omega), hx _ (by omega) (by omega) (by omega), hx _ (by omega) (by omega) (by omega), hx _ (by omega) (by omega) (by omega), hr _ (by omega) (by omega), hr _ (by omega) (by omega), hr _ (by omega) (by omega), hr _ (by omega) (by omega)]
    exact h1 p hp
  · by_cases ep : q = Q
    · subst ep
      refine ⟨?_, ?_, ?_, ?_⟩
      · rw [updW_cell (by omega), updW_self, upd_ne (by omega), upd_ne (by omega), upd_ne (by omega), upd_ne (by omega), upd_get, if_pos rfl]
      · rw [hx _ (by omega) (by omega) (by omega), upd_ne (by omega), upd_ne (by omega), upd_ne (by omega), upd_get, if_pos rfl]
        exact (h5 q (Nat.le_refl _) hQ).1
      · rw [updW_cell (by omega), updW_cell (by omega), updW_self, upd_ne (by omega), upd_ne (by omega), upd_get, if_pos rfl]
      · rw [hx _ (by omega) (by omega) (by omega), upd_ne (by omega), upd_get, if_pos rfl]
        exact (h5 q (Nat.le_refl _) hQ).2
    · rw [hr _ (by omega) (by omega), hr _ (by omega) (by omega), hr _ (by omega) (by omega), hr _ (by omega) (by omega)]
      obtain ⟨b1, b2, b3, b4⟩ := h2 q (by omega)
      refine ⟨?_, ?_, ?_, ?_⟩
      · rw [updW_cell (by omega), updW_place (by omega), updW_place (by omega)]; exact b1
      · rw [updW_cell (by omega), updW_place (by omega), updW_place (by omega)]; exact b2
      · rw [updW_cell (by omega), updW_place (by omega), updW_place (by omega)]; exact b3
      · rw [updW_cell (by omega), updW_place (by omega), updW_place (by omega)]; exact b4
  · rw [ht _ (by omega), h3 i hi]
    by_cases hq : i = Q
    · subst hq
      rw [upd_get, if_pos rfl]
      simp
    · by_cases hq2 : i < Q
      · rw [hr _ (by omega) (by omega), decide_eq_true hq2, decide_eq_true (by omega : i < Q + 1)]
      · rw [decide_eq_false hq2, decide_eq_false (by omega : ¬ i < Q + 1)]; simp
  · rw [hx _ (by omega) (by omega) (by omega)]; exact h4 p q1 q2
  · rw [hx _ (by omega) (by omega) (by omega), hx _ (by omega) (by omega) (by omega)]; exact h5 q (by omega) q2
theorem W_newplayer {r : Rw} {P Q : Nat} {kn ow : Int32} (hQ : Q < 6) (hP : P ≤ 5) (hk : ∀ i, P ≤ i → bt kn i = false) (ho : ow = -1 ∨ ∃ o, o < P ∧ ow = nI o) (h : WF r P Q) : WF (upd (upd (upd (upd (upd (upd r 8 (nI (Q + 1))) (29 + 5 * Q) kn) (30 + 5 * Q) 0) (31 + 5 * Q) ow) (32 + 5 * Q) 0) (33 + 5 * Q) 0) P (Q + 1) := by
  obtain ⟨w1, w2, w3, w4, w5, w6, w7, w8⟩ := h
  have hr : ∀ i, i ≠ 8 → ¬ (29 + 5 * Q ≤ i ∧ i ≤ 33 + 5 * Q) → (upd (upd (upd (upd (upd (upd r 8 (nI (Q + 1))) (29 + 5 * Q) kn) (30 + 5 * Q) 0) (31 + 5 * Q) ow) (32 + 5 * Q) 0) (33 + 5 * Q) 0) i = r i := fun i i1 i2 => by
    rw [upd_ne (by omega), upd_ne (by omega), upd_ne (by omega), upd_ne (by omega), upd_ne (by omega), upd_ne (by omega)]
  refine ⟨w1, by omega, by rw [hr _ (by omega) (by omega)]; exact w3, ?_, by rw [hr _ (by omega) (by omega)]; exact w5, by rw [hr _ (by omega) (by omega)]; exact w6, fun p hp => ?_, fun q hq => ?_⟩
  · rw [upd_ne (by omega), upd_ne (by omega), upd_ne (by omega), upd_ne (by omega), upd_ne (by omega), upd_get, if_pos rfl]
  · rw [hr _ (by omega) (by omega), hr _ (by omega) (by omega), hr _ (by omega) (by omega), hr _ (by omega) (by omega)]
    exact w7 p hp
  · by_cases ep : q = Q
    · subst ep
      refine ⟨?_, ?_, ?_, ⟨0, by omega, ?_⟩, ?_⟩
      · rw [upd_ne (by omega), upd_ne (by omega), upd_ne (by omega), upd_ne (by omega), upd_get, if_pos rfl]; exact hk
      · rw [upd_ne (by omega), upd_ne (by omega), upd_ne (by omega), upd_get, if_pos rfl]; exact fun i _ => b_0 i
      · rw [upd_ne (by omega), upd_ne (by omega), upd_get, if_pos rfl]; exact ho
      · rw [upd_ne (by omega), upd_get, if_pos rfl]; rfl
      · rw [upd_get, if_pos rfl]; exact Or.inl rfl
    · rw [hr _ (by omega) (by omega), hr _ (by omega) (by omega), hr _ (by omega) (by omega), hr _ (by omega) (by omega), hr _ (by omega) (by omega)]
      exact w8 q (by omega)
end SC
