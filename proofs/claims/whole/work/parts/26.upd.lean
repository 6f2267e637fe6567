section UP
theorem ite2 {α : Type} {a b : Prop} [Decidable a] [Decidable b] {v u w : α} (h : a ↔ b) (e : u = w) : (if a then v else u) = (if b then v else w) := by
  by_cases hb : b
  · rw [if_pos hb, if_pos (h.mpr hb)]
  · rw [if_neg hb, if_neg (fun q => hb (h.mp q)), e]
/-- one field of one part becomes v: c 1 kind, 2 m, 3 lines, 4 applause -/
theorem T_part {x : Wd} {t : Nat} {r : Rw} {P Q p c : Nat} {v : Int32} (hP : P ≤ 5) (hQ : Q ≤ 6) (hc : 1 ≤ c ∧ c ≤ 4) (hp : p < P) (h : RT x t r P Q) : RT (updW x (t + c) p v) t (upd r (8 + c + 4 * p) v) P Q := by
  obtain ⟨⟨a1, a2, a3, a4⟩, h1, h2, h3, h4, h5⟩ := h
  refine ⟨⟨?_, ?_, ?_, ?_⟩, fun p' hp' => ?_, fun q hq => ?_, fun i hi => ?_, fun p' q1 q2 => ?_, fun q q1 q2 => ?_⟩
  · rw [updW_cell (by omega)]; exact a1
  · rw [updW_cell (by omega)]; exact a2
  · rw [updW_cell (by omega), upd_ne (by omega)]; exact a3
  · rw [updW_cell (by omega), upd_ne (by omega)]; exact a4
  · obtain ⟨b1, b2, b3, b4⟩ := h1 p' hp'
    refine ⟨?_, ?_, ?_, ?_⟩ <;> rw [updW_get, upd_get]
    · exact ite2 (by omega) b1
    · exact ite2 (by omega) b2
    · exact ite2 (by omega) b3
    · exact ite2 (by omega) b4
  · obtain ⟨b1, b2, b3, b4⟩ := h2 q hq
    refine ⟨?_, ?_, ?_, ?_⟩ <;> rw [updW_cell (by omega), upd_ne (by omega)] <;> assumption
  · rw [updW_cell (by omega), h3 i hi]
    by_cases hq : i < Q
    · rw [upd_ne (by omega)]
    · simp [hq]
  · rw [updW_place (by omega)]; exact h4 p' q1 q2
  · rw [updW_cell (by omega), updW_cell (by omega)]; exact h5 q q1 q2
theorem W_part {r : Rw} {P Q p c : Nat} {v : Int32} (hc : 1 ≤ c ∧ c ≤ 4) (hp : p < P) (h1 : c = 1 → ∃ k, k < 7 ∧ v = nI k) (h2 : c = 2 → ∃ k, k < 10 ∧ v = nI k) (h3 : c = 3 → ∃ k, k ≤ 99 ∧ v = nI k) (h4 : c = 4 → ∃ k, k ≤ 99999 ∧ v = nI k) (h : WF r P Q) : WF (upd r (8 + c + 4 * p) v) P Q := by
  obtain ⟨w1, w2, w3, w4, w5, w6, w7, w8⟩ := h
  refine ⟨w1, w2, by rw [upd_ne (by omega)]; exact w3, by rw [upd_ne (by omega)]; exact w4, by rw [upd_ne (by omega)]; exact w5, by rw [upd_ne (by omega)]; exact w6, fun p' hp' => ?_, fun q hq => ?_⟩
  · obtain ⟨b1, b2, b3, b4⟩ := w7 p' hp'
    refine ⟨?_, ?_, ?_, ?_⟩ <;> rw [upd_get]
    · by_cases e : 9 + 4 * p' = 8 + c + 4 * p
      · rw [if_pos e]; exact h1 (by omega)
      · rw [if_neg e]; exact b1
    · by_cases e : 10 + 4 * p' = 8 + c + 4 * p
      · rw [if_pos e]; exact h2 (by omega)
      · rw [if_neg e]; exact b2
    · by_cases e : 11 + 4 * p' = 8 + c + 4 * p
      · rw [if_pos e]; exact h3 (by omega)
      · rw [if_neg e]; exact b3
    · by_cases e : 12 + 4 * p' = 8 + c + 4 * p
      · rw [if_pos e]; exact h4 (by omega)
      · rw [if_neg e]; exact b4
  · rw [upd_ne (by omega), upd_ne (by omega), upd_ne (by omega), upd_ne (by omega), upd_ne (by omega)]
    exact w8 q hq
/-- one field of one player becomes v: c 0 knows, 1 played, 2 own, 3 purse -/
theorem T_play {x : Wd} {t : Nat} {r : Rw} {P Q q c : Nat} {v : Int32} (hP : P ≤ 5) (hQ : Q ≤ 6) (hc : c ≤ 3) (hq : q < Q) (h : RT x t r P Q) : RT (updW x (t + 5 + c) q v) t (upd r (29 + c + 5 * q) v) P Q := by
  obtain ⟨⟨a1, a2, a3, a4⟩, h1, h2, h3, h4, h5⟩ := h
  refine ⟨⟨?_, ?_, ?_, ?_⟩, fun p' hp' => ?_, fun q' hq' => ?_, fun i hi => ?_, fun p' q1 q2 => ?_, fun q' q1 q2 => ?_⟩
  · rw [updW_cell (by omega)]; exact a1
  · rw [updW_cell (by omega)]; exact a2
  · rw [updW_cell (by omega), upd_ne (by omega)]; exact a3
  · rw [updW_cell (by omega), upd_ne (by omega)]; exact a4
  · obtain ⟨b1, b2, b3, b4⟩ := h1 p' hp'
    refine ⟨?_, ?_, ?_, ?_⟩ <;> rw [updW_cell (by omega), upd_ne (by omega)] <;> assumption
  · obtain ⟨b1, b2, b3, b4⟩ := h2 q' hq'
    refine ⟨?_, ?_, ?_, ?_⟩ <;> rw [updW_get, upd_get]
    · exact ite2 (by omega) b1
    · exact ite2 (by omega) b2
    · exact ite2 (by omega) b3
    · exact ite2 (by omega) b4
  · rw [updW_cell (by omega), h3 i hi]
    by_cases hq : i < Q
    · rw [upd_ne (by omega)]
    · simp [hq]
  · rw [updW_cell (by omega)]; exact h4 p' q1 q2
  · rw [updW_place (by omega), updW_place (by omega)]; exact h5 q' q1 q2
theorem W_play {r : Rw} {P Q q c : Nat} {v : Int32} (hc : c ≤ 3) (hP : P ≤ 5) (hq : q < Q) (h1 : c = 0 ∨ c = 1 → ∀ i, P ≤ i → bt v i = false) (h2 : c = 2 → v = -1 ∨ ∃ o, o < P ∧ v = nI o) (h3 : c = 3 → ∃ k, k ≤ 9999 ∧ v = nI k) (h : WF r P Q) : WF (upd r (29 + c + 5 * q) v) P Q := by
  obtain ⟨w1, w2, w3, w4, w5, w6, w7, w8⟩ := h
  refine ⟨w1, w2, by rw [upd_ne (by omega)]; exact w3, by rw [upd_ne (by omega)]; exact w4, by rw [upd_ne (by omega)]; exact w5, by rw [upd_ne (by omega)]; exact w6, fun p' hp' => ?_, fun q' hq' => ?_⟩
  · rw [upd_ne (by omega), upd_ne (by omega), upd_ne (by omega), upd_ne (by omega)]
    exact w7 p' hp'
  · obtain ⟨b1, b2, b3, b4, b5⟩ := w8 q' hq'
    refine ⟨?_, ?_, ?_, ?_, ?_⟩
    · rw [upd_get]
      by_cases e : 29 + 5 * q' = 29 + c + 5 * q
      · rw [if_pos e]; exact h1 (by omega)
      · rw [if_neg e]; exact b1
    · rw [upd_get]
      by_cases e : 30 + 5 * q' = 29 + c + 5 * q
      · rw [if_pos e]; exact h1 (by omega)
      · rw [if_neg e]; exact b2
    · rw [upd_get]
      by_cases e : 31 + 5 * q' = 29 + c + 5 * q
      · rw [if_pos e]; exact h2 (by omega)
      · rw [if_neg e]; exact b3
    · rw [upd_get]
      by_cases e : 32 + 5 * q' = 29 + c + 5 * q
      · rw [if_pos e]; exact h3 (by omega)
      · rw [if_neg e]; exact b4
    · rw [upd_ne (by omega)]; exact b5
theorem T_gala {x : Wd} {t : Nat} {r : Rw} {P Q : Nat} {v : Int32} (hP : P ≤ 5) (hQ : Q ≤ 6) (h : RT x t r P Q) : RT (updW x t 11 v) t (upd r 1 v) P Q := by
  obtain ⟨⟨a1, a2, a3, a4⟩, h1, h2, h3, h4, h5⟩ := h
  refine ⟨⟨?_, ?_, ?_, ?_⟩, fun p' hp' => ?_, fun q' hq' => ?_, fun i hi => ?_, fun p' q1 q2 => ?_, fun q' q1 q2 => ?_⟩
  · rw [updW_place (by omega)]; exact a1
  · rw [updW_place (by omega)]; exact a2
  · rw [updW_self]; rfl
  · rw [updW_place (by omega), upd_ne (by omega)]; exact a4
  · obtain ⟨b1, b2, b3, b4⟩ := h1 p' hp'
    refine ⟨?_, ?_, ?_, ?_⟩ <;> rw [updW_cell (by omega), upd_ne (by omega)] <;> assumption
  · obtain ⟨b1, b2, b3, b4⟩ := h2 q' hq'
    refine ⟨?_, ?_, ?_, ?_⟩ <;> rw [updW_cell (by omega), upd_ne (by omega)] <;> assumption
  · rw [updW_place (by omega), h3 i hi]
    by_cases hq : i < Q
    · rw [upd_ne (by omega)]
    · simp [hq]
  · rw [updW_cell (by omega)]; exact h4 p' q1 q2
  · rw [updW_cell (by omega), updW_cell (by omega)]; exact h5 q' q1 q2
theorem W_gala {r : Rw} {P Q : Nat} {v : Int32} (hv : v = 0 ∨ v = 1) (h : WF r P Q) : WF (upd r 1 v) P Q := by
  obtain ⟨w1, w2, w3, w4, w5, w6, w7, w8⟩ := h
  refine ⟨w1, w2, by rw [upd_ne (by omega)]; exact w3, by rw [upd_ne (by omega)]; exact w4, by rw [upd_ne (by omega)]; exact w5, hv, fun p' hp' => ?_, fun q' hq' => ?_⟩
  · rw [upd_ne (by omega), upd_ne (by omega), upd_ne (by omega), upd_ne (by omega)]
    exact w7 p' hp'
  · rw [upd_ne (by omega), upd_ne (by omega), upd_ne (by omega), upd_ne (by omega), upd_ne (by omega)]
    exact w8 q' hq'
theorem T_night {x : Wd} {t : Nat} {r : Rw} {P Q : Nat} {v : Int32} (hP : P ≤ 5) (hQ : Q ≤ 6) (h : RT x t r P Q) : RT (updW x t 12 v) t (upd r 0 v) P Q := by
  obtain ⟨⟨a1, a2, a3, a4⟩, h1, h2, h3, h4, h5⟩ := h
  refine ⟨⟨?_, ?_, ?_, ?_⟩, fun p' hp' => ?_, fun q' hq' => ?_, fun i hi => ?_, fun p' q1 q2 => ?_, fun q' q1 q2 => ?_⟩
  · rw [updW_place (by omega)]; exact a1
  · rw [updW_place (by omega)]; exact a2
  · rw [updW_place (by omega), upd_ne (by omega)]; exact a3
  · rw [updW_self]; rfl
  · obtain ⟨b1, b2, b3, b4⟩ := h1 p' hp'
    refine ⟨?_, ?_, ?_, ?_⟩ <;> rw [updW_cell (by omega), upd_ne (by omega)] <;> assumption
  · obtain ⟨b1, b2, b3, b4⟩ := h2 q' hq'
    refine ⟨?_, ?_, ?_, ?_⟩ <;> rw [updW_cell (by omega), upd_ne (by omega)] <;> assumption
  · rw [updW_place (by omega), h3 i hi]
    by_cases hq : i < Q
    · rw [upd_ne (by omega)]
    · simp [hq]
  · rw [updW_cell (by omega)]; exact h4 p' q1 q2
  · rw [updW_cell (by omega), updW_cell (by omega)]; exact h5 q' q1 q2
theorem W_night {r : Rw} {P Q n : Nat} (hn : n ≤ 20000) (h : WF r P Q) : WF (upd r 0 (nI n)) P Q := by
  obtain ⟨w1, w2, w3, w4, w5, w6, w7, w8⟩ := h
  refine ⟨w1, w2, by rw [upd_ne (by omega)]; exact w3, by rw [upd_ne (by omega)]; exact w4, ⟨n, hn, rfl⟩, by rw [upd_ne (by omega)]; exact w6, fun p' hp' => ?_, fun q' hq' => ?_⟩
  · rw [upd_ne (by omega), upd_ne (by omega), upd_ne (by omega), upd_ne (by omega)]
    exact w7 p' hp'
  · rw [upd_ne (by omega), upd_ne (by omega), upd_ne (by omega), upd_ne (by omega), upd_ne (by omega)]
    exact w8 q' hq'
/-- ill: a bit here, a number there -/
theorem T_ill {x : Wd} {t : Nat} {r : Rw} {P Q q : Nat} {v u : Int32} {b : Bool} (hP : P ≤ 5) (hQ : Q ≤ 6) (hq : q < Q) (hv : ∀ i, i < 32 → bt v i = if i = q then b else bt (x t 10) i) (hu : u = bI b) (h : RT x t r P Q) : RT (updW x t 10 v) t (upd r (33 + 5 * q) u) P Q := by
  obtain ⟨⟨a1, a2, a3, a4⟩, h1, h2, h3, h4, h5⟩ := h
  refine ⟨⟨?_, ?_, ?_, ?_⟩, fun p' hp' => ?_, fun q' hq' => ?_, fun i hi => ?_, fun p' q1 q2 => ?_, fun q' q1 q2 => ?_⟩
  · rw [updW_place (by omega)]; exact a1
  · rw [updW_place (by omega)]; exact a2
  · rw [updW_place (by omega), upd_ne (by omega)]; exact a3
  · rw [updW_place (by omega), upd_ne (by omega)]; exact a4
  · obtain ⟨b1, b2, b3, b4⟩ := h1 p' hp'
    refine ⟨?_, ?_, ?_, ?_⟩ <;> rw [updW_cell (by omega), upd_ne (by omega)] <;> assumption
  · obtain ⟨b1, b2, b3, b4⟩ := h2 q' hq'
    refine ⟨?_, ?_, ?_, ?_⟩ <;> rw [updW_cell (by omega), upd_ne (by omega)] <;> assumption
  · rw [updW_self, hv i hi]
    by_cases e : i = q
    · subst e
      rw [if_pos rfl, upd_get, if_pos rfl, hu]
      cases b <;> simp [hq, bI]
    · rw [if_neg e, h3 i hi]
      by_cases hq' : i < Q
      · rw [upd_ne (by omega)]
      · simp [hq']
  · rw [updW_cell (by omega)]; exact h4 p' q1 q2
  · rw [updW_cell (by omega), updW_cell (by omega)]; exact h5 q' q1 q2
theorem W_ill {r : Rw} {P Q q : Nat} {u : Int32} (hP : P ≤ 5) (hq : q < Q) (hu : u = 0 ∨ u = 1) (h : WF r P Q) : WF (upd r (33 + 5 * q) u) P Q := by
  obtain ⟨w1, w2, w3, w4, w5, w6, w7, w8⟩ := h
  refine ⟨w1, w2, by rw [upd_ne (by omega)]; exact w3, by rw [upd_ne (by omega)]; exact w4, by rw [upd_ne (by omega)]; exact w5, by rw [upd_ne (by omega)]; exact w6, fun p' hp' => ?_, fun q' hq' => ?_⟩
  · rw [upd_ne (by omega), upd_ne (by omega), upd_ne (by omega), upd_ne (by omega)]
    exact w7 p' hp'
  · obtain ⟨b1, b2, b3, b4, b5⟩ := w8 q' hq'
    refine ⟨by rw [upd_ne (by omega)]; exact b1, by rw [upd_ne (by omega)]; exact b2, by rw [upd_ne (by omega)]; exact b3, by rw [upd_ne (by omega)]; exact b4, ?_⟩
    rw [upd_get]
    by_cases e : 33 + 5 * q' = 33 + 5 * q
    · rw [if_pos e]; exact hu
    · rw [if_neg e]; exact b5
theorem in_nI {a : Int32} {N : Nat} (hN : N < 2 ^ 31) : (0 ≤ a ∧ a ≤ nI N) ↔ ∃ j, j ≤ N ∧ a = nI j := by
  constructor
  · rintro ⟨h1, h2⟩
    obtain ⟨j, hj, rfl⟩ := nI_of (Int32.not_lt.mpr h1)
    rw [nI_leI hj hN] at h2
    exact ⟨j, h2, rfl⟩
  · rintro ⟨j, hj, rfl⟩
    exact ⟨nI_pos' (by omega), nI_le hj hN⟩
end UP
