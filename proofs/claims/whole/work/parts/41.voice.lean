section SO
def Sim (x0 y0 : Wd) (A B : Wd → Option (Int32 × Wd)) : Prop := ∀ x y, VS x0 y0 x y → ∃ r x' y', A x = some (r, x') ∧ B y = some (r, y') ∧ VS x0 y0 x' y'
def vabove (k : Nat) : Nat := if k = 4 then 1 else if k = 5 then 2 else if k = 6 then 3 else 0
theorem m_above : ∀ k, k < 7 → ¬ k = 0 → f_X9_above (nI k) = some (nI (vabove k)) := by
  intro k hk h0
  rcases (by omega : k = 1 ∨ k = 2 ∨ k = 3 ∨ k = 4 ∨ k = 5 ∨ k = 6) with rfl | rfl | rfl | rfl | rfl | rfl <;> rfl
theorem sp_s (g : Nat) : grp_X9_speaksIn (g + 1) = fg_X9_speaksIn (grp_X9_speaksIn g) := by
  unfold grp_X9_speaksIn
  rw [lp_s]
theorem fa_s (g : Nat) : grp_X9_fallsIn (g + 1) = fg_X9_fallsIn (grp_X9_fallsIn g) := by
  unfold grp_X9_fallsIn
  rw [lp_s]
theorem en_s (g : Nat) : grp_X9_entersIn (g + 1) = fg_X9_entersIn (grp_X9_entersIn g) := by
  unfold grp_X9_entersIn
  rw [lp_s]
theorem te_s (g : Nat) : grp_X9_tellsIn (g + 1) = fg_X9_tellsIn (grp_X9_tellsIn g) := by
  unfold grp_X9_tellsIn
  rw [lp_s]
theorem ne_nI {k m : Nat} (hk : k < 7) (hm : m < 7) (h : ¬ k = m) : ¬ nI k = nI m := by rw [nI_eq (by omega) (by omega)]; exact h
theorem sp_up {g k : Nat} {p : Int32} {y : Wd} (hk : k < 7) (h0 : ¬ k = 0) (h2 : ¬ k = 2) : grp_X9_speaksIn (g + 1) (nI k) p y = grp_X9_speaksIn g (nI (vabove k)) p y := by
  rw [sp_s]
  unfold fg_X9_speaksIn
  rw [if_pos (show ¬ nI k = 0 from ne_nI (m := 0) hk (by omega) h0), if_pos (show ¬ nI k = 2 from ne_nI (m := 2) hk (by omega) h2), m_above k hk h0, bd_s, bd_eta]
theorem fa_up {g k : Nat} {p : Int32} {y : Wd} (hk : k < 7) (h0 : ¬ k = 0) (h3 : ¬ k = 3) (h6 : ¬ k = 6) : grp_X9_fallsIn (g + 1) (nI k) p y = grp_X9_fallsIn g (nI (vabove k)) p y := by
  rw [fa_s]
  unfold fg_X9_fallsIn
  rw [if_pos (show ¬ nI k = 0 from ne_nI (m := 0) hk (by omega) h0), if_pos (show ¬ nI k = 3 from ne_nI (m := 3) hk (by omega) h3), if_pos (show ¬ nI k = 6 from ne_nI (m := 6) hk (by omega) h6), m_above k hk h0, bd_s, bd_eta]
theorem en_up {g k : Nat} {p : Int32} {y : Wd} (hk : k < 7) (h0 : ¬ k = 0) (h1 : ¬ k = 1) (h4 : ¬ k = 4) : grp_X9_entersIn (g + 1) (nI k) p y = grp_X9_entersIn g (nI (vabove k)) p y := by
  rw [en_s]
  unfold fg_X9_entersIn
  rw [if_pos (show ¬ nI k = 0 from ne_nI (m := 0) hk (by omega) h0), if_pos (show ¬ nI k = 1 from ne_nI (m := 1) hk (by omega) h1), if_pos (show ¬ nI k = 4 from ne_nI (m := 4) hk (by omega) h4), m_above k hk h0, bd_s, bd_eta]
theorem te_up {g k : Nat} {p : Int32} {y : Wd} (hk : k < 7) (h0 : ¬ k = 0) (h5 : ¬ k = 5) (h6 : ¬ k = 6) : grp_X9_tellsIn (g + 1) (nI k) p y = grp_X9_tellsIn g (nI (vabove k)) p y := by
  rw [te_s]
  unfold fg_X9_tellsIn
  rw [if_pos (show ¬ nI k = 0 from ne_nI (m := 0) hk (by omega) h0), if_pos (show ¬ nI k = 5 from ne_nI (m := 5) hk (by omega) h5), if_pos (show ¬ nI k = 6 from ne_nI (m := 6) hk (by omega) h6), m_above k hk h0, bd_s, bd_eta]
end SO
