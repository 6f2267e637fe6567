section SN
def VS (x0 y0 x y : Wd) : Prop := (∀ k, k ≠ 68 → k ≠ 69 → x k = x0 k) ∧ (∀ k, k ≠ 100 → k ≠ 114 → y k = y0 k) ∧ (∀ i, i ≠ 24 → y 100 i = y0 100 i) ∧ ∃ t, t ≤ 40 ∧ x 68 1 = nI t ∧ y 100 24 = nI t ∧ ∀ i, i < t → x 69 i = y 114 i
theorem VS_push {x0 y0 x y : Wd} {c : Int32} (h : VS x0 y0 x y) : ∃ x' y', f_X4_add 68 c x = some x' ∧ f_X9_ran c y = some y' ∧ VS x0 y0 x' y' := by
  obtain ⟨h1, h2, h3, ⟨t, t1, t2, t3, t4⟩⟩ := h
  unfold f_X4_add f_X9_ran
  rw [t2, t3, show rlen 68 = 40 from rfl]
  by_cases z : t = 40
  · subst z
    rw [if_pos (Int32.le_refl _), if_pos (show (40:Int32) ≤ nI 40 from Int32.le_refl _)]
    exact ⟨x, y, rfl, rfl, h1, h2, h3, ⟨40, t1, t2, t3, t4⟩⟩
  · have l : ¬ nI 40 ≤ nI t := nI_ge (by omega) (by omega)
    rw [if_neg l, if_neg (show ¬ (40:Int32) ≤ nI t from l), ast_nI (by omega) (by omega), ast_nI (by omega) (by omega), wl_s, wl_s, updW_cell (k' := 68) (by omega), updW_cell (k' := 100) (by omega), t2, t3, nI_1]
    refine ⟨_, _, rfl, rfl, fun k k1 k2 => by rw [updW_cell (by omega), updW_cell (by omega)]; exact h1 k k1 k2, fun k k1 k2 => by rw [updW_cell (by omega), updW_cell (by omega)]; exact h2 k k1 k2, fun i hi => by rw [updW_place hi, updW_cell (by omega)]; exact h3 i hi, ⟨t + 1, by omega, updW_self _ _ _ _, updW_self _ _ _ _, fun i hi => ?_⟩⟩
    rw [updW_cell (k' := 69) (by omega), updW_cell (k' := 114) (by omega), updW_get, updW_get]
    by_cases q : i = t
    · rw [if_pos ⟨rfl, q⟩, if_pos ⟨rfl, q⟩]
    · rw [if_neg (fun z => q z.2), if_neg (fun z => q z.2)]
      exact t4 i (by omega)
theorem bd_eta {o : Option (Int32 × Wd)} : bd o (fun q => some (q.1, q.2)) = o := by cases o <;> rfl
abbrev OW (f : Nat) := (grp_X7_own f).1
abbrev FR (f : Nat) := (grp_X7_own f).2.1
abbrev BG (f : Nat) := (grp_X7_own f).2.2
theorem grp_s (f : Nat) : grp_X7_own (f + 1) = (fg_X7_own (OW f) (FR f) (BG f), fg_X7_from (OW f) (FR f) (BG f), fg_X7_begun (OW f) (FR f) (BG f)) := by
  unfold OW FR BG grp_X7_own
  rw [lp_s]
theorem OW_s (f : Nat) : OW (f + 1) = fg_X7_own (OW f) (FR f) (BG f) := by
  show (grp_X7_own (f + 1)).1 = _
  rw [grp_s]
theorem FR_s (f : Nat) : FR (f + 1) = fg_X7_from (OW f) (FR f) (BG f) := by
  show (grp_X7_own (f + 1)).2.1 = _
  rw [grp_s]
theorem BG_s (f : Nat) : BG (f + 1) = fg_X7_begun (OW f) (FR f) (BG f) := by
  show (grp_X7_own (f + 1)).2.2 = _
  rw [grp_s]
theorem FR_step {f d : Nat} {p : Int32} {w : Wd} {k a : Nat} (hk : k < 7) (ha : a < 4) : FR (f + 2) (nI k) (nI a) p (nI d) w = fg_X7_begun (OW f) (FR f) (BG f) (nI (vcode a k)) (nI (vhold a k)) p (nI (d + 1)) w := by
  rw [FR_s]
  unfold fg_X7_from
  rw [x_from k hk a ha, bd_eta, nI_1, BG_s]
theorem OW_step {f d : Nat} {p : Int32} {w : Wd} {K a : Nat} (h : w 67 1 = nI K) : OW (f + 1) (nI a) p (nI d) w = FR f (nI K) (nI a) p (nI d) w := by
  rw [OW_s]
  unfold fg_X7_own
  rw [h, bd_eta]
end SN
