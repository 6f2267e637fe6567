section SM
/-- the codes of the acts: act a as a part of kind k, at or above it -/
def vcode (a k : Nat) : Nat := if a = 0 then (if k = 2 ∨ k = 5 then 30 else 10) else if a = 1 then (if k = 1 then 20 else if k = 4 then 50 else 11) else if a = 2 then (if k = 3 then 40 else if k = 6 then 70 else 12) else (if k = 5 then 60 else if k = 6 then 71 else 13)
def vhold (a k : Nat) : Nat := if a = 0 then (if k = 2 ∨ k = 5 then 2 else 0) else if a = 1 then (if k = 1 then 1 else if k = 4 then 4 else 0) else if a = 2 then (if k = 3 then 3 else if k = 6 then 6 else 0) else (if k = 5 then 5 else if k = 6 then 6 else 0)
theorem x_from {g1 : Int32 → Int32 → Int32 → Wd → Option (Int32 × Wd)} {g2 g3 : Int32 → Int32 → Int32 → Int32 → Wd → Option (Int32 × Wd)} {p d : Int32} {w : Wd} : ∀ k, k < 7 → ∀ a, a < 4 → f_X7_from_6 g1 g2 g3 (nI a) p d (nI k) 0 w = bd (g3 (nI (vcode a k)) (nI (vhold a k)) p (d + 1) w) (fun q => some (q.1, q.2)) := by
  have hF : ∃ f, FU = f + 8 := ⟨1999992, rfl⟩
  obtain ⟨f, hf⟩ := hF
  unfold f_X7_from_6
  rw [hf]
  show ∀ k, k < 7 → ∀ a, a < 4 → fb_X7_from_6 g1 g2 g3 (fb_X7_from_6 g1 g2 g3 (fb_X7_from_6 g1 g2 g3 (fb_X7_from_6 g1 g2 g3 (lp _ (fun rec => fb_X7_from_6 g1 g2 g3 rec) (f + 4))))) (nI a) p d (nI k) 0 w = _
  generalize lp _ (fun rec => fb_X7_from_6 g1 g2 g3 rec) (f + 4) = g
  intro k hk a ha
  rcases (by omega : k = 0 ∨ k = 1 ∨ k = 2 ∨ k = 3 ∨ k = 4 ∨ k = 5 ∨ k = 6) with rfl | rfl | rfl | rfl | rfl | rfl | rfl <;> rcases (by omega : a = 0 ∨ a = 1 ∨ a = 2 ∨ a = 3) with rfl | rfl | rfl | rfl <;> rfl
end SM
