section LV
/-! what a text gives -/
def joinV (s p q : Int32) : Int32 := if s = 38 then (if p = 0 then 0 else (if q = 0 then 0 else 1)) else if s = 42 then p * q else if s = 43 then p + q else if s = 45 then p - q else if s = 47 then (if q = 0 then 0 else p / q) else if s = 60 then (if q ≤ p then 0 else 1) else if s = 61 then (if p = q then 1 else 0) else if s = 62 then (if p ≤ q then 0 else 1) else if s = 124 then (if p = 0 then (if q = 0 then 0 else 1) else 1) else (if q = 0 then 0 else p - p / q * q)
def evI (a b c item : Int32) (st : List Int32) : List Int32 :=
  if 0 ≤ item then item :: st else if item = -1 then a :: st else if item = -2 then b :: st else if item = -3 then c :: st
  else if item = -33 then (match st with
    | [] => []
    | v :: r => (if v = 0 then 1 else 0) :: r)
  else (match st with
    | v2 :: v1 :: r => joinV (-item) v1 v2 :: r
    | s => s)
def evL (a b c : Int32) : List Int32 → List Int32 → List Int32
  | [], st => st
  | i :: cl, st => evL a b c cl (evI a b c i st)
def codeOf (r : Rw) (u : Nat) : List Int32 := (pS u (fun i => r (129 + 50 * u + i)) (min (r (6 + u)).toNatClampNeg 50) 60 0 0 0).2.2
def hel (u : Nat) (v : Int32) : Int32 := mmax 0 (mmin v (if u = 0 then 999 else 99))
def lawV (r : Rw) (u : Nat) (a b c : Int32) : Int32 := hel u (if r (6 + u) < 0 then (if u = 0 then a + c else 1 + a / 10) else (evL a b c (codeOf r u) []).getLastD 0)
theorem lawV_congr {r r' : Rw} {u : Nat} (h : ∀ i, (i = 6 + u ∨ 129 ≤ i) → r' i = r i) (a b c : Int32) : lawV r' u a b c = lawV r u a b c := by
  unfold lawV codeOf
  rw [h (6 + u) (Or.inl rfl)]
  have : pS u (fun i => r' (129 + 50 * u + i)) (min (r (6 + u)).toNatClampNeg 50) 60 0 0 0 = pS u (fun i => r (129 + 50 * u + i)) (min (r (6 + u)).toNatClampNeg 50) 60 0 0 0 := by
    apply pS_congr
    intro p
    unfold sgB
    by_cases hp : p < min (r (6 + u)).toNatClampNeg 50
    · rw [if_pos hp, if_pos hp]
      exact h _ (by omega)
    · rw [if_neg hp, if_neg hp]
  rw [this]
theorem hel_rng (u : Nat) (v : Int32) : ∃ n, n ≤ 999 ∧ hel u v = nI n := by
  have key : ∀ M : Nat, M ≤ 999 → ∃ n, n ≤ 999 ∧ mmax 0 (mmin v (nI M)) = nI n := fun M hM => by
    unfold mmax mmin
    by_cases h : nI M < v
    · rw [if_pos h]
      by_cases h2 : (0:Int32) < nI M
      · rw [if_pos h2]; exact ⟨M, hM, rfl⟩
      · rw [if_neg h2]; exact ⟨0, by omega, rfl⟩
    · rw [if_neg h]
      by_cases h2 : (0:Int32) < v
      · rw [if_pos h2]
        obtain ⟨j, hj, rfl⟩ := nI_of (Int32.not_lt.mpr (Int32.le_of_lt h2))
        have := Int32.not_lt.mp h
        rw [nI_leI hj (by omega)] at this
        exact ⟨j, by omega, rfl⟩
      · rw [if_neg h2]; exact ⟨0, by omega, rfl⟩
  unfold hel
  by_cases hu : u = 0
  · rw [if_pos hu]; exact key 999 (by omega)
  · rw [if_neg hu]; exact key 99 (by omega)
theorem lawV_rng (r : Rw) (u : Nat) (a b c : Int32) : ∃ n, n ≤ 999 ∧ lawV r u a b c = nI n := hel_rng u _
theorem m_held_hel {u : Nat} (hu : u ≤ 1) (v : Int32) : f_X9_held v 0 (if u = 0 then 999 else 99) = some (hel u v) := by
  have key : ∀ M : Nat, 0 < M → M ≤ 999 → f_X9_held v 0 (nI M) = some (mmax 0 (mmin v (nI M))) := fun M h0 hM => by
    unfold f_X9_held mmax mmin
    by_cases h : (0:Int32) ≤ v
    · obtain ⟨j, hj, rfl⟩ := nI_of (Int32.not_lt.mpr h)
      rw [if_pos h]
      by_cases h2 : nI j ≤ nI M
      · rw [if_pos h2, if_neg (Int32.not_lt.mpr h2)]
        by_cases h3 : (0:Int32) < nI j
        · rw [if_pos h3]
        · rw [if_neg h3]
          have := Int32.le_antisymm (Int32.not_lt.mp h3) h
          rw [this]
      · rw [if_neg h2, if_pos (Int32.not_le.mp h2), if_pos (show (0:Int32) < nI M from (nI_ltI (a := 0) (by omega) (by omega)).mpr h0)]
    · rw [if_neg h]
      have hv : v < 0 := Int32.not_le.mp h
      have h1 : ¬ nI M < v := fun z => Int32.not_le.mpr (Int32.lt_trans z hv) (nI_pos' (by omega))
      rw [if_neg h1, if_neg (fun z => h (Int32.le_of_lt z))]
  unfold hel
  by_cases hu : u = 0
  · rw [if_pos hu]; exact key 999 (by omega) (by omega)
  · rw [if_neg hu]; exact key 99 (by omega) (by omega)
theorem m_held_min {a b M : Nat} (ha : a ≤ 100000) (hb : b ≤ 1000) (hM : M ≤ 100000) : f_X9_held (nI a + nI b) 0 (nI M) = some (mmin (nI a + nI b) (nI M)) := by
  rw [nI_add]
  unfold f_X9_held mmin
  rw [if_pos (nI_pos' (by omega))]
  by_cases h : nI (a + b) ≤ nI M
  · rw [if_pos h, if_neg (Int32.not_lt.mpr h)]
  · rw [if_neg h, if_pos (Int32.not_le.mp h)]
theorem mmin_rng {a b M : Nat} (ha : a ≤ 100000) (hb : b ≤ 1000) (hM : M ≤ 100000) : ∃ k, k ≤ M ∧ mmin (nI a + nI b) (nI M) = nI k := by
  rw [nI_add]
  unfold mmin
  by_cases h : nI M < nI (a + b)
  · rw [if_pos h]; exact ⟨M, Nat.le_refl _, rfl⟩
  · rw [if_neg h]
    rw [nI_ltI (by omega) (by omega)] at h
    exact ⟨a + b, by omega, rfl⟩
end LV
