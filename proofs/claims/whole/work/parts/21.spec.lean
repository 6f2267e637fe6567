section SP
abbrev Rw : Type := Nat → Int32
/-! a troupe as the reference's row of numbers has it -/
def knR (r : Rw) (q p : Nat) : Bool := bt (r (29 + 5 * q)) p
def plR (r : Rw) (q p : Nat) : Bool := bt (r (30 + 5 * q)) p
def owR (r : Rw) (q p : Nat) : Bool := decide (r (31 + 5 * q) = nI p)
def evR (r : Rw) : Bool := !bt (r 0) 0
def emR (r : Rw) (p : Nat) : Bool := decide (r (9 + 4 * p) = 3) || (decide (r (9 + 4 * p) = 6) && evR r)
def dbR (r : Rw) (p : Nat) : Bool := decide (r (9 + 4 * p) = 1) || decide (r (9 + 4 * p) = 4)
def psR (r : Rw) (q p : Nat) : Bool := if r 1 = 1 then owR r q p else (knR r q p && !plR r q p && !owR r q p)
def mayR (r : Rw) (q p : Nat) : Bool := if r (33 + 5 * q) = 1 then false else if r (9 + 4 * p) = 2 then !plR r q p else if r (9 + 4 * p) = 3 then false else if r (9 + 4 * p) = 4 then (if r (11 + 4 * p) ≤ 50 then psR r q p else knR r q p) else if r (9 + 4 * p) = 5 then true else if r (9 + 4 * p) = 6 then (owR r q p && !emR r p) else psR r q p
/-- well formed, with P parts and Q players -/
def WF (r : Rw) (P Q : Nat) : Prop :=
  P ≤ 5 ∧ Q ≤ 6 ∧ r 3 = nI P ∧ r 8 = nI Q ∧ (∃ n, n ≤ 20000 ∧ r 0 = nI n) ∧ (r 1 = 0 ∨ r 1 = 1) ∧
  (∀ p, p < P → (∃ k, k < 7 ∧ r (9 + 4 * p) = nI k) ∧ (∃ k, k < 10 ∧ r (10 + 4 * p) = nI k) ∧ (∃ k, k ≤ 99 ∧ r (11 + 4 * p) = nI k) ∧ ∃ k, k ≤ 99999 ∧ r (12 + 4 * p) = nI k) ∧
  (∀ q, q < Q → (∀ i, P ≤ i → bt (r (29 + 5 * q)) i = false) ∧ (∀ i, P ≤ i → bt (r (30 + 5 * q)) i = false) ∧ (r (31 + 5 * q) = -1 ∨ ∃ o, o < P ∧ r (31 + 5 * q) = nI o) ∧ (∃ k, k ≤ 9999 ∧ r (32 + 5 * q) = nI k) ∧ (r (33 + 5 * q) = 0 ∨ r (33 + 5 * q) = 1))
/-! the reference's small methods -/
theorem m_in (a b c : Int32) : f_X9_in a b c = some (bI (decide (b ≤ a ∧ a ≤ c))) := by
  unfold f_X9_in
  by_cases h1 : a < b
  · rw [if_pos h1]
    have : ¬ b ≤ a := Int32.not_le.mpr h1
    simp [this, bI]
  · rw [if_neg h1]
    have h1' : b ≤ a := Int32.not_lt.mp h1
    by_cases h2 : c < a
    · rw [if_pos h2]
      have : ¬ a ≤ c := Int32.not_le.mpr h2
      simp [this, bI]
    · rw [if_neg h2]
      have h2' : a ≤ c := Int32.not_lt.mp h2
      simp [h1', h2', bI]
theorem m_its {y : Wd} {p c : Nat} (h : 9 + 4 * p + c < 229) : f_X9_its y (nI p) (nI c) = some (y 101 (9 + 4 * p + c)) := by
  unfold f_X9_its
  rw [show (9:Int32) + 4 * nI p + nI c = nI (9 + 4 * p + c) by
    rw [show (4:Int32) = nI 4 from rfl, show (9:Int32) = nI 9 from rfl, nI_mul, nI_add, nI_add], ald_nI h (by omega)]
theorem m_of {y : Wd} {p c : Nat} (h : 29 + 5 * p + c < 229) : f_X9_of y (nI p) (nI c) = some (y 101 (29 + 5 * p + c)) := by
  unfold f_X9_of
  rw [show (29:Int32) + 5 * nI p + nI c = nI (29 + 5 * p + c) by
    rw [show (5:Int32) = nI 5 from rfl, show (29:Int32) = nI 29 from rfl, nI_mul, nI_add, nI_add], ald_nI h (by omega)]
theorem m_gets {y : Wd} {p c : Nat} {v : Int32} (h : 29 + 5 * p + c < 229) : f_X9_gets (nI p) (nI c) v y = some (updW y 101 (29 + 5 * p + c) v) := by
  unfold f_X9_gets
  rw [show (29:Int32) + 5 * nI p + nI c = nI (29 + 5 * p + c) by
    rw [show (5:Int32) = nI 5 from rfl, show (29:Int32) = nI 29 from rfl, nI_mul, nI_add, nI_add], ast_nI h (by omega)]
theorem m_its0 {y : Wd} {p : Nat} (h : p < 50) : f_X9_its y (nI p) 0 = some (y 101 (9 + 4 * p)) := m_its (c := 0) (by omega)
theorem m_its2 {y : Wd} {p : Nat} (h : p < 50) : f_X9_its y (nI p) 2 = some (y 101 (11 + 4 * p)) := by
  rw [show (2:Int32) = nI 2 from rfl, m_its (by omega), show 9 + 4 * p + 2 = 11 + 4 * p by omega]
theorem m_its1 {y : Wd} {p : Nat} (h : p < 50) : f_X9_its y (nI p) 1 = some (y 101 (10 + 4 * p)) := by
  rw [show (1:Int32) = nI 1 from rfl, m_its (by omega), show 9 + 4 * p + 1 = 10 + 4 * p by omega]
theorem m_its3 {y : Wd} {p : Nat} (h : p < 50) : f_X9_its y (nI p) 3 = some (y 101 (12 + 4 * p)) := by
  rw [show (3:Int32) = nI 3 from rfl, m_its (by omega), show 9 + 4 * p + 3 = 12 + 4 * p by omega]
theorem m_of0 {y : Wd} {p : Nat} (h : p < 30) : f_X9_of y (nI p) 0 = some (y 101 (29 + 5 * p)) := m_of (c := 0) (by omega)
theorem m_of1 {y : Wd} {p : Nat} (h : p < 30) : f_X9_of y (nI p) 1 = some (y 101 (30 + 5 * p)) := by
  rw [show (1:Int32) = nI 1 from rfl, m_of (by omega), show 29 + 5 * p + 1 = 30 + 5 * p by omega]
theorem m_of2 {y : Wd} {p : Nat} (h : p < 30) : f_X9_of y (nI p) 2 = some (y 101 (31 + 5 * p)) := by
  rw [show (2:Int32) = nI 2 from rfl, m_of (by omega), show 29 + 5 * p + 2 = 31 + 5 * p by omega]
theorem m_of3 {y : Wd} {p : Nat} (h : p < 30) : f_X9_of y (nI p) 3 = some (y 101 (32 + 5 * p)) := by
  rw [show (3:Int32) = nI 3 from rfl, m_of (by omega), show 29 + 5 * p + 3 = 32 + 5 * p by omega]
theorem m_of4 {y : Wd} {p : Nat} (h : p < 30) : f_X9_of y (nI p) 4 = some (y 101 (33 + 5 * p)) := by
  rw [show (4:Int32) = nI 4 from rfl, m_of (by omega), show 29 + 5 * p + 4 = 33 + 5 * p by omega]
theorem m_gets1 {y : Wd} {p : Nat} {v : Int32} (h : p < 30) : f_X9_gets (nI p) 1 v y = some (updW y 101 (30 + 5 * p) v) := by
  rw [show (1:Int32) = nI 1 from rfl, m_gets (by omega), show 29 + 5 * p + 1 = 30 + 5 * p by omega]
theorem m_gets0 {y : Wd} {p : Nat} {v : Int32} (h : p < 30) : f_X9_gets (nI p) 0 v y = some (updW y 101 (29 + 5 * p) v) := m_gets (c := 0) (by omega)
theorem m_gets2 {y : Wd} {p : Nat} {v : Int32} (h : p < 30) : f_X9_gets (nI p) 2 v y = some (updW y 101 (31 + 5 * p) v) := by
  rw [show (2:Int32) = nI 2 from rfl, m_gets (by omega), show 29 + 5 * p + 2 = 31 + 5 * p by omega]
theorem m_gets3 {y : Wd} {p : Nat} {v : Int32} (h : p < 30) : f_X9_gets (nI p) 3 v y = some (updW y 101 (32 + 5 * p) v) := by
  rw [show (3:Int32) = nI 3 from rfl, m_gets (by omega), show 29 + 5 * p + 3 = 32 + 5 * p by omega]
theorem m_gets4 {y : Wd} {p : Nat} {v : Int32} (h : p < 30) : f_X9_gets (nI p) 4 v y = some (updW y 101 (33 + 5 * p) v) := by
  rw [show (4:Int32) = nI 4 from rfl, m_gets (by omega), show 29 + 5 * p + 4 = 33 + 5 * p by omega]
/-- a place of the row by its number -/
theorem m_row {α : Type} {y : Wd} {i : Nat} {c : Int32} {K : Int32 → Option α} (hc : c = nI i) (h : i < 229) : ald y 101 229 c K = K (y 101 i) := by
  subst hc
  exact ald_nI h (by omega)
theorem m_rowS {α : Type} {y : Wd} {i : Nat} {c v : Int32} {K : Wd → Option α} (hc : c = nI i) (h : i < 229) : ast y 101 229 c v K = K (updW y 101 i v) := by
  subst hc
  exact ast_nI h (by omega)
theorem m_r0 {α : Type} {y : Wd} {K : Int32 → Option α} : ald y 101 229 (0:Int32) K = K (y 101 0) := m_row rfl (by omega)
theorem m_s0 {α : Type} {y : Wd} {v : Int32} {K : Wd → Option α} : ast y 101 229 (0:Int32) v K = K (updW y 101 0 v) := m_rowS rfl (by omega)
theorem m_r1 {α : Type} {y : Wd} {K : Int32 → Option α} : ald y 101 229 (1:Int32) K = K (y 101 1) := m_row rfl (by omega)
theorem m_s1 {α : Type} {y : Wd} {v : Int32} {K : Wd → Option α} : ast y 101 229 (1:Int32) v K = K (updW y 101 1 v) := m_rowS rfl (by omega)
theorem m_r2 {α : Type} {y : Wd} {K : Int32 → Option α} : ald y 101 229 (2:Int32) K = K (y 101 2) := m_row rfl (by omega)
theorem m_s2 {α : Type} {y : Wd} {v : Int32} {K : Wd → Option α} : ast y 101 229 (2:Int32) v K = K (updW y 101 2 v) := m_rowS rfl (by omega)
theorem m_r3 {α : Type} {y : Wd} {K : Int32 → Option α} : ald y 101 229 (3:Int32) K = K (y 101 3) := m_row rfl (by omega)
theorem m_s3 {α : Type} {y : Wd} {v : Int32} {K : Wd → Option α} : ast y 101 229 (3:Int32) v K = K (updW y 101 3 v) := m_rowS rfl (by omega)
theorem m_r4 {α : Type} {y : Wd} {K : Int32 → Option α} : ald y 101 229 (4:Int32) K = K (y 101 4) := m_row rfl (by omega)
theorem m_s4 {α : Type} {y : Wd} {v : Int32} {K : Wd → Option α} : ast y 101 229 (4:Int32) v K = K (updW y 101 4 v) := m_rowS rfl (by omega)
theorem m_r5 {α : Type} {y : Wd} {K : Int32 → Option α} : ald y 101 229 (5:Int32) K = K (y 101 5) := m_row rfl (by omega)
theorem m_s5 {α : Type} {y : Wd} {v : Int32} {K : Wd → Option α} : ast y 101 229 (5:Int32) v K = K (updW y 101 5 v) := m_rowS rfl (by omega)
theorem m_r6 {α : Type} {y : Wd} {K : Int32 → Option α} : ald y 101 229 (6:Int32) K = K (y 101 6) := m_row rfl (by omega)
theorem m_s6 {α : Type} {y : Wd} {v : Int32} {K : Wd → Option α} : ast y 101 229 (6:Int32) v K = K (updW y 101 6 v) := m_rowS rfl (by omega)
theorem m_r7 {α : Type} {y : Wd} {K : Int32 → Option α} : ald y 101 229 (7:Int32) K = K (y 101 7) := m_row rfl (by omega)
theorem m_s7 {α : Type} {y : Wd} {v : Int32} {K : Wd → Option α} : ast y 101 229 (7:Int32) v K = K (updW y 101 7 v) := m_rowS rfl (by omega)
theorem m_r8 {α : Type} {y : Wd} {K : Int32 → Option α} : ald y 101 229 (8:Int32) K = K (y 101 8) := m_row rfl (by omega)
theorem m_s8 {α : Type} {y : Wd} {v : Int32} {K : Wd → Option α} : ast y 101 229 (8:Int32) v K = K (updW y 101 8 v) := m_rowS rfl (by omega)
theorem le_pred {a : Int32} {N : Nat} (hN : N ≤ 1000000) : (0 ≤ a ∧ a ≤ nI N - 1) ↔ ∃ j, j < N ∧ a = nI j := by
  constructor
  · rintro ⟨h1, h2⟩
    obtain ⟨j, hj, rfl⟩ := nI_of (Int32.not_lt.mpr h1)
    cases N with
    | zero =>
      have h3 : (nI 0 - 1).toInt = -1 := by decide
      have h4 := Int32.le_iff_toInt_le.mp h2
      rw [h3, nI_toInt hj] at h4
      omega
    | succ N =>
      rw [nI_pred, nI_leI hj (by omega)] at h2
      exact ⟨j, by omega, rfl⟩
  · rintro ⟨j, hj, rfl⟩
    cases N with
    | zero => omega
    | succ N =>
      rw [nI_pred, nI_leI (by omega) (by omega)]
      exact ⟨nI_pos' (by omega), by omega⟩
theorem m_isPart {y : Wd} {P : Nat} (hP : P ≤ 5) (h : y 101 3 = nI P) (a : Int32) : f_X9_isPart y a = some (bI (decide (0 ≤ a ∧ a ≤ nI P - 1))) := by
  unfold f_X9_isPart
  rw [m_r3, h, m_in, bd_s, zk_b]
theorem m_isPlayer {y : Wd} {Q : Nat} (hQ : Q ≤ 6) (h : y 101 8 = nI Q) (a : Int32) : f_X9_isPlayer y a = some (bI (decide (0 ≤ a ∧ a ≤ nI Q - 1))) := by
  unfold f_X9_isPlayer
  rw [m_r8, h, m_in, bd_s, zk_b]
theorem m_has {x : Int32} {p : Nat} (hp : p < 32) : f_X9_has x (nI p) = some (bI (bt x p)) := by
  unfold f_X9_has
  rw [and1_bI hp]
  cases bt x p <;> rfl
theorem half_ev {n : Nat} (hn : n ≤ 1000000) : (nI n - nI n / 2 * 2 = 0) ↔ bt (nI n) 0 = false := by
  have e : nI n / 2 = nI (n / 2) := by
    apply Int32.toInt_inj.mp
    rw [Int32.toInt_div_of_ne_right _ _ (by decide), nI_toInt (by omega), nI_toInt (by omega)]
    show (n : Int).tdiv 2 = _
    rw [Int.tdiv_eq_ediv_of_nonneg (by omega)]
    omega
  rw [e, show (2:Int32) = nI 2 from rfl, nI_mul]
  have e2 : nI n - nI (n / 2 * 2) = nI (n % 2) := by
    have : nI n = nI (n % 2) + nI (n / 2 * 2) := by rw [nI_add]; congr 1; omega
    rw [this]
    exact Int32.add_sub_cancel _ _
  rw [e2]
  have e3 : bt (nI n) 0 = decide (n % 2 = 1) := by
    show (BitVec.ofNat 32 n).getLsbD 0 = _
    rw [BitVec.getLsbD_ofNat]
    simp [Nat.testBit_zero]
  rw [e3, decide_eq_false_iff_not, show (0:Int32) = nI 0 from rfl, nI_eq (by omega) (by omega)]
  omega
theorem m_isEmpty {y : Wd} {p n : Nat} (hp : p < 50) (hn : n ≤ 1000000) (h0 : y 101 0 = nI n) : f_X9_isEmpty y (nI p) = some (bI (emR (y 101) p)) := by
  unfold f_X9_isEmpty f_X9_isEmpty_32
  rw [m_its0 hp, bd_s, bd_s]
  unfold emR evR
  by_cases h1 : y 101 (9 + 4 * p) = 3
  · simp [h1, bI]
  · rw [if_neg h1]
    by_cases h2 : y 101 (9 + 4 * p) = 6
    · rw [if_neg (fun q => q h2), m_r0, nz_s (by decide), h0]
      have := half_ev hn
      by_cases h3 : nI n - nI n / 2 * 2 = 0
      · rw [if_neg (fun q => q h3)]
        simp [h2, this.mp h3, bI]
      · rw [if_pos h3]
        have h4 : bt (nI n) 0 = true := by
          cases hb : bt (nI n) 0 with
          | true => rfl
          | false => exact absurd (this.mpr hb) h3
        simp [h2, h4, bI]
    · rw [if_pos h2]
      simp [h1, h2, bI]
end SP
