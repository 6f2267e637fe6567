section EN
/-! castings in order, by codes: 0 nobody, k + 1 player k; rows are told from the last part back -/
abbrev Rp : Type := List Nat
def chk (al : Nat → Bool) : Rp → Nat → Bool
  | [], _ => true
  | k' :: rest, k => !(al rest.length && decide (k' = k)) && chk al rest k
def okE (mb : Nat → Nat → Bool) (al : Nat → Bool) (rp : Rp) (k : Nat) : Bool := mb rp.length k && (!al rp.length || chk al rp k)
def comp (ok : Rp → Nat → Bool) : Nat → Rp → List Rp
  | 0, rp => [rp]
  | n + 1, rp => (List.range' 0 7).flatMap (fun k => if ok rp k = true then comp ok n (k :: rp) else [])
def lev (ok : Rp → Nat → Bool) (n : Nat) (rp : Rp) (t : Nat) : List Rp := (List.range' t (7 - t)).flatMap (fun k => if ok rp k = true then comp ok n (k :: rp) else [])
def upE (ok : Rp → Nat → Bool) (P : Nat) : Rp → List Rp
  | [] => []
  | k :: rest => lev ok (P - rest.length - 1) rest (k + 1) ++ upE ok P rest
def SE (ok : Rp → Nat → Bool) (P : Nat) (rp : Rp) (t : Nat) : List Rp := lev ok (P - rp.length - 1) rp t ++ upE ok P rp
theorem lev_step {ok : Rp → Nat → Bool} {n : Nat} {rp : Rp} {t : Nat} (h : t < 7) : lev ok n rp t = (if ok rp t = true then comp ok n (t :: rp) else []) ++ lev ok n rp (t + 1) := by
  unfold lev
  rw [show 7 - t = (7 - (t + 1)) + 1 by omega, List.range'_succ, List.flatMap_cons]
theorem lev_7 {ok : Rp → Nat → Bool} {n : Nat} {rp : Rp} {t : Nat} (h : 7 ≤ t) : lev ok n rp t = [] := by
  unfold lev
  rw [show 7 - t = 0 by omega]
  rfl
theorem lev_skip {ok : Rp → Nat → Bool} {n : Nat} {rp : Rp} : ∀ (d t : Nat), t + d ≤ 7 → (∀ k, t ≤ k → k < t + d → ok rp k = false) → lev ok n rp t = lev ok n rp (t + d)
  | 0, t, _, _ => rfl
  | d + 1, t, h, hk => by
    rw [lev_step (by omega), hk t (by omega) (by omega), if_neg (by decide), List.nil_append, lev_skip d (t + 1) (by omega) (fun k h1 h2 => hk k (by omega) (by omega)), show t + 1 + d = t + (d + 1) by omega]
theorem SE_choose {ok : Rp → Nat → Bool} {P : Nat} {rp : Rp} {t k : Nat} (h1 : t ≤ k) (h2 : k < 7) (h3 : ok rp k = true) (h4 : ∀ i, t ≤ i → i < k → ok rp i = false) : SE ok P rp t = comp ok (P - rp.length - 1) (k :: rp) ++ upE ok P (k :: rp) := by
  unfold SE
  rw [lev_skip (k - t) t (by omega) (fun i a b => h4 i a (by omega)), show t + (k - t) = k by omega, lev_step h2, if_pos h3, List.append_assoc]
  rfl
theorem SE_none {ok : Rp → Nat → Bool} {P : Nat} {rp : Rp} {t : Nat} (h4 : ∀ i, t ≤ i → i < 7 → ok rp i = false) : SE ok P rp t = upE ok P rp := by
  unfold SE
  rcases Nat.lt_or_ge t 7 with h | h
  · rw [lev_skip (7 - t) t (by omega) (fun i a b => h4 i a (by omega)), lev_7 (by omega), List.nil_append]
  · rw [lev_7 h, List.nil_append]
theorem comp_SE {ok : Rp → Nat → Bool} {P n : Nat} {rp : Rp} (h : P - rp.length = n + 1) : comp ok (n + 1) rp ++ upE ok P rp = SE ok P rp 0 := by
  unfold SE
  rw [show P - rp.length - 1 = n by omega]
  rfl
theorem SE_more {ok : Rp → Nat → Bool} {P : Nat} {rp : Rp} {t k : Nat} (h1 : t ≤ k) (h2 : k < 7) (h3 : ok rp k = true) (h4 : ∀ i, t ≤ i → i < k → ok rp i = false) (h5 : rp.length + 1 < P) : SE ok P rp t = SE ok P (k :: rp) 0 := by
  rw [SE_choose h1 h2 h3 h4, show P - rp.length - 1 = (P - rp.length - 2) + 1 by omega, comp_SE]
  rw [List.length_cons]
  omega
theorem SE_found {ok : Rp → Nat → Bool} {P : Nat} {rp : Rp} {t k : Nat} (h1 : t ≤ k) (h2 : k < 7) (h3 : ok rp k = true) (h4 : ∀ i, t ≤ i → i < k → ok rp i = false) (h5 : rp.length + 1 = P) : SE ok P rp t = (k :: rp) :: upE ok P (k :: rp) := by
  rw [SE_choose h1 h2 h3 h4, show P - rp.length - 1 = 0 by omega]
  rfl
/-! how long it goes on -/
def wE : Nat → Nat
  | 0 => 1
  | n + 1 => 7 * wE n + 2
def muU (P : Nat) : Rp → Nat
  | [] => 0
  | k :: rest => (6 - k) * wE (P - rest.length - 1) + 1 + muU P rest
def muE (P : Nat) (rp : Rp) (t : Nat) : Nat := (7 - t) * wE (P - rp.length - 1) + 1 + muU P rp
theorem wE_pos : ∀ n, 1 ≤ wE n
  | 0 => Nat.le_refl _
  | n + 1 => by rw [wE]; omega
theorem mu_found {P : Nat} {rp : Rp} {t k : Nat} (h1 : t ≤ k) (h2 : k < 7) : muU P (k :: rp) < muE P rp t := by
  show (6 - k) * wE (P - rp.length - 1) + 1 + muU P rp < (7 - t) * wE (P - rp.length - 1) + 1 + muU P rp
  have h := wE_pos (P - rp.length - 1)
  have h3 : (6 - k) * wE (P - rp.length - 1) + wE (P - rp.length - 1) ≤ (7 - t) * wE (P - rp.length - 1) := by
    have : (6 - k + 1) * wE (P - rp.length - 1) ≤ (7 - t) * wE (P - rp.length - 1) := Nat.mul_le_mul_right _ (by omega)
    rw [Nat.add_mul, Nat.one_mul] at this
    exact this
  omega
theorem mu_more {P : Nat} {rp : Rp} {t k : Nat} (h1 : t ≤ k) (h2 : k < 7) (h5 : rp.length + 1 < P) (t' : Nat) : muE P (k :: rp) t' < muE P rp t := by
  show (7 - t') * wE (P - (rp.length + 1) - 1) + 1 + ((6 - k) * wE (P - rp.length - 1) + 1 + muU P rp) < (7 - t) * wE (P - rp.length - 1) + 1 + muU P rp
  have h0 : P - rp.length - 1 = (P - (rp.length + 1) - 1) + 1 := by omega
  rw [h0]
  have h3 : (6 - k) * wE (P - (rp.length + 1) - 1 + 1) + wE (P - (rp.length + 1) - 1 + 1) ≤ (7 - t) * wE (P - (rp.length + 1) - 1 + 1) := by
    have : (6 - k + 1) * wE (P - (rp.length + 1) - 1 + 1) ≤ (7 - t) * wE (P - (rp.length + 1) - 1 + 1) := Nat.mul_le_mul_right _ (by omega)
    rw [Nat.add_mul, Nat.one_mul] at this
    exact this
  have h4 : wE (P - (rp.length + 1) - 1 + 1) = 7 * wE (P - (rp.length + 1) - 1) + 2 := rfl
  have h6 : (7 - t') * wE (P - (rp.length + 1) - 1) ≤ 7 * wE (P - (rp.length + 1) - 1) := Nat.mul_le_mul_right _ (by omega)
  omega
theorem mu_none {P : Nat} {rp : Rp} {t : Nat} : muU P rp < muE P rp t := by
  unfold muE
  omega
theorem mu_pop {P : Nat} {rest : Rp} {k : Nat} : muE P rest (k + 1) = muU P (k :: rest) := by
  show (7 - (k + 1)) * wE (P - rest.length - 1) + 1 + muU P rest = (6 - k) * wE (P - rest.length - 1) + 1 + muU P rest
  rw [show 7 - (k + 1) = 6 - k by omega]
theorem mu_start {P : Nat} (hP : P ≤ 5) (t : Nat) : muE P [] t ≤ 30000 := by
  unfold muE muU
  have h6 : (7 - t) * wE (P - ([] : Rp).length - 1) ≤ 7 * wE (P - ([] : Rp).length - 1) := Nat.mul_le_mul_right _ (by omega)
  have : wE (P - ([] : Rp).length - 1) ≤ 3201 := by
    rcases (by omega : P = 0 ∨ P = 1 ∨ P = 2 ∨ P = 3 ∨ P = 4 ∨ P = 5) with rfl | rfl | rfl | rfl | rfl | rfl <;> decide
  omega
theorem comp_len {ok : Rp → Nat → Bool} : ∀ (n : Nat) (rp : Rp), (comp ok n rp).length ≤ wE n
  | 0, rp => Nat.le_refl _
  | n + 1, rp => by
    have key : ∀ d t, t + d = 7 → (lev ok n rp t).length ≤ d * wE n := by
      intro d
      induction d with
      | zero => intro t h; rw [lev_7 (by omega)]; exact Nat.zero_le _
      | succ d ih =>
        intro t h
        rw [lev_step (by omega), List.length_append]
        have h1 := ih (t + 1) (by omega)
        have h2 : (if ok rp t = true then comp ok n (t :: rp) else []).length ≤ wE n := by
          split
          · exact comp_len n _
          · exact Nat.zero_le _
        rw [Nat.add_mul, Nat.one_mul]
        omega
    have := key 7 0 (by omega)
    show (lev ok n rp 0).length ≤ _
    rw [wE]
    omega
/-- a row of players (or -1) that the codes tell -/
def RW (f : Nat → Int32) : Rp → Prop
  | [] => True
  | k :: rest => f rest.length = nI k - 1 ∧ k < 7 ∧ RW f rest
theorem RW_congr {f g : Nat → Int32} : ∀ {rp : Rp}, (∀ j, j < rp.length → g j = f j) → RW f rp → RW g rp
  | [], _, _ => trivial
  | k :: rest, h, ⟨h1, h2, h3⟩ => ⟨by rw [h _ (by rw [List.length_cons]; omega)]; exact h1, h2, RW_congr (fun j hj => h j (by rw [List.length_cons]; omega)) h3⟩
theorem RW_eq {f g : Nat → Int32} : ∀ {rp : Rp}, RW f rp → RW g rp → ∀ j, j < rp.length → f j = g j
  | [], _, _, j, hj => absurd hj (Nat.not_lt_zero _)
  | k :: rest, ⟨h1, h2, h3⟩, ⟨g1, g2, g3⟩, j, hj => by
    rw [List.length_cons] at hj
    by_cases e : j = rest.length
    · subst e; rw [h1, g1]
    · exact RW_eq h3 g3 j (by omega)
theorem cd_inj {a b : Nat} (ha : a < 1000) (hb : b < 1000) (h : nI a - 1 = nI b - 1) : a = b := by
  have h2 : nI a = nI b := by
    have := congrArg (fun z : Int32 => z + 1) h
    simpa [Int32.sub_add_cancel] using this
  exact (nI_eq (by omega) (by omega)).mp h2
theorem cd_succ (k : Nat) : nI (k + 1) - 1 = nI k := nI_pred k
theorem chk_iff {al : Nat → Bool} {f : Nat → Int32} {c : Nat} (hc : c < 1000) : ∀ {rp : Rp}, RW f rp → (chk al rp c = true ↔ ∀ j, j < rp.length → al j = true → f j ≠ nI c - 1)
  | [], _ => ⟨fun _ j hj => absurd hj (Nat.not_lt_zero _), fun _ => rfl⟩
  | k :: rest, ⟨h1, h2, h3⟩ => by
    have ih := chk_iff (al := al) hc h3
    unfold chk
    rw [Bool.and_eq_true, ih]
    constructor
    · rintro ⟨a1, a2⟩ j hj hal
      rw [List.length_cons] at hj
      by_cases e : j = rest.length
      · subst e
        rw [h1]
        intro h
        have e2 := cd_inj (by omega) hc h
        rw [hal, e2] at a1
        simp at a1
      · exact a2 j (by omega) hal
    · intro h
      refine ⟨?_, fun j hj hal => h j (by rw [List.length_cons]; omega) hal⟩
      cases hal : al rest.length with
      | false => rfl
      | true =>
        have h5 := h rest.length (by rw [List.length_cons]; omega) hal
        rw [h1] at h5
        have : ¬ k = c := fun e => h5 (by rw [e])
        simp [this]
/-- each code is one that may be -/
def GD (mb : Nat → Nat → Bool) : Rp → Prop
  | [] => True
  | k :: rest => mb rest.length k = true ∧ GD mb rest
end EN
