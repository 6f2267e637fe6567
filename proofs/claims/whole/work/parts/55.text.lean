section TX
theorem opL_m1 : opL (-1) = 9 := by decide
theorem dig_m1 : digB (-1) = false := by decide
theorem sg_lt {B : Nat → Int32} {e p : Nat} (h : ¬ sgB B e p = -1) : p < e := by
  rcases Nat.lt_or_ge p e with z | z
  · exact z
  · exact absurd (if_neg (by omega)) h
theorem op_lt {B : Nat → Int32} {e p l : Nat} (hl : l < 9) (h : opL (sgB B e p) = l) : p < e := sg_lt (fun z => by rw [z, opL_m1] at h; omega)
theorem dig_lt {B : Nat → Int32} {e p : Nat} (h : digB (sgB B e p) = true) : p < e := sg_lt (fun z => by rw [z, dig_m1] at h; exact absurd h (by decide))
theorem num_pos {B : Nat → Int32} {e : Nat} : ∀ (n p : Nat) (v : Int32), p ≤ e → p ≤ (numS B e n p v).1 ∧ (numS B e n p v).1 ≤ e
  | 0, p, v, h => ⟨Nat.le_refl _, h⟩
  | n + 1, p, v, h => by
    unfold numS
    by_cases hd : digB (sgB B e p) = true
    · rw [if_pos hd]
      have := dig_lt hd
      have ih := num_pos (B := B) (e := e) n (p + 1) (v * 10 + sgB B e p - 48) (by omega)
      exact ⟨by omega, ih.2⟩
    · rw [if_neg hd]; exact ⟨Nat.le_refl _, h⟩
theorem num_pos1 {B : Nat → Int32} {e n p : Nat} {v : Int32} (h : digB (sgB B e p) = true) : p + 1 ≤ (numS B e (n + 1) p v).1 := by
  unfold numS
  rw [if_pos h]
  exact (num_pos n (p + 1) _ (dig_lt h)).1
theorem dig_val {s : Int32} (h : digB s = true) : ∃ d, d < 10 ∧ s = nI (48 + d) := by
  unfold digB at h
  rw [decide_eq_true_eq] at h
  obtain ⟨j, j1, j2, e⟩ := (in_rng (a := s) (M := 48) (N := 57) (by omega) (by omega)).mp h
  exact ⟨j - 48, by omega, by rw [e]; congr 1; omega⟩
theorem num_val {B : Nat → Int32} {e : Nat} : ∀ (n p a M : Nat), a < M → M * 10 ^ n ≤ 10000 → ∃ b, b < 10000 ∧ (numS B e n p (nI a)).2 = nI b
  | 0, p, a, M, h1, h2 => ⟨a, by omega, rfl⟩
  | n + 1, p, a, M, h1, h2 => by
    unfold numS
    have hM : M * 10 ^ (n + 1) = M * 10 * 10 ^ n := by rw [Nat.pow_succ, Nat.mul_comm (10 ^ n) 10, Nat.mul_assoc]
    by_cases hd : digB (sgB B e p) = true
    · rw [if_pos hd]
      obtain ⟨d, hd1, hd2⟩ := dig_val hd
      have e1 : nI a * 10 + sgB B e p - 48 = nI (a * 10 + d) := by
        rw [hd2, show (10:Int32) = nI 10 from rfl, nI_mul, nI_add, show (48:Int32) = nI 48 from rfl, show a * 10 + (48 + d) = (a * 10 + d) + 48 by omega, ← nI_add]
        exact Int32.add_sub_cancel _ _
      rw [e1]
      exact num_val n (p + 1) (a * 10 + d) (M * 10) (by omega) (by rw [← hM]; exact h2)
    · rw [if_neg hd]
      have : M * 1 ≤ M * 10 ^ (n + 1) := Nat.mul_le_mul_left _ (Nat.one_le_pow _ _ (by omega))
      exact ⟨a, by omega, rfl⟩
/-- what a reader does with its place -/
def okS (e : Nat) (sub : Nat → Pr) : Prop := ∀ p, p ≤ e → p ≤ (sub p).2.1 ∧ (sub p).2.1 ≤ e ∧ ((sub p).1 = true → p + (sub p).2.2.length ≤ (sub p).2.1 ∧ 1 ≤ (sub p).2.2.length)
theorem loop_ok {B : Nat → Int32} {e l : Nat} {sub : Nat → Pr} (hs : okS e sub) (hl : l < 9) : ∀ (n p : Nat) (cl : List Int32), p ≤ e → p ≤ (loopS B e l sub n p cl).2.1 ∧ (loopS B e l sub n p cl).2.1 ≤ e ∧ ((loopS B e l sub n p cl).1 = true → p + (loopS B e l sub n p cl).2.2.length ≤ (loopS B e l sub n p cl).2.1 + cl.length ∧ cl.length ≤ (loopS B e l sub n p cl).2.2.length)
  | 0, p, cl, h => ⟨Nat.le_refl _, h, fun _ => ⟨Nat.le_refl _, Nat.le_refl _⟩⟩
  | n + 1, p, cl, h => by
    unfold loopS
    by_cases h1 : opL (sgB B e p) = l
    · rw [if_pos h1]
      have hp := op_lt hl h1
      obtain ⟨s1, s2, s3⟩ := hs (p + 1) (by omega)
      by_cases h2 : (sub (p + 1)).1 = true
      · rw [if_pos h2]
        obtain ⟨s4, s5⟩ := s3 h2
        obtain ⟨i1, i2, i3⟩ := loop_ok hs hl n (sub (p + 1)).2.1 (cl ++ (sub (p + 1)).2.2 ++ [-(sgB B e p)]) s2
        refine ⟨by omega, i2, fun hk => ?_⟩
        obtain ⟨i4, i5⟩ := i3 hk
        rw [List.length_append, List.length_append, List.length_singleton] at i4 i5
        exact ⟨by omega, by omega⟩
      · rw [if_neg h2]
        exact ⟨by show p ≤ (sub (p + 1)).2.1; omega, s2, fun z => absurd z Bool.false_ne_true⟩
    · rw [if_neg h1]
      exact ⟨Nat.le_refl _, h, fun _ => ⟨Nat.le_refl _, Nat.le_refl _⟩⟩
theorem pS_ok {u : Nat} {B : Nat → Int32} {e : Nat} : ∀ (f k o : Nat), okS e (fun p => pS u B e f k p o) := by
  intro f
  induction f with
  | zero =>
    intro k o p hp
    exact ⟨Nat.le_refl _, hp, fun z => absurd z Bool.false_ne_true⟩
  | succ f ih =>
    intro k o p hp
    show p ≤ (pS u B e (f + 1) k p o).2.1 ∧ (pS u B e (f + 1) k p o).2.1 ≤ e ∧ ((pS u B e (f + 1) k p o).1 = true → p + (pS u B e (f + 1) k p o).2.2.length ≤ (pS u B e (f + 1) k p o).2.1 ∧ 1 ≤ (pS u B e (f + 1) k p o).2.2.length)
    unfold pS
    by_cases hk : k < 5
    · rw [if_pos hk]
      obtain ⟨s1, s2, s3⟩ := ih (k + 1) o p hp
      by_cases h1 : (pS u B e f (k + 1) p o).1 = true
      · rw [if_pos h1]
        obtain ⟨s4, s5⟩ := s3 h1
        obtain ⟨i1, i2, i3⟩ := loop_ok (B := B) (ih (k + 1) o) (by omega : k < 9) (if k = 2 then 1 else 50) (pS u B e f (k + 1) p o).2.1 (pS u B e f (k + 1) p o).2.2 s2
        dsimp only at s1 s2 s4 s5
        refine ⟨by omega, i2, fun hk => ?_⟩
        obtain ⟨i4, i5⟩ := i3 hk
        exact ⟨by omega, by omega⟩
      · rw [if_neg h1]
        exact ⟨s1, s2, fun z => absurd z Bool.false_ne_true⟩
    · rw [if_neg hk]
      by_cases c1 : digB (sgB B e p) = true
      · rw [if_pos c1]
        have hp1 : p + 1 ≤ (numS B e 4 p 0).1 := num_pos1 (n := 3) (v := 0) c1
        have hp2 := (num_pos 4 p (0 : Int32) (B := B) hp).2
        exact ⟨by show p ≤ (numS B e 4 p 0).1; omega, hp2, fun _ => ⟨hp1, Nat.le_refl _⟩⟩
      rw [if_neg c1]
      have hone : ∀ z : Int32, sgB B e p = z → ¬ z = -1 → p < e := fun z h1 h2 => sg_lt (by rw [h1]; exact h2)
      by_cases c2 : sgB B e p = 33
      · have hp1 := hone _ c2 (by decide)
        rw [if_pos c2]
        by_cases ho : o < 5
        · rw [if_pos ho]
          obtain ⟨s1, s2, s3⟩ := ih 5 (o + 1) (p + 1) (by omega)
          dsimp only at s1 s2 s3
          refine ⟨by show p ≤ (pS u B e f 5 (p + 1) (o + 1)).2.1; omega, s2, fun z => ?_⟩
          obtain ⟨s4, s5⟩ := s3 z
          rw [List.length_append, List.length_singleton]
          show p + ((pS u B e f 5 (p + 1) (o + 1)).2.2.length + 1) ≤ (pS u B e f 5 (p + 1) (o + 1)).2.1 ∧ _
          exact ⟨by omega, by omega⟩
        · rw [if_neg ho]
          exact ⟨Nat.le_refl _, hp, fun z => absurd z Bool.false_ne_true⟩
      rw [if_neg c2]
      by_cases c3 : sgB B e p = 40
      · have hp1 := hone _ c3 (by decide)
        rw [if_pos c3]
        by_cases ho : o < 5
        · rw [if_pos ho]
          obtain ⟨s1, s2, s3⟩ := ih 0 (o + 1) (p + 1) (by omega)
          dsimp only at s1 s2 s3
          by_cases h1 : (pS u B e f 0 (p + 1) (o + 1)).1 = true
          · rw [if_pos h1]
            obtain ⟨s4, s5⟩ := s3 h1
            by_cases h2 : sgB B e (pS u B e f 0 (p + 1) (o + 1)).2.1 = 41
            · rw [if_pos h2]
              have hq : (pS u B e f 0 (p + 1) (o + 1)).2.1 < e := sg_lt (by rw [h2]; decide)
              exact ⟨by show p ≤ (pS u B e f 0 (p + 1) (o + 1)).2.1 + 1; omega, hq, fun _ => ⟨by show p + (pS u B e f 0 (p + 1) (o + 1)).2.2.length ≤ (pS u B e f 0 (p + 1) (o + 1)).2.1 + 1; omega, s5⟩⟩
            · rw [if_neg h2]
              exact ⟨by show p ≤ (pS u B e f 0 (p + 1) (o + 1)).2.1; omega, s2, fun z => absurd z Bool.false_ne_true⟩
          · rw [if_neg h1]
            exact ⟨by show p ≤ (pS u B e f 0 (p + 1) (o + 1)).2.1; omega, s2, fun z => absurd z Bool.false_ne_true⟩
        · rw [if_neg ho]
          exact ⟨Nat.le_refl _, hp, fun z => absurd z Bool.false_ne_true⟩
      rw [if_neg c3]
      by_cases c4 : sgB B e p = nm1 u
      · have hp1 := hone _ c4 (by unfold nm1; decide)
        rw [if_pos c4]
        exact ⟨Nat.le_succ _, hp1, fun _ => ⟨Nat.le_refl _, Nat.le_refl _⟩⟩
      rw [if_neg c4]
      by_cases c5 : sgB B e p = nm2 u
      · have hp1 := hone _ c5 (by unfold nm2; split <;> decide)
        rw [if_pos c5]
        exact ⟨Nat.le_succ _, hp1, fun _ => ⟨Nat.le_refl _, Nat.le_refl _⟩⟩
      rw [if_neg c5]
      by_cases c6 : sgB B e p = nm3 u
      · have hp1 := hone _ c6 (by unfold nm3; split <;> decide)
        rw [if_pos c6]
        exact ⟨Nat.le_succ _, hp1, fun _ => ⟨Nat.le_refl _, Nat.le_refl _⟩⟩
      rw [if_neg c6]
      exact ⟨Nat.le_refl _, hp, fun z => absurd z Bool.false_ne_true⟩
end TX
