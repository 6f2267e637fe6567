section NI
/-! a night: the row f of players, what has come of it behind j parts -/
def CLv (r : Rw) (Q p : Nat) : Int32 := lawV r 0 (r (11 + 4 * p)) (r (10 + 4 * p)) (nI (cntB (fun q => decide (q < Q) && knR r q p) 6))
def WGv (r : Rw) (p q : Nat) : Int32 := lawV r 1 (r (11 + 4 * p)) (nI (cntB (bt (r (30 + 5 * q))) 6)) (r 0)
def apF (r : Rw) (Q : Nat) (f : Nat → Int32) (j p : Nat) : Int32 := if p < j ∧ ¬ f p < 0 then mmin (r (12 + 4 * p) + CLv r Q p) 99999 else r (12 + 4 * p)
def puF (r : Rw) (f : Nat → Int32) (q : Nat) : Nat → Int32
  | 0 => r (32 + 5 * q)
  | j + 1 => if f j = nI q then mmin (puF r f q j + WGv r j q) 9999 else puF r f q j
def inF (f : Nat → Int32) (q j i : Nat) : Bool := decide (i < j ∧ f i = nI q)
def kbF (f : Nat → Int32) (q P j i : Nat) : Bool := inF f q j (i + 1) || (decide (1 ≤ i ∧ i < P) && inF f q j (i - 1))
def RF (f : Nat → Int32) (P Q : Nat) : Prop := ∀ j, j < P → f j = -1 ∨ ∃ q, q < Q ∧ f j = nI q
def NR (r : Rw) (P Q : Nat) (f : Nat → Int32) (j : Nat) (r' : Rw) : Prop :=
  (∀ p, p < P → r' (9 + 4 * p) = r (9 + 4 * p) ∧ r' (10 + 4 * p) = r (10 + 4 * p) ∧ r' (11 + 4 * p) = r (11 + 4 * p) ∧ r' (12 + 4 * p) = apF r Q f j p) ∧
  (∀ q, q < Q → r' (31 + 5 * q) = r (31 + 5 * q) ∧ r' (33 + 5 * q) = r (33 + 5 * q) ∧ r' (32 + 5 * q) = puF r f q j ∧ (∀ i, i < 32 → bt (r' (30 + 5 * q)) i = (bt (r (30 + 5 * q)) i || inF f q j i)) ∧ (∀ i, i < 32 → bt (r' (29 + 5 * q)) i = (bt (r (29 + 5 * q)) i || kbF f q P j i))) ∧
  ∀ i, (i < 9 ∨ 59 ≤ i) → r' i = r i
theorem pu_rng {r : Rw} {P Q q : Nat} {f : Nat → Int32} (hW : WF r P Q) (hq : q < Q) : ∀ j, ∃ k, k ≤ 9999 ∧ puF r f q j = nI k
  | 0 => (hW.2.2.2.2.2.2.2 q hq).2.2.2.1
  | j + 1 => by
    obtain ⟨k, hk, ek⟩ := pu_rng (f := f) hW hq j
    unfold puF
    by_cases h : f j = nI q
    · rw [if_pos h, ek]
      obtain ⟨m, hm, em⟩ := lawV_rng r 1 (r (11 + 4 * j)) (nI (cntB (bt (r (30 + 5 * q))) 6)) (r 0)
      unfold WGv
      rw [em]
      exact mmin_rng (M := 9999) (by omega) (by omega) (by omega)
    · rw [if_neg h]; exact ⟨k, hk, ek⟩
theorem ap_rng {r : Rw} {P Q p j : Nat} {f : Nat → Int32} (hW : WF r P Q) (hp : p < P) : ∃ k, k ≤ 99999 ∧ apF r Q f j p = nI k := by
  obtain ⟨k, hk, ek⟩ := (hW.2.2.2.2.2.2.1 p hp).2.2.2
  unfold apF
  by_cases h : p < j ∧ ¬ f p < 0
  · rw [if_pos h, ek]
    obtain ⟨m, hm, em⟩ := lawV_rng r 0 (r (11 + 4 * p)) (r (10 + 4 * p)) (nI (cntB (fun q => decide (q < Q) && knR r q p) 6))
    unfold CLv
    rw [em]
    exact mmin_rng (M := 99999) (by omega) (by omega) (by omega)
  · rw [if_neg h]; exact ⟨k, hk, ek⟩
theorem NR_0 {r : Rw} {P Q : Nat} {f : Nat → Int32} : NR r P Q f 0 r := by
  refine ⟨fun p hp => ⟨rfl, rfl, rfl, ?_⟩, fun q hq => ⟨rfl, rfl, rfl, fun i hi => ?_, fun i hi => ?_⟩, fun i hi => rfl⟩
  · unfold apF
    rw [if_neg (by omega)]
  · have h0 : inF f q 0 i = false := decide_eq_false (by omega)
    rw [h0]; simp
  · have h0 : ∀ i, inF f q 0 i = false := fun i => decide_eq_false (by omega)
    unfold kbF
    rw [h0, h0]; simp
/-- nobody plays part j -/
theorem NR_skip {r r' : Rw} {P Q j : Nat} {f : Nat → Int32} (hf : f j = -1) (h : NR r P Q f j r') (hQ : Q ≤ 6) : NR r P Q f (j + 1) r' := by
  obtain ⟨h1, h2, h3⟩ := h
  have hin : ∀ q i, q < Q → inF f q (j + 1) i = inF f q j i := fun q i hq => by
    unfold inF
    congr 1
    refine propext ⟨fun z => ⟨?_, z.2⟩, fun z => ⟨by omega, z.2⟩⟩
    rcases Nat.lt_or_ge i j with e | e
    · exact e
    · have : i = j := by omega
      subst this
      rw [hf] at z
      exact absurd z.2 (neg1 (by omega))
  refine ⟨fun p hp => ?_, fun q hq => ?_, h3⟩
  · obtain ⟨a1, a2, a3, a4⟩ := h1 p hp
    refine ⟨a1, a2, a3, ?_⟩
    rw [a4]
    unfold apF
    by_cases e : p = j
    · subst e
      rw [if_neg (by omega), if_neg (fun z => z.2 (by rw [hf]; decide))]
    · have : (p < j ∧ ¬ f p < 0) = (p < j + 1 ∧ ¬ f p < 0) := propext ⟨fun z => ⟨by omega, z.2⟩, fun z => ⟨by omega, z.2⟩⟩
      simp only [this]
  · obtain ⟨a1, a2, a3, a4, a5⟩ := h2 q hq
    refine ⟨a1, a2, ?_, fun i hi => ?_, fun i hi => ?_⟩
    · rw [a3, puF, hf, if_neg (neg1 (by omega))]
    · rw [a4 i hi, hin q i hq]
    · rw [a5 i hi]
      unfold kbF
      rw [hin q _ hq, hin q _ hq]
theorem inF_succ {f : Nat → Int32} {q j i : Nat} (hf : f j = nI q) : inF f q (j + 1) i = (inF f q j i || decide (i = j)) := by
  unfold inF
  by_cases e : i = j
  · subst e
    rw [decide_eq_true ⟨by omega, hf⟩]; simp
  · have : (i < j + 1 ∧ f i = nI q) = (i < j ∧ f i = nI q) := propext ⟨fun z => ⟨by omega, z.2⟩, fun z => ⟨by omega, z.2⟩⟩
    simp only [this, decide_eq_false e, Bool.or_false]
theorem inF_other {f : Nat → Int32} {q q0 j i : Nat} (hf : f j = nI q0) (hne : q ≠ q0) (h1 : q < 1000) (h2 : q0 < 1000) : inF f q (j + 1) i = inF f q j i := by
  unfold inF
  congr 1
  refine propext ⟨fun z => ⟨?_, z.2⟩, fun z => ⟨by omega, z.2⟩⟩
  rcases Nat.lt_or_ge i j with e | e
  · exact e
  · have : i = j := by omega
    subst this
    rw [hf, nI_eq (by omega) (by omega)] at z
    omega
/-- player q plays part j -/
theorem NR_play {r r' r'' : Rw} {P Q j q0 : Nat} {f : Nat → Int32} (hP : P ≤ 5) (hQ : Q ≤ 6) (hj : j < P) (hq0 : q0 < Q) (hf : f j = nI q0) (h : NR r P Q f j r')
    (g12 : r'' (12 + 4 * j) = mmin (r (12 + 4 * j) + CLv r Q j) 99999) (g32 : r'' (32 + 5 * q0) = mmin (puF r f q0 j + WGv r j q0) 9999)
    (g30 : ∀ i, i < 32 → bt (r'' (30 + 5 * q0)) i = (bt (r' (30 + 5 * q0)) i || decide (i = j))) (g29 : ∀ i, i < 32 → bt (r'' (29 + 5 * q0)) i = (bt (r' (29 + 5 * q0)) i || (decide (i + 1 = j) || decide (i = j + 1 ∧ i < P))))
    (go : ∀ i, i ≠ 12 + 4 * j → i ≠ 32 + 5 * q0 → i ≠ 30 + 5 * q0 → i ≠ 29 + 5 * q0 → r'' i = r' i) : NR r P Q f (j + 1) r'' := by
  obtain ⟨h1, h2, h3⟩ := h
  refine ⟨fun p hp => ?_, fun q hq => ?_, fun i hi => by rw [go i (by omega) (by omega) (by omega) (by omega)]; exact h3 i hi⟩
  · obtain ⟨a1, a2, a3, a4⟩ := h1 p hp
    refine ⟨by rw [go _ (by omega) (by omega) (by omega) (by omega)]; exact a1, by rw [go _ (by omega) (by omega) (by omega) (by omega)]; exact a2, by rw [go _ (by omega) (by omega) (by omega) (by omega)]; exact a3, ?_⟩
    by_cases e : p = j
    · subst e
      rw [g12]
      unfold apF
      rw [if_pos ⟨by omega, by rw [hf]; exact nI_pos (by omega)⟩]
    · rw [go _ (by omega) (by omega) (by omega) (by omega), a4]
      unfold apF
      have : (p < j ∧ ¬ f p < 0) = (p < j + 1 ∧ ¬ f p < 0) := propext ⟨fun z => ⟨by omega, z.2⟩, fun z => ⟨by omega, z.2⟩⟩
      simp only [this]
  · obtain ⟨a1, a2, a3, a4, a5⟩ := h2 q hq
    refine ⟨by rw [go _ (by omega) (by omega) (by omega) (by omega)]; exact a1, by rw [go _ (by omega) (by omega) (by omega) (by omega)]; exact a2, ?_, fun i hi => ?_, fun i hi => ?_⟩
    · by_cases e : q = q0
      · subst e
        rw [g32, puF, if_pos hf]
      · rw [go _ (by omega) (by omega) (by omega) (by omega), a3, puF, hf, if_neg (fun z => by rw [nI_eq (by omega) (by omega)] at z; omega)]
    · by_cases e : q = q0
      · subst e
        rw [g30 i hi, a4 i hi, inF_succ hf, Bool.or_assoc]
      · rw [go _ (by omega) (by omega) (by omega) (by omega), a4 i hi, inF_other hf e (by omega) (by omega)]
    · by_cases e : q = q0
      · subst e
        rw [g29 i hi, a5 i hi]
        unfold kbF
        rw [inF_succ hf, inF_succ hf]
        by_cases e1 : i + 1 = j
        · simp [e1]
        · by_cases e2 : i = j + 1
          · subst e2
            have e3 : (1 ≤ j + 1 ∧ j + 1 < P) = (j + 1 < P) := propext ⟨fun z => z.2, fun z => ⟨by omega, z⟩⟩
            simp only [e3, Nat.add_sub_cancel, decide_eq_false e1, decide_true, Bool.or_false, Bool.false_or, Bool.or_true, true_and, Bool.and_true]
            cases inF f q j (j + 1 + 1) <;> cases inF f q j j <;> cases (decide (j + 1 < P)) <;> cases bt (r (29 + 5 * q)) (j + 1) <;> rfl
          · have e4 : ¬ (i = j + 1 ∧ i < P) := fun z => e2 z.1
            by_cases e5 : 1 ≤ i
            · have e6 : ¬ i - 1 = j := by omega
              simp only [decide_eq_false e1, decide_eq_false e4, decide_eq_false e6, Bool.or_false]
            · have e7 : ¬ (1 ≤ i ∧ i < P) := fun z => e5 z.1
              simp only [decide_eq_false e1, decide_eq_false e4, decide_eq_false e7, Bool.or_false, Bool.false_and]
      · rw [go _ (by omega) (by omega) (by omega) (by omega), a5 i hi]
        unfold kbF
        rw [inF_other hf e (by omega) (by omega), inF_other hf e (by omega) (by omega)]
end NI
