section XS
theorem chk_cons {al : Nat → Bool} {k' k : Nat} {rest : Rp} : chk al (k' :: rest) k = (!(al rest.length && decide (k' = k)) && chk al rest k) := rfl
def XL (al : Nat → Bool) (ok : Rp → Nat → Bool) (f61 f63 : Nat → Int32) : Rp → Prop
  | [] => ∀ i, i < 32 → bt (f63 0) i = false
  | k :: rest => (∀ i, i < 32 → bt (f61 rest.length) i = (decide (k + 1 ≤ i ∧ i < 7) && ok rest i)) ∧ (∀ i, i < 32 → bt (f63 (rest.length + 1)) i = !chk al (k :: rest) i) ∧ XL al ok f61 f63 rest
theorem XL_congr {al : Nat → Bool} {ok : Rp → Nat → Bool} {f61 f63 g61 g63 : Nat → Int32} : ∀ {rp : Rp}, (∀ j, j < rp.length → g61 j = f61 j) → (∀ j, j ≤ rp.length → g63 j = f63 j) → XL al ok f61 f63 rp → XL al ok g61 g63 rp
  | [], _, h2, h => fun i hi => by rw [h2 0 (Nat.le_refl _)]; exact h i hi
  | k :: rest, h1, h2, ⟨a1, a2, a3⟩ => ⟨fun i hi => by rw [h1 _ (by rw [List.length_cons]; omega)]; exact a1 i hi, fun i hi => by rw [h2 _ (by rw [List.length_cons]; omega)]; exact a2 i hi, XL_congr (fun j hj => h1 j (by rw [List.length_cons]; omega)) (fun j hj => h2 j (by rw [List.length_cons]; omega)) a3⟩
theorem XL_top {al : Nat → Bool} {ok : Rp → Nat → Bool} {f61 f63 : Nat → Int32} : ∀ {rp : Rp}, XL al ok f61 f63 rp → ∀ i, i < 32 → bt (f63 rp.length) i = !chk al rp i
  | [], h => fun i hi => by
    have := h i hi
    show bt (f63 0) i = _
    rw [this]
    rfl
  | k :: rest, ⟨_, a2, _⟩ => a2
def XB (x : Wd) (P : Nat) (mb : Nat → Nat → Bool) (al : Nat → Bool) : Prop := x 58 5 = nI P ∧ ∀ p, p < P → (∀ i, i < 32 → bt (x 60 p) i = mb p i) ∧ x 62 p = bI (al p)
/-- at the level behind rp, from code t on -/
def XC (x : Wd) (P : Nat) (mb : Nat → Nat → Bool) (al : Nat → Bool) (rp : Rp) (t : Nat) : Prop := XB x P mb al ∧ x 58 6 = nI rp.length ∧ RW (x 59) rp ∧ GD mb rp ∧ XL al (okE mb al) (x 61) (x 63) rp ∧ ∀ i, i < 32 → bt (x 61 rp.length) i = (decide (t ≤ i ∧ i < 7) && okE mb al rp i)
/-- a row found -/
def XN (x : Wd) (P : Nat) (mb : Nat → Nat → Bool) (al : Nat → Bool) (rp : Rp) : Prop := XB x P mb al ∧ rp.length = P ∧ RW (x 59) rp ∧ GD mb rp ∧ XL al (okE mb al) (x 61) (x 63) rp
def FX (x x' : Wd) : Prop := (∀ c, c ≠ 58 → c ≠ 59 → c ≠ 61 → c ≠ 63 → x' c = x c) ∧ x' 58 7 = x 58 7 ∧ x' 58 5 = x 58 5
theorem FX_refl (x : Wd) : FX x x := ⟨fun _ _ _ _ _ => rfl, rfl, rfl⟩
theorem FX_trans {x y z : Wd} (h1 : FX x y) (h2 : FX y z) : FX x z := ⟨fun c a b d e => by rw [h2.1 c a b d e, h1.1 c a b d e], by rw [h2.2.1, h1.2.1], by rw [h2.2.2, h1.2.2]⟩
theorem XB_congr {x x' : Wd} {P : Nat} {mb : Nat → Nat → Bool} {al : Nat → Bool} (h : FX x x') (hB : XB x P mb al) : XB x' P mb al := by
  refine ⟨by rw [h.2.2]; exact hB.1, fun p hp => ?_⟩
  rw [h.1 60 (by omega) (by omega) (by omega) (by omega), h.1 62 (by omega) (by omega) (by omega) (by omega)]
  exact hB.2 p hp
theorem lst (b : Nat → Bool) : ∀ d t, (∃ k, t ≤ k ∧ k < t + d ∧ b k = true ∧ ∀ i, t ≤ i → i < k → b i = false) ∨ (∀ i, t ≤ i → i < t + d → b i = false) := by
  intro d
  induction d with
  | zero => intro t; exact Or.inr (fun i h1 h2 => by omega)
  | succ d ih =>
    intro t
    cases hb : b t with
    | true => exact Or.inl ⟨t, Nat.le_refl _, by omega, hb, fun i h1 h2 => by omega⟩
    | false =>
      rcases ih (t + 1) with ⟨k, h1, h2, h3, h4⟩ | h
      · refine Or.inl ⟨k, by omega, by omega, h3, fun i a1 a2 => ?_⟩
        by_cases e : i = t
        · subst e; exact hb
        · exact h4 i (by omega) a2
      · refine Or.inr (fun i a1 a2 => ?_)
        by_cases e : i = t
        · subst e; exact hb
        · exact h i (by omega) (by omega)
theorem low_7 : ∀ n, n < 128 → ∀ k, k < 7 → bt (nI n) k = true → (∀ i, i < k → bt (nI n) i = false) → nI n &&& -(nI n) = nI (2 ^ k) := by decide +kernel
theorem bits7 {v : Int32} (h : ∀ i, i < 32 → 7 ≤ i → bt v i = false) : ∃ n, n < 128 ∧ v = nI n := by
  refine ⟨v.toBitVec.toNat, Nat.lt_pow_two_of_testBit (n := 7) _ (fun i hi => ?_), Int32.toBitVec_inj.mp ?_⟩
  · rcases Nat.lt_or_ge i 32 with q | q
    · exact h i q hi
    · exact b_big q
  · show v.toBitVec = BitVec.ofNat 32 v.toBitVec.toNat
    simp
theorem b_pw : ∀ k, k < 7 → ∀ i, i < 32 → bt (nI (2 ^ k)) i = decide (i = k) := by decide +kernel
theorem pw_ne : ∀ k, k < 7 → ¬ nI (2 ^ k) = 0 := by decide +kernel
theorem pw_cnt : ∀ k, k < 7 → f_J6_bitCount_0f7a4 (nI (2 ^ k) - 1) = some (nI k) := by decide +kernel
/-- what a choice leaves -/
theorem x_next {x x' : Wd} {P : Nat} {mb : Nat → Nat → Bool} {al : Nat → Bool} {rp : Rp} {t k : Nat} (hC : XC x P mb al rp t) (hk : k < 7) (htk : t ≤ k) (hno : ∀ i, t ≤ i → i < k → okE mb al rp i = false) (hok : okE mb al rp k = true) (hF : FX x x') (h59 : ∀ j, x' 59 j = if j = rp.length then nI k - 1 else x 59 j) (h63 : ∀ j, x' 63 j = if j = rp.length + 1 then (x 63 rp.length ||| (if al rp.length = true then nI (2 ^ k) else 0)) else x 63 j) (h61 : ∀ j, j < rp.length → x' 61 j = x 61 j) (h61a : x' 61 rp.length = x 61 rp.length &&& (nI (2 ^ k) ^^^ (-1))) : XB x' P mb al ∧ RW (x' 59) (k :: rp) ∧ GD mb (k :: rp) ∧ XL al (okE mb al) (x' 61) (x' 63) (k :: rp) := by
  obtain ⟨c1, c2, c3, c4, c5, c6⟩ := hC
  refine ⟨XB_congr hF c1, ⟨by rw [h59, if_pos rfl], hk, RW_congr (fun j hj => by rw [h59, if_neg (by omega)]) c3⟩, ⟨?_, c4⟩, ?_, ?_, XL_congr h61 (fun j hj => by rw [h63, if_neg (by omega)]) c5⟩
  · unfold okE at hok
    rw [Bool.and_eq_true] at hok
    exact hok.1
  · intro i hi
    rw [h61a, b_and, c6 i hi, b_not _ hi, b_pw k hk i hi]
    by_cases e1 : i < k
    · have : ¬ (k + 1 ≤ i ∧ i < 7) := by omega
      rw [decide_eq_false this]
      by_cases e2 : t ≤ i
      · rw [hno i e2 e1]; simp
      · have : ¬ (t ≤ i ∧ i < 7) := by omega
        rw [decide_eq_false this]; simp
    · by_cases e3 : i = k
      · subst e3
        have : ¬ (i + 1 ≤ i ∧ i < 7) := by omega
        rw [decide_eq_false this]; simp
      · have h1 : (t ≤ i ∧ i < 7) = (k + 1 ≤ i ∧ i < 7) := propext ⟨fun q => by omega, fun q => by omega⟩
        simp only [h1, decide_eq_false e3]
        simp
  · intro i hi
    rw [h63, if_pos rfl, b_or, XL_top c5 i hi]
    rw [chk_cons]
    cases hal : al rp.length with
    | false =>
      rw [if_neg (by decide), b_0]
      simp
    | true =>
      rw [if_pos rfl, b_pw k hk i hi]
      by_cases e : i = k
      · subst e; simp
      · have : ¬ k = i := fun z => e z.symm
        simp [e, this]
theorem x_step {x : Wd} {P : Nat} {mb : Nat → Nat → Bool} {al : Nat → Bool} {rp : Rp} {t : Nat} (hP : P ≤ 5) (hmb : ∀ p i, mb p i = true → i < 7) (hC : XC x P mb al rp t) (hlt : rp.length < P) :
    (∃ k x', t ≤ k ∧ k < 7 ∧ okE mb al rp k = true ∧ (∀ i, t ≤ i → i < k → okE mb al rp i = false) ∧ f_X1_step x = some x' ∧ FX x x' ∧ x' 58 6 = nI (rp.length + 1) ∧ (rp.length + 1 < P → XC x' P mb al (k :: rp) 0) ∧ (rp.length + 1 = P → XN x' P mb al (k :: rp))) ∨
    ((∀ i, t ≤ i → i < 7 → okE mb al rp i = false) ∧ ∃ x', f_X1_step x = some x' ∧ FX x x' ∧ x' 58 6 = nI rp.length - 1 ∧ ∀ k rest, rp = k :: rest → XC x' P mb al rest (k + 1)) := by
  have hC0 := hC
  obtain ⟨c1, c2, c3, c4, c5, c6⟩ := hC
  have hal := (c1.2 rp.length hlt).2
  rcases lst (fun k => okE mb al rp k) (7 - t) t with ⟨k, h1, h2, h3, h4⟩ | h
  · have hk : k < 7 := by omega
    left
    obtain ⟨n, hn, en⟩ := bits7 (v := x 61 rp.length) (fun i hi h7 => by rw [c6 i hi, decide_eq_false (by omega)]; rfl)
    have hlow : x 61 rp.length &&& -(x 61 rp.length) = nI (2 ^ k) := by
      rw [en]
      refine low_7 n hn k hk ?_ (fun i hi => ?_)
      · rw [← en, c6 k (by omega), decide_eq_true ⟨h1, hk⟩, h3]; rfl
      · rw [← en, c6 i (by omega)]
        by_cases e2 : t ≤ i
        · rw [h4 i e2 hi]; simp
        · rw [decide_eq_false (by omega)]; rfl
    have hF0 : FX x (updW (updW (updW (updW x 61 rp.length (x 61 rp.length &&& (nI (2 ^ k) ^^^ (-1)))) 59 rp.length (nI k - 1)) 63 (rp.length + 1) (x 63 rp.length ||| (if al rp.length = true then nI (2 ^ k) else 0))) 58 6 (nI (rp.length + 1))) := by
      refine ⟨fun c a1 a2 a3 a4 => ?_, ?_, ?_⟩
      · rw [updW_cell a1, updW_cell a4, updW_cell a2, updW_cell a3]
      · rw [updW_place (by omega), updW_cell (by omega), updW_cell (by omega), updW_cell (by omega)]
      · rw [updW_place (by omega), updW_cell (by omega), updW_cell (by omega), updW_cell (by omega)]
    have hstep : f_X1_step x = (if P ≤ rp.length + 1 then some (updW (updW (updW (updW x 61 rp.length (x 61 rp.length &&& (nI (2 ^ k) ^^^ (-1)))) 59 rp.length (nI k - 1)) 63 (rp.length + 1) (x 63 rp.length ||| (if al rp.length = true then nI (2 ^ k) else 0))) 58 6 (nI (rp.length + 1))) else some (updW (updW (updW (updW (updW x 61 rp.length (x 61 rp.length &&& (nI (2 ^ k) ^^^ (-1)))) 59 rp.length (nI k - 1)) 63 (rp.length + 1) (x 63 rp.length ||| (if al rp.length = true then nI (2 ^ k) else 0))) 58 6 (nI (rp.length + 1))) 61 (rp.length + 1) (x 60 (rp.length + 1) &&& ((if al (rp.length + 1) = true then (x 63 rp.length ||| (if al rp.length = true then nI (2 ^ k) else 0)) else 0) ^^^ (-1))))) := by
      unfold f_X1_step
      rw [c2, ald_nI (by omega) (by omega), ald_nI (by omega) (by omega), lv_s, hlow, if_pos (pw_ne k hk), ald_nI (by omega) (by omega), ast_nI (by omega) (by omega), pw_cnt k hk, bd_s]
      have e58 : ∀ v, updW x 61 rp.length v 58 6 = nI rp.length := fun v => by rw [updW_cell (by omega)]; exact c2
      rw [e58, ast_nI (by omega) (by omega)]
      have e58' : ∀ v u, updW (updW x 61 rp.length v) 59 rp.length u 58 6 = nI rp.length := fun v u => by rw [updW_cell (by omega)]; exact e58 v
      rw [e58', ald_nI (by omega) (by omega), ald_nI (by omega) (by omega), nI_1]
      have e62 : ∀ v u, updW (updW x 61 rp.length v) 59 rp.length u 62 rp.length = bI (al rp.length) := fun v u => by rw [updW_cell (by omega), updW_cell (by omega)]; exact hal
      have e63 : ∀ v u, updW (updW x 61 rp.length v) 59 rp.length u 63 rp.length = x 63 rp.length := fun v u => by rw [updW_cell (by omega), updW_cell (by omega)]
      rw [e62, e63]
      have e104 : ∀ t0 w, w 58 6 = nI rp.length → w 58 5 = nI P → w 60 = x 60 → w 62 = x 62 → f_X1_step_104 t0 (x 63 rp.length) (nI (rp.length + 1)) w = (if P ≤ rp.length + 1 then some (updW (updW w 63 (rp.length + 1) (x 63 rp.length ||| t0)) 58 6 (nI (rp.length + 1))) else some (updW (updW (updW w 63 (rp.length + 1) (x 63 rp.length ||| t0)) 58 6 (nI (rp.length + 1))) 61 (rp.length + 1) (x 60 (rp.length + 1) &&& ((if al (rp.length + 1) = true then (x 63 rp.length ||| t0) else 0) ^^^ (-1))))) := fun t0 w w6 w5 w60 w62 => by
        unfold f_X1_step_104
        rw [ast_nI (by omega) (by omega), wl_s]
        have g6 : updW w 63 (rp.length + 1) (x 63 rp.length ||| t0) 58 6 = nI rp.length := by rw [updW_cell (by omega)]; exact w6
        rw [g6, nI_1, updW_self]
        have g5 : updW (updW w 63 (rp.length + 1) (x 63 rp.length ||| t0)) 58 6 (nI (rp.length + 1)) 58 5 = nI P := by rw [updW_place (by omega), updW_cell (by omega)]; exact w5
        rw [g5]
        by_cases q : P ≤ rp.length + 1
        · rw [if_pos (nI_le q (by omega)), if_pos q]
        · rw [if_neg (nI_ge (by omega) (by omega)), if_neg q, ald_nI (by omega) (by omega), ald_nI (by omega) (by omega)]
          have g62 : updW (updW w 63 (rp.length + 1) (x 63 rp.length ||| t0)) 58 6 (nI (rp.length + 1)) 62 (rp.length + 1) = bI (al (rp.length + 1)) := by rw [updW_cell (by omega), updW_cell (by omega), w62]; exact (c1.2 _ (by omega)).2
          have g60 : updW (updW w 63 (rp.length + 1) (x 63 rp.length ||| t0)) 58 6 (nI (rp.length + 1)) 60 (rp.length + 1) = x 60 (rp.length + 1) := by rw [updW_cell (by omega), updW_cell (by omega), w60]
          have g63 : updW (updW w 63 (rp.length + 1) (x 63 rp.length ||| t0)) 58 6 (nI (rp.length + 1)) 63 (rp.length + 1) = (x 63 rp.length ||| t0) := by rw [updW_cell (by omega), updW_self]
          rw [g62, g60, bI_ite0]
          unfold f_X1_step_169
          cases hal2 : al (rp.length + 1) with
          | false => rw [if_neg (by decide), ast_nI (by omega) (by omega), if_neg (by decide)]
          | true => rw [if_pos rfl, ald_nI (by omega) (by omega), g63, ast_nI (by omega) (by omega), if_pos rfl]
      rw [bI_ite0]
      cases hal3 : al rp.length with
      | false => rw [if_neg Bool.false_ne_true, e104 _ _ (e58' _ _) (by rw [updW_cell (by omega), updW_cell (by omega)]; exact c1.1) (by rw [updW_cell (by omega), updW_cell (by omega)]) (by rw [updW_cell (by omega), updW_cell (by omega)]), if_neg Bool.false_ne_true]
      | true => rw [if_pos rfl, e104 _ _ (e58' _ _) (by rw [updW_cell (by omega), updW_cell (by omega)]; exact c1.1) (by rw [updW_cell (by omega), updW_cell (by omega)]) (by rw [updW_cell (by omega), updW_cell (by omega)]), if_pos rfl]
    have hnx := x_next hC0 hk h1 h4 h3 hF0 (fun j => by
      rw [updW_cell (by omega), updW_cell (by omega), updW_get, updW_cell (k := 61) (by omega)]
      by_cases e : j = rp.length
      · rw [if_pos ⟨rfl, e⟩, if_pos e]
      · rw [if_neg (fun z => e z.2), if_neg e]) (fun j => by
      rw [updW_cell (by omega), updW_get, updW_cell (k := 59) (by omega), updW_cell (k := 61) (by omega)]
      by_cases e : j = rp.length + 1
      · rw [if_pos ⟨rfl, e⟩, if_pos e]
      · rw [if_neg (fun z => e z.2), if_neg e]) (fun j hj => by
      rw [updW_cell (by omega), updW_cell (by omega), updW_cell (by omega), updW_place (by omega)]) (by
      rw [updW_cell (by omega), updW_cell (by omega), updW_cell (by omega), updW_self])
    by_cases q : P ≤ rp.length + 1
    · rw [if_pos q] at hstep
      exact ⟨k, _, h1, hk, h3, h4, hstep, hF0, updW_self _ _ _ _, fun z => absurd q (by omega), fun z => ⟨hnx.1, z, hnx.2.1, hnx.2.2.1, hnx.2.2.2⟩⟩
    · rw [if_neg q] at hstep
      refine ⟨k, _, h1, hk, h3, h4, hstep, FX_trans hF0 ⟨fun c a1 a2 a3 a4 => updW_cell a3, by rw [updW_cell (by omega)], by rw [updW_cell (by omega)]⟩, by rw [updW_cell (by omega), updW_self], fun z => ?_, fun z => absurd z (by omega)⟩
      refine ⟨XB_congr ⟨fun c a1 a2 a3 a4 => updW_cell a3, by rw [updW_cell (by omega)], by rw [updW_cell (by omega)]⟩ hnx.1, by rw [updW_cell (by omega), updW_self]; rfl, ?_, hnx.2.2.1, ?_, ?_⟩
      · rw [updW_cell (k := 61) (by omega)]
        exact hnx.2.1
      · rw [updW_cell (k := 61) (k' := 63) (by omega)]
        exact XL_congr (fun j hj => updW_place (by rw [List.length_cons] at hj; omega)) (fun _ _ => rfl) hnx.2.2.2
      · intro i hi
        have ht := XL_top hnx.2.2.2 i hi
        rw [updW_cell (k := 58) (by omega), List.length_cons, updW_self] at ht
        rw [List.length_cons, updW_self, b_and, (c1.2 _ z).1 i hi, b_not _ hi]
        unfold okE
        rw [List.length_cons]
        have hm7 : mb (rp.length + 1) i = true → i < 7 := hmb _ _
        cases hb : mb (rp.length + 1) i with
        | false => simp
        | true =>
          rw [decide_eq_true (⟨by omega, hm7 hb⟩ : 0 ≤ i ∧ i < 7)]
          cases hal2 : al (rp.length + 1) with
          | false => rw [if_neg (by decide), b_0]; rfl
          | true => rw [if_pos rfl, ht]; simp
  · right
    have h0 : x 61 rp.length = 0 := b_ext (fun i hi => by
      rw [c6 i hi, b_0]
      by_cases e : t ≤ i ∧ i < 7
      · rw [h i e.1 (by omega)]; simp
      · rw [decide_eq_false e]; rfl)
    refine ⟨fun i a1 a2 => h i a1 (by omega), updW x 58 6 (nI rp.length - 1), ?_, ?_, updW_self _ _ _ _, ?_⟩
    · unfold f_X1_step
      rw [c2, ald_nI (by omega) (by omega), ald_nI (by omega) (by omega), lv_s, h0, if_neg (by decide), wl_s]
    · exact ⟨fun c a1 a2 a3 a4 => updW_cell a1, updW_place (by omega), updW_place (by omega)⟩
    · intro k rest e
      subst e
      obtain ⟨d1, d2, d3⟩ := c5
      refine ⟨XB_congr ⟨fun c a1 a2 a3 a4 => updW_cell a1, updW_place (by omega), updW_place (by omega)⟩ c1, ?_, ?_, c4.2, ?_, ?_⟩
      · rw [updW_self, List.length_cons, nI_pred]
      · rw [updW_cell (by omega)]; exact c3.2.2
      · rw [updW_cell (by omega), updW_cell (by omega)]; exact d3
      · rw [updW_cell (by omega)]; exact d1
end XS
