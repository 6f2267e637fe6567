section RF
theorem m_may74 {y : Wd} {q p n : Nat} (hq : q < 30) (hp : p < 30) (hn : n ≤ 1000000) (h0 : y 101 0 = nI n) (kn pl ow ps : Bool) : f_X9_may_74 y (nI q) (nI p) (bI kn) (bI pl) (bI ow) (bI ps) = some (bI (if y 101 (33 + 5 * q) = 1 then false else if y 101 (9 + 4 * p) = 2 then !pl else if y 101 (9 + 4 * p) = 3 then false else if y 101 (9 + 4 * p) = 4 then (if y 101 (11 + 4 * p) ≤ 50 then ps else kn) else if y 101 (9 + 4 * p) = 5 then true else if y 101 (9 + 4 * p) = 6 then (ow && !emR (y 101) p) else ps)) := by
  unfold f_X9_may_74
  rw [m_of4 hq, bd_s]
  by_cases h4 : y 101 (33 + 5 * q) = 1
  · rw [if_neg (fun z => z h4), if_pos h4]; rfl
  rw [if_pos h4, if_neg h4, m_its0 (by omega), bd_s]
  by_cases k2 : y 101 (9 + 4 * p) = 2
  · rw [if_pos k2, if_pos k2]
    cases pl <;> rfl
  rw [if_neg k2, if_neg k2]
  by_cases k3 : y 101 (9 + 4 * p) = 3
  · rw [if_pos k3, if_pos k3]; rfl
  rw [if_neg k3, if_neg k3]
  by_cases k4 : y 101 (9 + 4 * p) = 4
  · rw [if_pos k4, if_pos k4, m_its2 (by omega), bd_s, zk_b, zk_b]
    by_cases kl : y 101 (11 + 4 * p) ≤ 50
    · rw [if_pos kl, if_pos kl]
    · rw [if_neg kl, if_neg kl]
  rw [if_neg k4, if_neg k4]
  by_cases k5 : y 101 (9 + 4 * p) = 5
  · rw [if_pos k5, if_pos k5]; rfl
  rw [if_neg k5, if_neg k5]
  by_cases k6 : y 101 (9 + 4 * p) = 6
  · rw [if_pos k6, if_pos k6, m_isEmpty (by omega) hn h0, bd_s]
    cases ow
    · rfl
    · cases emR (y 101) p <;> rfl
  rw [if_neg k6, if_neg k6, zk_b]
theorem m_may {y : Wd} {q p n : Nat} (hq : q < 30) (hp : p < 30) (hn : n ≤ 1000000) (h0 : y 101 0 = nI n) : f_X9_may y (nI q) (nI p) = some (bI (mayR (y 101) q p)) := by
  have e38 : ∀ kn pl ow : Bool, f_X9_may_38 y (nI q) (nI p) (bI kn) (bI pl) (bI ow) = some (bI (if y 101 (33 + 5 * q) = 1 then false else if y 101 (9 + 4 * p) = 2 then !pl else if y 101 (9 + 4 * p) = 3 then false else if y 101 (9 + 4 * p) = 4 then (if y 101 (11 + 4 * p) ≤ 50 then (if y 101 1 = 1 then ow else (kn && !pl && !ow)) else kn) else if y 101 (9 + 4 * p) = 5 then true else if y 101 (9 + 4 * p) = 6 then (ow && !emR (y 101) p) else (if y 101 1 = 1 then ow else (kn && !pl && !ow)))) := by
    intro kn pl ow
    unfold f_X9_may_38 f_X9_may_73
    rw [m_r1]
    by_cases g : y 101 1 = 1
    · rw [if_neg (fun z => z g), if_pos g]
      exact m_may74 hq hp hn h0 kn pl ow ow
    · rw [if_pos g, if_neg g]
      have a0 := m_may74 hq hp hn h0 kn pl ow false
      have a1 := m_may74 hq hp hn h0 kn pl ow true
      cases kn <;> cases pl <;> cases ow <;> first | exact a0 | exact a1
  unfold f_X9_may
  rw [m_of0 hq, bd_s, m_has (by omega), bd_s, m_of1 hq, bd_s, m_has (by omega), bd_s, m_of2 hq, bd_s]
  unfold mayR psR knR plR owR
  by_cases o : y 101 (31 + 5 * q) = nI p
  · rw [if_neg (fun z => z o), show (1:Int32) = bI true from rfl, e38, decide_eq_true o]
    rfl
  · rw [if_pos o, show (0:Int32) = bI false from rfl, e38, decide_eq_false o]
/-- a set of players by a property, below Q -/
def isB (v : Int32) (N : Nat) (f : Nat → Bool) : Prop := ∀ i, i < 32 → bt v i = (decide (i < N) && f i)
theorem isB_0 {f : Nat → Bool} : isB 0 0 f := fun i _ => by rw [b_0]; simp
theorem isB_or {v : Int32} {N : Nat} {f : Nat → Bool} (hN : N < 32) (h : isB v N f) : isB (v ||| (bI (f N) <<< (nI N &&& 31))) (N + 1) f := fun i hi => by
  rw [b_or, h i hi, b_bIsh hN hi]
  by_cases e : i = N
  · subst e; simp
  · have : (i < N + 1) = (i < N) := propext ⟨fun _ => by omega, fun _ => by omega⟩
    simp [e, this]
theorem isB_eq {v u : Int32} {N : Nat} {f g : Nat → Bool} (h1 : isB v N f) (h2 : isB u N g) (h : ∀ i, i < N → f i = g i) : v = u := by
  apply b_ext
  intro i hi
  rw [h1 i hi, h2 i hi]
  by_cases e : i < N
  · rw [h i e]
  · simp [e]
theorem sh_b {b : Bool} {n : Nat} (hn : n < 32) : (if b = true then (1:Int32) <<< (nI n &&& 31) else 0) = bI b <<< (nI n &&& 31) := by
  cases b
  · apply b_ext
    intro i hi
    rw [bI_f, b_shl n hn 0 hi]
    simp [b_0]
  · rfl
theorem m_maySet {y : Wd} {p n Q : Nat} (hp : p < 30) (hQ : Q ≤ 6) (hr : y 101 8 = nI Q) (hn : n ≤ 1000000) (h0 : y 101 0 = nI n) : ∃ v, f_X9_maySet y (nI p) = some v ∧ isB v Q (fun q => mayR (y 101) q p) := by
  unfold f_X9_maySet f_X9_maySet_4
  obtain ⟨s, h1, h2⟩ := lp_run (z := fun _ _ _ => none) (F := fun rec => fb_X9_maySet_4 y rec) (fun g (s : Int32) i => g (nI p) s (nI i)) Q some (fun i s => isB s i (fun q => mayR (y 101) q p)) (fun g i s hi hI => by
    refine ⟨_, isB_or (by omega) hI, ?_⟩
    unfold fb_X9_maySet_4 f_X9_maySet_32
    rw [m_r8, hr, if_neg (nI_ge hi (by omega)), m_may (by omega) hp hn h0, bd_s, lv_s, lv_s, nI_1]
    cases mayR (y 101) i p
    · rw [if_pos bI_f, ← sh_b (by omega)]; rfl
    · rw [if_neg (by decide)]; rfl) (fun g s hI => by
    unfold fb_X9_maySet_4
    rw [m_r8, hr, if_pos (nI_le (Nat.le_refl _) (by omega))]) (by omega) 0 isB_0
  exact ⟨s, h2, h1⟩
theorem m_knowers {y : Wd} {p Q : Nat} (hp : p < 30) (hQ : Q ≤ 6) (hr : y 101 8 = nI Q) : ∃ v, f_X9_knowers y (nI p) = some v ∧ isB v Q (fun q => knR (y 101) q p) := by
  unfold f_X9_knowers f_X9_knowers_4
  obtain ⟨s, h1, h2⟩ := lp_run (z := fun _ _ _ => none) (F := fun rec => fb_X9_knowers_4 y rec) (fun g (s : Int32) i => g (nI p) s (nI i)) Q some (fun i s => isB s i (fun q => knR (y 101) q p)) (fun g i s hi hI => by
    refine ⟨_, isB_or (by omega) hI, ?_⟩
    unfold fb_X9_knowers_4 f_X9_knowers_36 knR
    rw [m_r8, hr, if_neg (nI_ge hi (by omega)), m_of0 (by omega), bd_s, m_has (by omega), bd_s, lv_s, lv_s, nI_1]
    cases bt (y 101 (29 + 5 * i)) p
    · rw [if_pos bI_f, ← sh_b (by omega)]; rfl
    · rw [if_neg (by decide)]; rfl) (fun g s hI => by
    unfold fb_X9_knowers_4
    rw [m_r8, hr, if_pos (nI_le (Nat.le_refl _) (by omega))]) (by omega) 0 isB_0
  exact ⟨s, h2, h1⟩
theorem m_isDoubled {y : Wd} {p : Nat} (hp : p < 50) : f_X9_isDoubled y (nI p) = some (bI (dbR (y 101) p)) := by
  unfold f_X9_isDoubled f_X9_isDoubled_20 dbR
  rw [m_its0 hp, bd_s, bd_s]
  by_cases h1 : y 101 (9 + 4 * p) = 1
  · rw [if_pos h1]; simp [h1, bI]
  · rw [if_neg h1]
    by_cases h4 : y 101 (9 + 4 * p) = 4
    · rw [if_neg (fun z => z h4)]; simp [h4, bI]
    · rw [if_pos h4]; simp [h1, h4, bI]
/-- sums over the players -/
def sumN (f : Nat → Int32) : Nat → Int32
  | 0 => 0
  | k + 1 => sumN f k + f k
theorem sumN_eq {f g : Nat → Int32} : ∀ {N : Nat}, (∀ i, i < N → f i = g i) → sumN f N = sumN g N
  | 0, _ => rfl
  | N + 1, h => by rw [sumN, sumN, sumN_eq (fun i hi => h i (by omega)), h N (by omega)]
theorem m_purses {y : Wd} {Q : Nat} (hQ : Q ≤ 6) (hr : y 101 8 = nI Q) : f_X9_purses y = some (sumN (fun q => y 101 (32 + 5 * q)) Q) := by
  unfold f_X9_purses f_X9_purses_4
  obtain ⟨s, h1, h2⟩ := lp_run (z := fun _ _ => none) (F := fun rec => fb_X9_purses_4 y rec) (fun g (s : Int32) i => g s (nI i)) Q some (fun i s => s = sumN (fun q => y 101 (32 + 5 * q)) i) (fun g i s hi hI => by
    refine ⟨sumN (fun q => y 101 (32 + 5 * q)) (i + 1), rfl, ?_⟩
    unfold fb_X9_purses_4
    rw [m_r8, hr, if_neg (nI_ge hi (by omega)), m_of3 (by omega), bd_s, lv_s, nI_1, hI]
    rfl) (fun g s hI => by
    unfold fb_X9_purses_4
    rw [m_r8, hr, if_pos (nI_le (Nat.le_refl _) (by omega))]) (by omega) 0 rfl
  rw [← h1]
  exact h2
theorem m_applause {y : Wd} {P : Nat} (hP : P ≤ 5) (hr : y 101 3 = nI P) : f_X9_applause y = some (sumN (fun p => y 101 (12 + 4 * p)) P) := by
  unfold f_X9_applause f_X9_applause_4
  obtain ⟨s, h1, h2⟩ := lp_run (z := fun _ _ => none) (F := fun rec => fb_X9_applause_4 y rec) (fun g (s : Int32) i => g s (nI i)) P some (fun i s => s = sumN (fun p => y 101 (12 + 4 * p)) i) (fun g i s hi hI => by
    refine ⟨sumN (fun p => y 101 (12 + 4 * p)) (i + 1), rfl, ?_⟩
    unfold fb_X9_applause_4
    rw [m_r3, hr, if_neg (nI_ge hi (by omega)), m_its3 (by omega), bd_s, lv_s, nI_1, hI]
    rfl) (fun g s hI => by
    unfold fb_X9_applause_4
    rw [m_r3, hr, if_pos (nI_le (Nat.le_refl _) (by omega))]) (by omega) 0 rfl
  rw [← h1]
  exact h2
theorem m_illSet {y : Wd} {Q : Nat} (hQ : Q ≤ 6) (hr : y 101 8 = nI Q) (hb : ∀ q, q < Q → y 101 (33 + 5 * q) = 0 ∨ y 101 (33 + 5 * q) = 1) : ∃ v, f_X9_illSet y = some v ∧ isB v Q (fun q => decide (y 101 (33 + 5 * q) = 1)) := by
  unfold f_X9_illSet f_X9_illSet_4
  obtain ⟨s, h1, h2⟩ := lp_run (z := fun _ _ => none) (F := fun rec => fb_X9_illSet_4 y rec) (fun g (s : Int32) i => g s (nI i)) Q some (fun i s => isB s i (fun q => decide (y 101 (33 + 5 * q) = 1))) (fun g i s hi hI => by
    refine ⟨_, isB_or (by omega) hI, ?_⟩
    unfold fb_X9_illSet_4
    rw [m_r8, hr, if_neg (nI_ge hi (by omega)), m_of4 (by omega), bd_s, lv_s, nI_1]
    rcases hb i hi with h | h <;> rw [h] <;> rfl) (fun g s hI => by
    unfold fb_X9_illSet_4
    rw [m_r8, hr, if_pos (nI_le (Nat.le_refl _) (by omega))]) (by omega) 0 isB_0
  exact ⟨s, h2, h1⟩
/-- how many bits below 6 -/
def cntB (f : Nat → Bool) : Nat → Nat
  | 0 => 0
  | k + 1 => cntB f k + (if f k then 1 else 0)
theorem cntB_le (f : Nat → Bool) : ∀ k, cntB f k ≤ k
  | 0 => Nat.le_refl _
  | k + 1 => by
    have := cntB_le f k
    rw [cntB]
    split <;> omega
theorem m_bits (x : Int32) : f_X9_bits x = some (nI (cntB (bt x) 6)) := by
  unfold f_X9_bits f_X9_bits_4
  obtain ⟨s, h1, h2⟩ := lp_run (z := fun _ _ _ => none) (F := fun rec => fb_X9_bits_4 rec) (fun g (s : Int32) i => g x s (nI i)) 6 some (fun i s => s = nI (cntB (bt x) i)) (fun g i s hi hI => by
    refine ⟨nI (cntB (bt x) (i + 1)), rfl, ?_⟩
    unfold fb_X9_bits_4
    rw [show (6:Int32) = nI 6 from rfl, if_neg (nI_ge hi (by omega)), lv_s, nI_1, hI, and1_bI (by omega)]
    have e : nI (cntB (bt x) i) + bI (bt x i) = nI (cntB (bt x) (i + 1)) := by
      rw [cntB]
      cases bt x i
      · exact nI_add _ 0
      · exact nI_add _ 1
    rw [e]) (fun g s hI => by
    unfold fb_X9_bits_4
    rw [show (6:Int32) = nI 6 from rfl, if_pos (nI_le (Nat.le_refl _) (by omega)), hI]) (by omega) 0 rfl
  rw [← h1]
  exact h2
/-- the row of one array becomes that of another -/
theorem m_moveAll {y : Wd} {a b : Nat} (ha : lenM a = 229) (hb : lenM b = 229) (hab : a ≠ b) : ∃ y', f_X9_moveAll a b y = some y' ∧ (∀ i, i < 229 → y' b i = y a i) ∧ (∀ i, 229 ≤ i → y' b i = y b i) ∧ ∀ k, k ≠ b → y' k = y k := by
  unfold f_X9_moveAll f_X9_moveAll_2
  obtain ⟨s, ⟨h1, h2, h3⟩, h4⟩ := lp_run (z := fun _ _ => none) (F := fun rec => fb_X9_moveAll_2 a b rec) (fun g (s : Wd) i => g (nI i) s) 229 some (fun i s => (∀ j, j < i → s b j = y a j) ∧ (∀ j, i ≤ j → s b j = y b j) ∧ ∀ k, k ≠ b → s k = y k) (fun g i s hi hI => by
    obtain ⟨i1, i2, i3⟩ := hI
    refine ⟨updW s b i (s a i), ⟨fun j hj => ?_, fun j hj => ?_, fun k hk => ?_⟩, ?_⟩
    · rw [updW_get]
      by_cases e : j = i
      · subst e; rw [if_pos ⟨rfl, rfl⟩, i3 a hab]
      · rw [if_neg (fun z => e z.2)]; exact i1 j (by omega)
    · rw [updW_place (by omega)]; exact i2 j (by omega)
    · rw [updW_cell hk]; exact i3 k hk
    · unfold fb_X9_moveAll_2
      rw [show (229:Int32) = nI 229 from rfl, if_neg (nI_ge hi (by omega)), ha, hb, ald_nI hi (by omega), ast_nI hi (by omega), nI_1]) (fun g s hI => by
    unfold fb_X9_moveAll_2
    rw [show (229:Int32) = nI 229 from rfl, if_pos (nI_le (Nat.le_refl _) (by omega))]) (by omega) y ⟨fun j hj => by omega, fun j hj => rfl, fun k hk => rfl⟩
  exact ⟨s, h4, h1, h2, h3⟩
end RF
