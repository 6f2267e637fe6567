section GI
theorem x_joined (s p q : Int32) : f_X2_joined s p q = some (joinV s p q) := by
  unfold f_X2_joined f_X2_joined_92 joinV
  by_cases c1 : s = 38
  · rw [if_pos c1, if_pos c1]
    by_cases a : p = 0
    · rw [if_pos a, if_pos a]
    · rw [if_neg a, if_neg a]
      by_cases b : q = 0
      · rw [if_pos b, if_pos b]
      · rw [if_neg b, if_neg b]
  rw [if_neg c1, if_neg c1]
  by_cases c2 : s = 42
  · rw [if_pos c2, if_pos c2]
  rw [if_neg c2, if_neg c2]
  by_cases c3 : s = 43
  · rw [if_pos c3, if_pos c3]
  rw [if_neg c3, if_neg c3]
  by_cases c4 : s = 45
  · rw [if_pos c4, if_pos c4]
  rw [if_neg c4, if_neg c4]
  by_cases c5 : s = 47
  · rw [if_pos c5, if_pos c5]
    by_cases a : q = 0
    · rw [if_neg (fun z => z a), if_pos a]
    · rw [if_pos a, if_neg a, nz_s a]
  rw [if_neg c5, if_neg c5]
  by_cases c6 : s = 60
  · rw [if_pos c6, if_pos c6]
    by_cases a : q ≤ p
    · rw [if_pos a, if_pos a]
    · rw [if_neg a, if_neg a]
  rw [if_neg c6, if_neg c6]
  by_cases c7 : s = 61
  · rw [if_pos c7, if_pos c7]
    by_cases a : p = q
    · rw [if_neg (fun z => z a), if_pos a]
    · rw [if_pos a, if_neg a]
  rw [if_neg c7, if_neg c7]
  by_cases c8 : s = 62
  · rw [if_pos c8, if_pos c8]
    by_cases a : p ≤ q
    · rw [if_pos a, if_pos a]
    · rw [if_neg a, if_neg a]
  rw [if_neg c8, if_neg c8]
  by_cases c9 : s = 124
  · rw [if_pos c9, if_pos c9]
    by_cases a : p = 0
    · rw [if_neg (fun z => z a), if_pos a]
      by_cases b : q = 0
      · rw [if_pos b, if_pos b]
      · rw [if_neg b, if_neg b]
    · rw [if_pos a, if_neg a]
  rw [if_neg c9, if_neg c9]
  by_cases a : q = 0
  · rw [if_neg (fun z => z a), if_pos a]
  · rw [if_pos a, if_neg a, nz_s a]
/-- a stack, its top first -/
def stkR (x : Wd) (L : Nat) (st : List Int32) : Prop := x (L + 3) 1 = nI st.length ∧ ∀ j, j < st.length → x (L + 4) j = st.getD (st.length - 1 - j) 0
theorem gd_s' {v : Int32} {st : List Int32} {i : Nat} (h : 1 ≤ i) : (v :: st).getD i 0 = st.getD (i - 1) 0 := by
  obtain ⟨j, rfl⟩ : ∃ j, i = j + 1 := ⟨i - 1, by omega⟩
  rfl
theorem stk_push {x : Wd} {L : Nat} {st : List Int32} {v : Int32} (h : stkR x L st) (hl : st.length < 50) (hL : L = 11 ∨ L = 16) : f_X4_add (L + 3) v x = some (updW (updW x (L + 4) st.length v) (L + 3) 1 (nI (st.length + 1))) ∧ stkR (updW (updW x (L + 4) st.length v) (L + 3) 1 (nI (st.length + 1))) L (v :: st) := by
  obtain ⟨h1, h2⟩ := h
  constructor
  · unfold f_X4_add
    have hr : rlen (L + 3) = 50 := by rcases hL with rfl | rfl <;> rfl
    rw [h1, hr, if_neg (nI_ge hl (by omega)), ast_nI hl (by omega), wl_s, updW_cell (by omega), h1, nI_1]
  · refine ⟨by rw [updW_self, List.length_cons], fun j hj => ?_⟩
    rw [List.length_cons] at hj
    rw [updW_cell (by omega), updW_get, List.length_cons, Nat.add_sub_cancel]
    by_cases e : j = st.length
    · subst e
      rw [if_pos ⟨rfl, rfl⟩, Nat.sub_self]
      rfl
    · rw [if_neg (fun z => e z.2), h2 j (by omega), gd_s' (by omega)]
      congr 1
      omega
theorem stk_top {x : Wd} {L : Nat} {st : List Int32} {v w : Int32} (h : stkR x L (v :: st)) : x (L + 4) st.length = v ∧ stkR (updW x (L + 4) st.length w) L (w :: st) := by
  obtain ⟨h1, h2⟩ := h
  rw [List.length_cons] at h1 h2
  constructor
  · rw [h2 st.length (by omega), Nat.add_sub_cancel, Nat.sub_self]; rfl
  · refine ⟨by rw [updW_cell (by omega), List.length_cons]; exact h1, fun j hj => ?_⟩
    rw [List.length_cons] at hj
    rw [updW_get, List.length_cons, Nat.add_sub_cancel]
    by_cases e : j = st.length
    · subst e
      rw [if_pos ⟨rfl, rfl⟩, Nat.sub_self]; rfl
    · rw [if_neg (fun z => e z.2), h2 j (by omega), Nat.add_sub_cancel, gd_s' (by omega), gd_s' (by omega)]
theorem stk_two {x : Wd} {L : Nat} {st : List Int32} {v1 v2 w : Int32} (h : stkR x L (v2 :: v1 :: st)) : x (L + 4) st.length = v1 ∧ x (L + 4) (st.length + 1) = v2 ∧ stkR (updW (updW x (L + 4) st.length w) (L + 3) 1 (nI (st.length + 1))) L (w :: st) := by
  obtain ⟨h1, h2⟩ := h
  rw [List.length_cons, List.length_cons] at h1 h2
  refine ⟨?_, ?_, by rw [updW_self, List.length_cons], fun j hj => ?_⟩
  · rw [h2 st.length (by omega), show st.length + 1 + 1 - 1 - st.length = 1 by omega]; rfl
  · rw [h2 (st.length + 1) (by omega), show st.length + 1 + 1 - 1 - (st.length + 1) = 0 by omega]; rfl
  · rw [List.length_cons] at hj
    rw [updW_cell (by omega), updW_get, List.length_cons, Nat.add_sub_cancel]
    by_cases e : j = st.length
    · subst e
      rw [if_pos ⟨rfl, rfl⟩, Nat.sub_self]; rfl
    · rw [if_neg (fun z => e z.2), h2 j (by omega), gd_s' (by omega), gd_s' (by omega), gd_s' (by omega)]
      congr 1
      omega
theorem m3_cases {v : Int32} (h1 : v < 0) (h2 : ¬ v < -3) (h3 : ¬ v = -1) (h4 : ¬ v = -2) : v = -3 := by
  apply Int32.toInt_inj.mp
  have a1 := Int32.lt_iff_toInt_lt.mp h1
  have a2 := Int32.le_iff_toInt_le.mp (Int32.not_lt.mp h2)
  have b0 : (0:Int32).toInt = 0 := by decide
  have b1 : (-1:Int32).toInt = -1 := by decide
  have b2 : (-2:Int32).toInt = -2 := by decide
  have b3 : (-3:Int32).toInt = -3 := by decide
  have a3 : v.toInt ≠ -1 := fun q => h3 (Int32.toInt_inj.mp (by rw [q, b1]))
  have a4 : v.toInt ≠ -2 := fun q => h4 (Int32.toInt_inj.mp (by rw [q, b2]))
  omega
theorem evI_len (a b c v : Int32) (st : List Int32) : (evI a b c v st).length ≤ st.length + 1 := by
  unfold evI
  by_cases h0 : 0 ≤ v
  · rw [if_pos h0]; exact Nat.le_refl _
  rw [if_neg h0]
  by_cases h1 : v = -1
  · rw [if_pos h1]; exact Nat.le_refl _
  rw [if_neg h1]
  by_cases h2 : v = -2
  · rw [if_pos h2]; exact Nat.le_refl _
  rw [if_neg h2]
  by_cases h3 : v = -3
  · rw [if_pos h3]; exact Nat.le_refl _
  rw [if_neg h3]
  by_cases h4 : v = -33
  · rw [if_pos h4]
    cases st with
    | nil => exact Nat.zero_le _
    | cons x st => show st.length + 1 ≤ st.length + 1 + 1; omega
  rw [if_neg h4]
  match st with
  | [] => exact Nat.zero_le _
  | [x] => exact Nat.le_succ _
  | x :: y :: st => show st.length + 1 ≤ st.length + 1 + 1 + 1; omega
/-- one item of code -/
theorem x_item {x : Wd} {L i n : Nat} {a b c v : Int32} {st : List Int32} (hL : L = 11 ∨ L = 16) (hst : stkR x L st) (hl : st.length < 50) (hn : x (L + 1) 1 = nI n) (hi : i < n) (hn5 : n ≤ 50) (hv : x (L + 2) i = v) : ∃ x', (∀ g, fb_X2_worked_10 L g a b c (nI i) x = g a b c (nI (i + 1)) x') ∧ stkR x' L (evI a b c v st) ∧ ∀ k, k ≠ L + 3 → k ≠ L + 4 → x' k = x k := by
  have hpush : ∀ w, ∃ x', (∀ g, bd (f_X4_add (L + 3) w x) (fun q => f_X2_worked_199 L g a b c (nI i) q) = g a b c (nI (i + 1)) x') ∧ stkR x' L (w :: st) ∧ ∀ k, k ≠ L + 3 → k ≠ L + 4 → x' k = x k := fun w => by
    obtain ⟨p1, p2⟩ := stk_push (v := w) hst hl hL
    refine ⟨_, fun g => ?_, p2, fun k h3 h4 => by rw [updW_cell h3, updW_cell h4]⟩
    unfold f_X2_worked_199
    rw [p1, bd_s, nI_1]
  have hb : ∀ g, fb_X2_worked_10 L g a b c (nI i) x = (if v < 0 then (if v < (-3:Int32) then (if ¬ v = (-33:Int32) then f_X2_worked_144 L g a b c (nI i) v (nI st.length - 1) x else (if nI st.length - 1 < 0 then f_X2_worked_144 L g a b c (nI i) v (nI st.length - 1) x else ald x (L + 4) 50 (nI st.length - 1) (fun v3 => (if ¬ v3 = 0 then f_X2_worked_140 L g a b c (nI i) (0:Int32) (nI st.length - 1) x else f_X2_worked_140 L g a b c (nI i) (1:Int32) (nI st.length - 1) x)))) else (if ¬ v = (-1:Int32) then (if ¬ v = (-2:Int32) then f_X2_worked_95 L g a b c (nI i) c x else f_X2_worked_95 L g a b c (nI i) b x) else f_X2_worked_95 L g a b c (nI i) a x)) else bd (f_X4_add (L + 3) v x) (fun q4 => f_X2_worked_199 L g a b c (nI i) q4)) := fun g => by
    unfold fb_X2_worked_10
    rw [hn, if_neg (nI_ge hi (by omega)), ald_nI (by omega) (by omega), hv, lv_s, hst.1]
  unfold evI
  by_cases h0 : 0 ≤ v
  · obtain ⟨x', p1, p2, p3⟩ := hpush v
    rw [if_pos h0]
    refine ⟨x', fun g => (hb g).trans ?_, p2, p3⟩
    rw [if_neg (Int32.not_lt.mpr h0)]
    exact p1 g
  have hv0 : v < 0 := Int32.not_le.mp h0
  rw [if_neg h0]
  by_cases h1 : v = -1
  · obtain ⟨x', p1, p2, p3⟩ := hpush a
    rw [if_pos h1]
    refine ⟨x', fun g => (hb g).trans ?_, p2, p3⟩
    rw [h1, if_pos (by decide), if_neg (show ¬ (-1:Int32) < -3 by decide), if_neg (fun z => z rfl)]
    exact p1 g
  rw [if_neg h1]
  by_cases h2 : v = -2
  · obtain ⟨x', p1, p2, p3⟩ := hpush b
    rw [if_pos h2]
    refine ⟨x', fun g => (hb g).trans ?_, p2, p3⟩
    rw [h2, if_pos (by decide), if_neg (show ¬ (-2:Int32) < -3 by decide), if_pos (by decide), if_neg (fun z => z rfl)]
    exact p1 g
  rw [if_neg h2]
  by_cases h3 : v = -3
  · obtain ⟨x', p1, p2, p3⟩ := hpush c
    rw [if_pos h3]
    refine ⟨x', fun g => (hb g).trans ?_, p2, p3⟩
    rw [h3, if_pos (by decide), if_neg (show ¬ (-3:Int32) < -3 by decide), if_pos (by decide), if_pos (by decide)]
    exact p1 g
  have h5 : v < -3 := by
    rcases (inferInstance : Decidable (v < -3)) with z | z
    · exact absurd (m3_cases hv0 z h1 h2) h3
    · exact z
  rw [if_neg h3]
  have hno : ∀ w : Int32, w < 1 → (∀ g, f_X2_worked_144 L g a b c (nI i) v w x = g a b c (nI (i + 1)) x) := fun w hw g => by
    unfold f_X2_worked_144 f_X2_worked_199
    rw [if_pos hw, nI_1]
  by_cases h4 : v = -33
  · rw [if_pos h4]
    cases st with
    | nil =>
      refine ⟨x, fun g => (hb g).trans ?_, hst, fun _ _ _ => rfl⟩
      rw [if_pos hv0, if_pos h5, if_neg (fun z => z h4), if_pos (by decide)]
      exact hno _ (by decide) g
    | cons t st =>
      rw [List.length_cons] at hl
      rw [List.length_cons, nI_pred] at hb
      obtain ⟨p1, p2⟩ := stk_top (w := if t = 0 then 1 else 0) hst
      refine ⟨_, fun g => (hb g).trans ?_, p2, fun k h3 h4 => by rw [updW_cell h4]⟩
      rw [if_pos hv0, if_pos h5, if_neg (fun z => z h4), if_neg (nI_pos (by omega)), ald_nI (by omega) (by omega), p1]
      unfold f_X2_worked_140 f_X2_worked_199
      rw [ast_nI (by omega) (by omega), ast_nI (by omega) (by omega), nI_1]
      by_cases z : t = 0
      · rw [if_neg (fun q => q z), if_pos z]
      · rw [if_pos z, if_neg z]
  · rw [if_neg h4]
    match st, hst, hl, hb with
    | [], hst, hl, hb =>
      refine ⟨x, fun g => (hb g).trans ?_, hst, fun _ _ _ => rfl⟩
      rw [if_pos hv0, if_pos h5, if_pos h4]
      exact hno _ (by decide) g
    | [t], hst, hl, hb =>
      refine ⟨x, fun g => (hb g).trans ?_, hst, fun _ _ _ => rfl⟩
      rw [if_pos hv0, if_pos h5, if_pos h4]
      exact hno _ (by show (nI 1 : Int32) - 1 < 1; decide) g
    | t2 :: t1 :: st, hst, hl, hb =>
      rw [List.length_cons, List.length_cons] at hl
      rw [List.length_cons, List.length_cons, nI_pred] at hb
      obtain ⟨p1, p2, p3⟩ := stk_two (w := joinV (-v) t1 t2) hst
      refine ⟨_, fun g => (hb g).trans ?_, p3, fun k h3 h4 => by rw [updW_cell h3, updW_cell h4]⟩
      rw [if_pos hv0, if_pos h5, if_pos h4]
      unfold f_X2_worked_144 f_X2_worked_199
      rw [if_neg (show ¬ nI (st.length + 1) < 1 from nI_nlt (a := st.length + 1) (b := 1) (by omega) (by omega)), nI_pred, ald_nI (by omega) (by omega), ald_nI (by omega) (by omega), p1, p2, x_joined, bd_s, ast_nI (by omega) (by omega), wl_s, nI_1]
theorem getLastD_get : ∀ (st : List Int32), 0 < st.length → st.getLastD 0 = st.getD (st.length - 1) 0
  | [], h => absurd h (Nat.lt_irrefl _)
  | [x], _ => rfl
  | x :: y :: st, _ => by
    have ih := getLastD_get (y :: st) (by rw [List.length_cons]; omega)
    show (y :: st).getLastD x = _
    have e : (y :: st).getLastD x = (y :: st).getLastD 0 := rfl
    rw [e, ih]
    rfl
theorem x_worked {x : Wd} {L n : Nat} {a b c : Int32} {cl : List Int32} (hL : L = 11 ∨ L = 16) (hn : cl.length = n) (hn5 : n ≤ 50) (h1 : x (L + 1) 1 = nI n) (h2 : ∀ i, i < n → x (L + 2) i = cl.getD i 0) : ∃ x', f_X2_worked L a b c x = some ((evL a b c cl []).getLastD 0, x') ∧ ∀ k, k ≠ L + 3 → k ≠ L + 4 → x' k = x k := by
  unfold f_X2_worked f_X4_clear f_X2_worked_10
  rw [wl_s, bd_s]
  obtain ⟨s, ⟨st, i1, i2, i3, i4⟩, h4⟩ := lp_run (z := fun _ _ _ _ _ => none) (F := fun rec => fb_X2_worked_10 L rec) (fun g (s : Wd) i => g a b c (nI i) s) n (fun s => f_X2_worked_205 L s) (fun i s => ∃ st, evL a b c cl [] = evL a b c (cl.drop i) st ∧ st.length ≤ i ∧ stkR s L st ∧ ∀ k, k ≠ L + 3 → k ≠ L + 4 → s k = x k) (fun g i s hi hI => by
    obtain ⟨st, i1, i2, i3, i4⟩ := hI
    obtain ⟨x', p1, p2, p3⟩ := x_item (i := i) (n := n) (a := a) (b := b) (c := c) (v := cl.getD i 0) hL i3 (by omega) (by rw [i4 _ (by omega) (by omega)]; exact h1) hi hn5 (by rw [i4 _ (by omega) (by omega)]; exact h2 i hi)
    refine ⟨x', ⟨evI a b c (cl.getD i 0) st, ?_, Nat.le_trans (evI_len a b c _ st) (by omega), p2, fun k h3 h4 => by rw [p3 k h3 h4]; exact i4 k h3 h4⟩, p1 g⟩
    rw [i1, List.drop_eq_getElem_cons (by omega : i < cl.length)]
    show evL a b c (cl.drop (i + 1)) (evI a b c cl[i] st) = _
    congr 2
    rw [List.getD_eq_getElem?_getD, List.getElem?_eq_getElem (by omega : i < cl.length)]
    rfl) (fun g s hI => by
    obtain ⟨st, i1, i2, i3, i4⟩ := hI
    unfold fb_X2_worked_10
    rw [i4 _ (by omega) (by omega), h1, if_pos (nI_le (Nat.le_refl _) (by omega))]) (by omega) (updW x (L + 3) 1 0) ⟨[], rfl, Nat.zero_le _, ⟨updW_self _ _ _ _, fun j hj => absurd hj (Nat.not_lt_zero _)⟩, fun k h3 h4 => updW_cell h3⟩
  refine ⟨s, ?_, i4⟩
  rw [i1, ← hn, List.drop_length]
  refine Eq.trans (h4 : _ = _) ?_
  unfold f_X2_worked_205
  rw [i3.1]
  show _ = some (st.getLastD 0, s)
  cases st with
  | nil => rw [if_pos (by decide)]; rfl
  | cons t st =>
    have hlt := i2
    rw [List.length_cons] at hlt
    rw [if_neg (nI_nle (by rw [List.length_cons]; omega) (by rw [List.length_cons]; omega)), show (0:Int32) = nI 0 from rfl, ald_nI (by omega) (by omega), i3.2 0 (by rw [List.length_cons]; omega)]
    have := getLastD_get (t :: st) (by rw [List.length_cons]; omega)
    rw [show (nI 0 : Int32) = 0 from rfl, this, Nat.sub_zero]
theorem x_gives {x : Wd} {L u : Nat} {r : Rw} (hL : L = 11 ∧ u = 0 ∨ L = 16 ∧ u = 1) (h : RLw x L r u) (a b c : Int32) : ∃ x', f_X2_gives L a b c x = some (lawV r u a b c, x') ∧ ∀ k, k ≠ L + 3 → k ≠ L + 4 → x' k = x k := by
  have hL' : L = 11 ∨ L = 16 := by rcases hL with ⟨z, _⟩ | ⟨z, _⟩ <;> omega
  obtain ⟨h0, h⟩ := h
  have hu : u ≤ 1 := by omega
  have e15 : ∀ t0 : Int32, ∃ x', f_X2_gives_15 L a b c t0 x = some (mmax 0 (mmin (if r (6 + u) < 0 then (if u = 0 then a + c else 1 + a / 10) else (evL a b c (codeOf r u) []).getLastD 0) t0), x') ∧ ∀ k, k ≠ L + 3 → k ≠ L + 4 → x' k = x k := fun t0 => by
    unfold f_X2_gives_15 f_X2_gives_43
    rcases h with ⟨r1, r2⟩ | ⟨e, cl, c1, c2, c3, c4, c5, c6, c7, c8⟩
    · refine ⟨x, ?_, fun _ _ _ => rfl⟩
      rw [r2, if_neg (fun z => z rfl), r1, if_pos (by decide)]
      unfold f_X2_withoutText
      rw [h0]
      rcases (by omega : u = 0 ∨ u = 1) with rfl | rfl
      · rw [if_neg (by decide), if_pos rfl, bd_s]
      · rw [if_pos (by decide), if_neg (by decide), nz_s (by decide), bd_s]
    · obtain ⟨x', g1, g2⟩ := x_worked (a := a) (b := b) (c := c) hL' rfl c6 c7 c8
      refine ⟨x', ?_, g2⟩
      have ecl : codeOf r u = cl := by
        unfold codeOf
        rw [c3, nI_ix (by omega), show min e 50 = e by omega]
        unfold TXT at c4
        rw [c4]
      rw [c7, if_pos (nI_ne0 (by omega) (by omega)), g1, bd_s, c3, if_neg (nI_pos (by omega)), ecl]
  unfold f_X2_gives lawV hel
  rw [h0]
  rcases (by omega : u = 0 ∨ u = 1) with rfl | rfl
  · rw [if_neg (by decide)]
    exact e15 999
  · rw [if_pos (by decide)]
    exact e15 99
end GI
