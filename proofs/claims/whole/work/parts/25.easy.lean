section EA
theorem upd_get (f : Nat → Int32) (k : Nat) (v : Int32) (i : Nat) : upd f k v i = if i = k then v else f i := rfl
theorem upd_ne {f : Nat → Int32} {k : Nat} {v : Int32} {i : Nat} (h : ¬ i = k) : upd f k v i = f i := if_neg h
theorem updW_row {y : Wd} {i : Nat} {v : Int32} : updW y 101 i v 101 = upd (y 101) i v := setA_self _ _ _
theorem WF_congr {r r' : Rw} {P Q : Nat} (hr : ∀ i, i < 59 → r' i = r i) (h : WF r P Q) : WF r' P Q := by
  obtain ⟨h1, h2, h3, h4, h5, h6, h7, h8⟩ := h
  refine ⟨h1, h2, by rw [hr 3 (by omega)]; exact h3, by rw [hr 8 (by omega)]; exact h4, by rw [hr 0 (by omega)]; exact h5, by rw [hr 1 (by omega)]; exact h6, fun p hp => ?_, fun q hq => ?_⟩
  · rw [hr (9 + 4 * p) (by omega), hr (10 + 4 * p) (by omega), hr (11 + 4 * p) (by omega), hr (12 + 4 * p) (by omega)]
    exact h7 p hp
  · rw [hr (29 + 5 * q) (by omega), hr (30 + 5 * q) (by omega), hr (31 + 5 * q) (by omega), hr (32 + 5 * q) (by omega), hr (33 + 5 * q) (by omega)]
    exact h8 q hq
theorem RT_congr {x x' : Wd} {t : Nat} {r r' : Rw} {P Q : Nat} (hW : P ≤ 5 ∧ Q ≤ 6) (hx : ∀ k, t ≤ k → k < t + 9 → x' k = x k) (hr : ∀ i, i < 59 → r' i = r i) (h : RT x t r P Q) : RT x' t r' P Q := by
  obtain ⟨⟨a1, a2, a3, a4⟩, h1, h2, h3, h4, h5⟩ := h
  refine ⟨⟨?_, ?_, ?_, ?_⟩, fun p hp => ?_, fun q hq => ?_, fun i hi => ?_, fun p h1 h2 => ?_, fun q h1 h2 => ?_⟩
  · rw [hx t (by omega) (by omega)]; exact a1
  · rw [hx t (by omega) (by omega)]; exact a2
  · rw [hx t (by omega) (by omega), hr 1 (by omega)]; exact a3
  · rw [hx t (by omega) (by omega), hr 0 (by omega)]; exact a4
  · rw [hx _ (by omega) (by omega), hx _ (by omega) (by omega), hx _ (by omega) (by omega), hx _ (by omega) (by omega), hr (9 + 4 * p) (by omega), hr (10 + 4 * p) (by omega), hr (11 + 4 * p) (by omega), hr (12 + 4 * p) (by omega)]
    exact h1 p hp
  · rw [hx _ (by omega) (by omega), hx _ (by omega) (by omega), hx _ (by omega) (by omega), hx _ (by omega) (by omega), hr (29 + 5 * q) (by omega), hr (30 + 5 * q) (by omega), hr (31 + 5 * q) (by omega), hr (32 + 5 * q) (by omega)]
    exact h2 q hq
  · rw [hx t (by omega) (by omega), h3 i hi]
    by_cases hq : i < Q
    · rw [hr (33 + 5 * i) (by omega)]
    · simp [hq]
  · rw [hx _ (by omega) (by omega)]; exact h4 p h1 h2
  · rw [hx _ (by omega) (by omega), hx _ (by omega) (by omega)]; exact h5 q h1 h2
theorem loopS_congr {B B' : Nat → Int32} {e l : Nat} {s s' : Nat → Pr} (hB : ∀ p, sgB B' e p = sgB B e p) (hs : ∀ p, s' p = s p) : ∀ (n pos : Nat) (cl : List Int32), loopS B' e l s' n pos cl = loopS B e l s n pos cl := by
  intro n
  induction n with
  | zero => intro pos cl; rfl
  | succ n ih => intro pos cl; simp only [loopS, hB, hs, ih]
theorem numS_congr {B B' : Nat → Int32} {e : Nat} (hB : ∀ p, sgB B' e p = sgB B e p) : ∀ (n pos : Nat) (v : Int32), numS B' e n pos v = numS B e n pos v := by
  intro n
  induction n with
  | zero => intro pos v; rfl
  | succ n ih => intro pos v; simp only [numS, hB, ih]
theorem pS_congr {u : Nat} {B B' : Nat → Int32} {e : Nat} (hB : ∀ p, sgB B' e p = sgB B e p) : ∀ (f k pos o : Nat), pS u B' e f k pos o = pS u B e f k pos o := by
  intro f
  induction f with
  | zero => intro k pos o; rfl
  | succ f ih =>
    intro k pos o
    have hl : ∀ (l : Nat) (sb : Nat → Pr), loopS B' e l sb = loopS B e l sb := fun l sb => by
      funext n pos cl
      exact loopS_congr hB (fun _ => rfl) n pos cl
    simp only [pS, hB, ih, numS_congr hB, hl]
theorem TXT_congr {r r' : Rw} {u e : Nat} {cl : List Int32} (he : e ≤ 50) (hr : ∀ i, i < 50 → r' (129 + 50 * u + i) = r (129 + 50 * u + i)) (h : TXT r u e cl) : TXT r' u e cl := by
  unfold TXT at h ⊢
  rw [← h]
  apply pS_congr
  intro p
  unfold sgB
  by_cases hp : p < e
  · rw [if_pos hp, if_pos hp]
    exact hr p (by omega)
  · rw [if_neg hp, if_neg hp]
theorem RLw_congr {x x' : Wd} {L : Nat} {r r' : Rw} {u : Nat} (h0 : x' L = x L) (h1 : x' (L + 1) = x (L + 1)) (h2 : x' (L + 2) = x (L + 2)) (hs : r' (6 + u) = r (6 + u)) (hr : ∀ i, i < 50 → r' (129 + 50 * u + i) = r (129 + 50 * u + i)) (h : RLw x L r u) : RLw x' L r' u := by
  obtain ⟨a, b⟩ := h
  refine ⟨by rw [h0]; exact a, ?_⟩
  rcases b with ⟨b1, b2⟩ | ⟨e, cl, c1, c2, c3, c4, c5, c6, c7, c8⟩
  · exact Or.inl ⟨by rw [hs]; exact b1, by rw [h1]; exact b2⟩
  · exact Or.inr ⟨e, cl, c1, c2, by rw [hs]; exact c3, TXT_congr c2 hr c4, c5, c6, by rw [h1]; exact c7, fun i hi => by rw [h2]; exact c8 i hi⟩
/-- the laws of a book that no write of the troupe touches -/
theorem RB_congr {x x' : Wd} {b : Nat} {r : Rw} (hx : ∀ k, b ≤ k → k < b + 24 → x' k = x k) (h : RB x b r) : RB x' b r := by
  obtain ⟨⟨P, Q, h1, h2⟩, h3, h4, h5, h6, ⟨t, t1, t2, t3, t4⟩, ⟨s, s1, s2, s3, s4⟩⟩ := h
  refine ⟨⟨P, Q, h1, RT_congr ⟨h1.1, h1.2.1⟩ (fun k k1 k2 => hx k (by omega) (by omega)) (fun i _ => rfl) h2⟩, h3, RLw_congr (hx _ (by omega) (by omega)) (hx _ (by omega) (by omega)) (hx _ (by omega) (by omega)) rfl (fun _ _ => rfl) h4, RLw_congr (hx _ (by omega) (by omega)) (hx _ (by omega) (by omega)) (hx _ (by omega) (by omega)) rfl (fun _ _ => rfl) h5, by rw [hx b (by omega) (by omega)]; exact h6, ⟨t, t1, t2, by rw [hx _ (by omega) (by omega)]; exact t3, fun i hi => by rw [hx _ (by omega) (by omega)]; exact t4 i hi⟩, ⟨s, s1, s2, by rw [hx _ (by omega) (by omega)]; exact s3, fun i hi => by rw [hx _ (by omega) (by omega)]; exact s4 i hi⟩⟩
/-- the book now after a change of its troupe alone -/
theorem RB_troupe {x x' : Wd} {r r' : Rw} (h : RB x 1 r) (hT : ∃ P Q, WF r' P Q ∧ RT x' 2 r' P Q) (hN : ∃ n, n ≤ 9999 ∧ r' 0 = nI n) (hx : ∀ k, (k = 1 ∨ 11 ≤ k ∧ k ≤ 13 ∨ 16 ≤ k ∧ k ≤ 18 ∨ 21 ≤ k ∧ k ≤ 24) → x' k = x k) (hr : ∀ i, (i = 2 ∨ 4 ≤ i ∧ i ≤ 7 ∨ 59 ≤ i) → r' i = r i) : RB x' 1 r' := by
  obtain ⟨-, -, h4, h5, h6, ⟨t, t1, t2, t3, t4⟩, ⟨s, s1, s2, s3, s4⟩⟩ := h
  refine ⟨hT, hN, RLw_congr (hx _ (by omega)) (hx _ (by omega)) (hx _ (by omega)) (hr _ (by omega)) (fun i _ => hr _ (by omega)) h4, RLw_congr (hx _ (by omega)) (hx _ (by omega)) (hx _ (by omega)) (hr _ (by omega)) (fun i _ => hr _ (by omega)) h5, by rw [hx 1 (by omega), hr 2 (by omega)]; exact h6, ⟨t, t1, by rw [hr 4 (by omega)]; exact t2, by rw [hx _ (by omega)]; exact t3, fun i hi => by rw [hx _ (by omega), hr _ (by omega)]; exact t4 i hi⟩, ⟨s, s1, by rw [hr 5 (by omega)]; exact s2, by rw [hx _ (by omega)]; exact s3, fun i hi => by rw [hx _ (by omega), hr _ (by omega)]; exact s4 i hi⟩⟩
def keepX (k : Nat) : Prop := k = 0 ∨ (25 ≤ k ∧ k < 49) ∨ k = 68 ∨ k = 69 ∨ (71 ≤ k ∧ k < 79) ∨ k = 80
def keepM (k : Nat) : Prop := k = 100 ∨ k = 102 ∨ k = 105 ∨ k = 110 ∨ k = 111 ∨ k = 112 ∨ k = 114
theorem Rel_of {n : Nat} {x y x' y' : Wd} (h : Rel n x y) (hB : RB x' 1 (y' 101)) (hx : ∀ k, keepX k → x' k = x k) (hm : ∀ k, keepM k → k ≠ 100 → y' k = y k) (h4 : y' 100 4 = y 100 4) (h5 : y' 100 5 = y 100 5) (h24 : y' 100 24 = y 100 24) : Rel (n + 1) x' y' := by
  obtain ⟨-, ⟨k, k1, k2, k3, k4, k5, k6, k7⟩, he, hs, ⟨t, t1, t2, t3, t4⟩⟩ := h
  unfold keepX at hx
  unfold keepM at hm
  refine ⟨hB, ⟨k, by omega, by rw [hx 0 (by omega)]; exact k2, by rw [h5]; exact k3, by rw [h4]; exact k4, fun hk => ?_, by rw [hx 35 (by omega)]; exact k6, by rw [hx 40 (by omega)]; exact k7⟩, fun k hk => ?_, fun s hs4 => ?_, ⟨t, t1, by rw [hx 68 (by omega)]; exact t2, by rw [h24]; exact t3, fun i hi => by rw [hx 69 (by omega), hm 114 (by omega) (by omega)]; exact t4 i hi⟩⟩
  · rw [hm 102 (by omega) (by omega)]
    exact RB_congr (fun k k1 k2 => hx k (by omega)) (k5 hk)
  · rw [hx 80 (by omega), hm 105 (by omega) (by omega)]; exact he k hk
  · rw [hx (71 + 2 * s) (by omega), hx (72 + 2 * s) (by omega), hm 110 (by omega) (by omega), hm 111 (by omega) (by omega), hm 112 (by omega) (by omega)]
    exact hs s hs4
theorem keepM_y {y y' : Wd} (h : ∀ k, k ≠ 101 → y' k = y k) : (∀ k, keepM k → k ≠ 100 → y' k = y k) ∧ y' 100 4 = y 100 4 ∧ y' 100 5 = y 100 5 ∧ y' 100 24 = y 100 24 := by
  refine ⟨fun k hk _ => h k ?_, by rw [h 100 (by omega)], by rw [h 100 (by omega)], by rw [h 100 (by omega)]⟩
  unfold keepM at hk
  omega
/-- what an act that answers an error does on both sides -/
theorem st_err {n : Nat} {x y : Wd} (h : Rel n x y) {k : Nat} (hk : k < 6) : ∃ (r : Int32) (x' y' : Wd), f_X8_error (nI k) x = some (r, x') ∧ f_X9_errs (-1000000000 - nI k) y = some (r, y') ∧ Rel (n + 1) x' y' := by
  refine ⟨-1000000000 - nI k, updW x 80 k (x 80 k + 1), updW y 105 k (y 105 k + 1), ?_, ?_, ?_⟩
  · unfold f_X8_error
    rw [ald_nI hk (by omega), ast_nI hk (by omega)]
  · unfold f_X9_errs
    have e : (-1000000000:Int32) - (-1000000000 - nI k) = nI k := by
      rcases (by omega : k = 0 ∨ k = 1 ∨ k = 2 ∨ k = 3 ∨ k = 4 ∨ k = 5) with rfl | rfl | rfl | rfl | rfl | rfl <;> decide
    rw [e, ald_nI hk (by omega), ast_nI hk (by omega)]
  · obtain ⟨h1, h2, he, hs, ht⟩ := h
    obtain ⟨j, j1, j2, j3, j4, j5, j6, j7⟩ := h2
    obtain ⟨t, t1, t2, t3, t4⟩ := ht
    refine ⟨?_, ⟨j, by omega, by rw [updW_cell (by omega)]; exact j2, by rw [updW_cell (by omega)]; exact j3, by rw [updW_cell (by omega)]; exact j4, fun hj => ?_, by rw [updW_cell (by omega)]; exact j6, by rw [updW_cell (by omega)]; exact j7⟩, fun i hi => ?_, fun s hs4 => ?_, ⟨t, t1, by rw [updW_cell (by omega)]; exact t2, by rw [updW_cell (by omega)]; exact t3, fun i hi => by rw [updW_cell (by omega), updW_cell (by omega)]; exact t4 i hi⟩⟩
    · rw [updW_cell (k' := 101) (by omega)]
      exact RB_congr (fun k k1 k2 => updW_cell (by omega)) h1
    · rw [updW_cell (k' := 102) (by omega)]
      exact RB_congr (fun k k1 k2 => updW_cell (by omega)) (j5 hj)
    · rw [updW_get, updW_get]
      by_cases e : i = k
      · subst e; rw [if_pos ⟨rfl, rfl⟩, if_pos ⟨rfl, rfl⟩, he i hi]
      · rw [if_neg (fun z => e z.2), if_neg (fun z => e z.2)]; exact he i hi
    · rw [updW_cell (by omega), updW_cell (by omega), updW_cell (by omega), updW_cell (by omega), updW_cell (by omega)]
      exact hs s hs4
/-- both sides answer the same error -/
theorem st_fail {n : Nat} {x y : Wd} (h : Rel n x y) (k : Nat) (c e : Int32) (hk : k < 6) (hc : c = nI k) (he : e = -1000000000 - nI k) : ∃ (r : Int32) (x' y' : Wd), (bd (f_X8_error c x) (fun q => some (q.1, q.2))) = some (r, x') ∧ (bd (f_X9_errs e y) (fun q => some (q.1, q.2))) = some (r, y') ∧ Rel (n + 1) x' y' := by
  obtain ⟨r, x', y', a, b, c'⟩ := st_err h hk
  subst hc; subst he
  exact ⟨r, x', y', by rw [a]; rfl, by rw [b]; rfl, c'⟩
theorem x_within (a b c : Int32) : f_X8_isWithin a b c = some (bI (decide (b ≤ a ∧ a ≤ c))) := m_in a b c
theorem bI_ite0 {α : Type} {b : Bool} {A B : α} : (if bI b = 0 then A else B) = if b = true then B else A := by cases b <;> rfl
theorem bI_ite1 {α : Type} {b : Bool} {A B : α} : (if ¬ bI b = 0 then A else B) = if b = true then A else B := by cases b <;> rfl


end EA
