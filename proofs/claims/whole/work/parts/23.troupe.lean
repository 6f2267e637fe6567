section TR
/-- the component's troupe t and the reference's row say the same -/
def RT (x : Wd) (t : Nat) (r : Rw) (P Q : Nat) : Prop :=
  (x t 0 = nI P ∧ x t 5 = nI Q ∧ x t 11 = r 1 ∧ x t 12 = r 0) ∧
  (∀ p, p < P → x (t + 1) p = r (9 + 4 * p) ∧ x (t + 2) p = r (10 + 4 * p) ∧ x (t + 3) p = r (11 + 4 * p) ∧ x (t + 4) p = r (12 + 4 * p)) ∧
  (∀ q, q < Q → x (t + 5) q = r (29 + 5 * q) ∧ x (t + 6) q = r (30 + 5 * q) ∧ x (t + 7) q = r (31 + 5 * q) ∧ x (t + 8) q = r (32 + 5 * q)) ∧
  (∀ i, i < 32 → bt (x t 10) i = (decide (i < Q) && decide (r (33 + 5 * i) = 1))) ∧
  (∀ p, P ≤ p → p < 5 → x (t + 4) p = 0) ∧ (∀ q, Q ≤ q → q < 6 → x (t + 6) q = 0 ∧ x (t + 8) q = 0)
theorem isB_congr {v : Int32} {N : Nat} {f g : Nat → Bool} (h : isB v N f) (e : ∀ i, i < N → f i = g i) : isB v N g := fun i hi => by
  rw [h i hi]
  by_cases q : i < N
  · rw [e i q]
  · simp [q]
theorem isB_and {u v : Int32} {N : Nat} {f g : Nat → Bool} (h1 : isB u N f) (h2 : isB v N g) : isB (u &&& v) N (fun i => f i && g i) := fun i hi => by
  rw [b_and, h1 i hi, h2 i hi]
  by_cases q : i < N <;> simp [q]
theorem isB_not {u v : Int32} {N : Nat} {f g : Nat → Bool} (h1 : isB u N f) (h2 : isB v N g) : isB (u &&& (v ^^^ (-1))) N (fun i => f i && !g i) := fun i hi => by
  rw [b_and, h1 i hi, b_not _ hi, h2 i hi]
  by_cases q : i < N <;> simp [q]
theorem isB_full {n : Nat} (hn : n ≤ 6) : isB (((1:Int32) <<< (nI n &&& 31)) - 1) n (fun _ => true) := fun i hi => by
  rw [b_full n hn i hi]; simp
theorem isB_zero {N : Nat} : isB 0 N (fun _ => false) := fun i hi => by rw [b_0]; simp
theorem len6 {t : Nat} (ht : isTr t = true) : lenX (t + 5) = 6 ∧ lenX (t + 6) = 6 ∧ lenX (t + 7) = 6 ∧ lenX (t + 8) = 6 := by
  rcases isTr_or ht with rfl | rfl | rfl <;> exact ⟨rfl, rfl, rfl, rfl⟩
theorem len5 {t : Nat} (ht : isTr t = true) : lenX (t + 1) = 5 ∧ lenX (t + 2) = 5 ∧ lenX (t + 3) = 5 ∧ lenX (t + 4) = 5 := by
  rcases isTr_or ht with rfl | rfl | rfl <;> exact ⟨rfl, rfl, rfl, rfl⟩
theorem x_whoHold {x : Wd} {t a p Q : Nat} (hl : lenX a = 6) (hQ : Q ≤ 6) (hq : x t 5 = nI Q) (hp : p < 32) : ∃ v, f_X6_whoHold t a x (nI p) = some v ∧ isB v Q (fun q => bt (x a q) p) := by
  unfold f_X6_whoHold f_X6_whoHold_5
  obtain ⟨s, h1, h2⟩ := lp_run (z := fun _ _ _ => none) (F := fun rec => fb_X6_whoHold_5 t a x rec) (fun g (s : Int32) i => g (nI p) s (nI i)) Q some (fun i s => isB s i (fun q => bt (x a q) p)) (fun g i s hi hI => by
    refine ⟨_, isB_or (by omega) hI, ?_⟩
    unfold fb_X6_whoHold_5
    rw [hq, if_neg (nI_ge hi (by omega)), hl, ald_nI (by omega) (by omega), lv_s, and1_bI hp, nI_1]) (fun g s hI => by
    unfold fb_X6_whoHold_5
    rw [hq, if_pos (nI_le (Nat.le_refl _) (by omega))]) (by omega) 0 isB_0
  exact ⟨s, h2, h1⟩
theorem x_whoOwn {x : Wd} {t p Q : Nat} (hQ : Q ≤ 6) (hq : x t 5 = nI Q) : ∃ v, f_X6_whoOwn t x (nI p) = some v ∧ isB v Q (fun q => decide (x (t + 7) q = nI p)) := by
  unfold f_X6_whoOwn f_X6_whoOwn_4
  obtain ⟨s, h1, h2⟩ := lp_run (z := fun _ _ _ => none) (F := fun rec => fb_X6_whoOwn_4 t x rec) (fun g (s : Int32) i => g (nI p) s (nI i)) Q some (fun i s => isB s i (fun q => decide (x (t + 7) q = nI p))) (fun g i s hi hI => by
    refine ⟨_, isB_or (by omega) hI, ?_⟩
    unfold fb_X6_whoOwn_4 f_X6_whoOwn_28
    rw [hq, if_neg (nI_ge hi (by omega)), ald_nI (by omega) (by omega), lv_s, nI_1]
    by_cases e : x (t + 7) i = nI p
    · rw [if_neg (fun z => z e), decide_eq_true e]; rfl
    · rw [if_pos e, decide_eq_false e, ← sh_b (by omega), if_neg (by decide)]
      rw [show s ||| 0 = s from Int32.or_zero]) (fun g s hI => by
    unfold fb_X6_whoOwn_4
    rw [hq, if_pos (nI_le (Nat.le_refl _) (by omega))]) (by omega) 0 isB_0
  exact ⟨s, h2, h1⟩
theorem x_whoStandIn {x : Wd} {t p P Q : Nat} {r : Rw} (ht : isTr t = true) (hR : RT x t r P Q) (hW : WF r P Q) (hp : p < P) : ∃ v, f_X6_whoStandIn t x (nI p) = some v ∧ isB v Q (fun q => psR r q p) := by
  obtain ⟨⟨e0, e5, e11, e12⟩, hp1, hq1, -, -, -⟩ := hR
  obtain ⟨w1, w2, -⟩ := hW
  obtain ⟨v1, a1, b1⟩ := x_whoHold (p := p) (len6 ht).1 w2 e5 (by omega)
  obtain ⟨v2, a2, b2⟩ := x_whoHold (p := p) (len6 ht).2.1 w2 e5 (by omega)
  obtain ⟨v3, a3, b3⟩ := x_whoOwn (p := p) w2 e5
  unfold f_X6_whoStandIn
  rw [e11, a1, bd_s, a2, bd_s, a3, bd_s, bd_s]
  by_cases g : r 1 = 1
  · rw [if_neg (fun z => z g)]
    refine ⟨v3, rfl, isB_congr b3 (fun q hq => ?_)⟩
    unfold psR owR
    rw [if_pos g, (hq1 q hq).2.2.1]
  · rw [if_pos g]
    refine ⟨_, rfl, isB_congr (isB_not (isB_not b1 b2) b3) (fun q hq => ?_)⟩
    obtain ⟨c1, c2, c3, -⟩ := hq1 q hq
    unfold psR owR knR plR
    rw [if_neg g, c1, c2, c3]
theorem x_isEmpty {x : Wd} {t p P Q : Nat} {r : Rw} (hR : RT x t r P Q) (hP : P ≤ 5) (hp : p < P) : f_X6_isEmpty t x (nI p) = some (bI (emR r p)) := by
  obtain ⟨⟨e0, e5, e11, e12⟩, hp1, -⟩ := hR
  unfold f_X6_isEmpty f_X6_isEmpty_30
  rw [ald_nI (by omega) (by omega), ald_nI (by omega) (by omega), (hp1 p hp).1, e12]
  have ea : (r 0 &&& 1 = 0) ↔ evR r = true := by
    have h1 : r 0 &&& 1 = bI (bt (r 0) 0) := by
      apply b_ext
      intro i hi
      rw [b_and, b_one hi]
      by_cases e : i = 0
      · subst e
        cases bt (r 0) 0 <;> decide
      · cases bt (r 0) 0
        · rw [bI_f, b_0]; simp [e]
        · rw [bI_t, b_one hi]; simp [e]
    rw [h1, bI_0]
    unfold evR
    cases bt (r 0) 0 <;> simp
  unfold emR
  by_cases k3 : r (9 + 4 * p) = 3
  · rw [if_pos k3]; simp [k3, bI]
  rw [if_neg k3]
  by_cases k6 : r (9 + 4 * p) = 6
  · rw [if_neg (fun z => z k6)]
    by_cases hz : r 0 &&& 1 = 0
    · rw [if_neg (fun z => z hz)]; simp [k6, ea.mp hz, bI]
    · rw [if_pos hz]
      have : evR r = false := by
        cases h : evR r with
        | false => rfl
        | true => exact absurd (ea.mpr h) hz
      simp [k6, this, bI]
  · rw [if_pos k6]; simp [k3, k6, bI]
theorem x_whoMay {x : Wd} {t p P Q : Nat} {r : Rw} (ht : isTr t = true) (hR : RT x t r P Q) (hW : WF r P Q) (hp : p < P) : ∃ v, f_X6_whoMay t x (nI p) = some v ∧ isB v Q (fun q => mayR r q p) := by
  obtain ⟨v1, a1, b1⟩ := x_whoStandIn ht hR hW hp
  have a2 := x_isEmpty hR hW.1 hp
  obtain ⟨⟨e0, e5, e11, e12⟩, hp1, hq1, hi1, -, -⟩ := hR
  obtain ⟨w1, w2, -, -, -, -, -, -⟩ := hW
  obtain ⟨v3, a3, b3⟩ := x_whoHold (p := p) (len6 ht).2.1 w2 e5 (by omega)
  obtain ⟨v4, a4, b4⟩ := x_whoHold (p := p) (len6 ht).1 w2 e5 (by omega)
  obtain ⟨v5, a5, b5⟩ := x_whoOwn (p := p) w2 e5
  have hw : isB ((((1:Int32) <<< (nI Q &&& 31)) - 1) &&& (x t 10 ^^^ (-1))) Q (fun q => true && !decide (r (33 + 5 * q) = 1)) := isB_not (isB_full w2) hi1
  obtain ⟨k1, -, k3, -⟩ := hp1 p hp
  unfold f_X6_whoMay f_X6_allPlayers
  rw [e5, bd_s, lv_s, ald_nI (by omega) (by omega), k1, a3, bd_s, ald_nI (by omega) (by omega), k3, a4, bd_s, a1, bd_s, a2, bd_s, a5, bd_s]
  generalize (((1:Int32) <<< (nI Q &&& 31)) - 1) &&& (x t 10 ^^^ (-1)) = wl at hw ⊢
  by_cases c2 : r (9 + 4 * p) = 2
  · rw [if_pos c2]
    refine ⟨_, rfl, isB_congr (isB_not hw b3) (fun q hq => ?_)⟩
    unfold mayR plR
    rw [(hq1 q hq).2.1]
    by_cases il : r (33 + 5 * q) = 1 <;> simp [il, c2]
  rw [if_neg c2]
  by_cases c3 : r (9 + 4 * p) = 3
  · rw [if_pos c3]
    refine ⟨_, rfl, isB_congr isB_zero (fun q hq => ?_)⟩
    unfold mayR
    by_cases il : r (33 + 5 * q) = 1 <;> simp [il, c3]
  rw [if_neg c3]
  by_cases c4 : r (9 + 4 * p) = 4
  · rw [if_pos c4]
    by_cases cl : (50:Int32) < r (11 + 4 * p)
    · rw [if_pos cl]
      refine ⟨_, rfl, isB_congr (isB_and hw b4) (fun q hq => ?_)⟩
      have cl' : ¬ r (11 + 4 * p) ≤ 50 := Int32.not_le.mpr cl
      unfold mayR knR
      rw [(hq1 q hq).1]
      by_cases il : r (33 + 5 * q) = 1 <;> simp [il, c4, cl']
    · rw [if_neg cl]
      refine ⟨_, rfl, isB_congr (isB_and hw b1) (fun q hq => ?_)⟩
      have cl' : r (11 + 4 * p) ≤ 50 := Int32.not_lt.mp cl
      unfold mayR
      by_cases il : r (33 + 5 * q) = 1 <;> simp [il, c4, cl']
  rw [if_neg c4]
  by_cases c5 : r (9 + 4 * p) = 5
  · rw [if_pos c5]
    refine ⟨_, rfl, isB_congr hw (fun q hq => ?_)⟩
    unfold mayR
    by_cases il : r (33 + 5 * q) = 1 <;> simp [il, c5]
  rw [if_neg c5]
  by_cases c6 : r (9 + 4 * p) = 6
  · rw [if_pos c6]
    cases em : emR r p with
    | true =>
      rw [if_neg (by decide)]
      refine ⟨_, rfl, isB_congr isB_zero (fun q hq => ?_)⟩
      unfold mayR
      by_cases il : r (33 + 5 * q) = 1 <;> simp [il, c6, em]
    | false =>
      rw [if_pos bI_f]
      refine ⟨_, rfl, isB_congr (isB_and hw b5) (fun q hq => ?_)⟩
      unfold mayR owR
      rw [(hq1 q hq).2.2.1]
      by_cases il : r (33 + 5 * q) = 1 <;> simp [il, c6, em]
  rw [if_neg c6]
  refine ⟨_, rfl, isB_congr (isB_and hw b1) (fun q hq => ?_)⟩
  unfold mayR
  by_cases il : r (33 + 5 * q) = 1 <;> simp [il, c2, c3, c4, c5, c6]
theorem x_isUnder : ∀ k, k < 7 → ∀ m, m < 7 → ∀ x : Wd, f_X8_isUnder x (nI k) (nI m) = some (bI (decide (m = k ∨ ((k = 1 ∨ k = 2 ∨ k = 3) ∧ m = 0) ∨ (k = 4 ∧ (m = 0 ∨ m = 1)) ∨ (k = 5 ∧ (m = 0 ∨ m = 2)) ∨ (k = 6 ∧ (m = 0 ∨ m = 3))))) := by
  have hF : ∃ f, FU = f + 8 := ⟨1999992, rfl⟩
  obtain ⟨f, hf⟩ := hF
  have key : ∀ x : Wd, ∀ k, k < 7 → ∀ m, m < 7 → f_X8_isUnder_4 x (nI m) (nI k) 0 = some (bI (decide (m = k ∨ ((k = 1 ∨ k = 2 ∨ k = 3) ∧ m = 0) ∨ (k = 4 ∧ (m = 0 ∨ m = 1)) ∨ (k = 5 ∧ (m = 0 ∨ m = 2)) ∨ (k = 6 ∧ (m = 0 ∨ m = 3))))) := by
    intro x
    unfold f_X8_isUnder_4
    rw [hf]
    show ∀ k, k < 7 → ∀ m, m < 7 → fb_X8_isUnder_4 x (fb_X8_isUnder_4 x (fb_X8_isUnder_4 x (fb_X8_isUnder_4 x (lp _ (fun rec => fb_X8_isUnder_4 x rec) (f + 4))))) (nI m) (nI k) 0 = _
    generalize lp _ (fun rec => fb_X8_isUnder_4 x rec) (f + 4) = g
    have e : fb_X8_isUnder_4 x = fun rec x1 x2 x3 => (if (7:Int32) ≤ x3 then f_X8_isUnder_31 x x1 x2 else (if x2 < 0 then f_X8_isUnder_31 x x1 x2 else (if x2 = x1 then f_X8_isUnder_31 x x1 x2 else tld tblA 7 x2 (fun v1 => rec x1 v1 (x3 + (1:Int32)))))) := rfl
    intro k hk m hm
    unfold fb_X8_isUnder_4 f_X8_isUnder_31
    rcases (by omega : k = 0 ∨ k = 1 ∨ k = 2 ∨ k = 3 ∨ k = 4 ∨ k = 5 ∨ k = 6) with rfl | rfl | rfl | rfl | rfl | rfl | rfl <;> rcases (by omega : m = 0 ∨ m = 1 ∨ m = 2 ∨ m = 3 ∨ m = 4 ∨ m = 5 ∨ m = 6) with rfl | rfl | rfl | rfl | rfl | rfl | rfl <;> rfl
  intro k hk m hm x
  exact key x k hk m hm
theorem x_isShared {x : Wd} {t p P Q : Nat} {r : Rw} (hR : RT x t r P Q) (hW : WF r P Q) (hp : p < P) : f_X6_isShared t x (nI p) = some (bI (dbR r p)) := by
  obtain ⟨⟨e0, e5, e11, e12⟩, hp1, -⟩ := hR
  obtain ⟨w1, -, -, -, -, -, wp, -⟩ := hW
  obtain ⟨⟨k, hk, ek⟩, -⟩ := wp p hp
  unfold f_X6_isShared
  rw [ald_nI (by omega) (by omega), (hp1 p hp).1, ek, show (1:Int32) = nI 1 from rfl, x_isUnder k hk 1 (by omega) x, bd_s, zk_b]
  unfold dbR
  rw [ek]
  rcases (by omega : k = 0 ∨ k = 1 ∨ k = 2 ∨ k = 3 ∨ k = 4 ∨ k = 5 ∨ k = 6) with rfl | rfl | rfl | rfl | rfl | rfl | rfl <;> decide
theorem x_hasPart {x : Wd} {t P : Nat} (e0 : x t 0 = nI P) (hP : P ≤ 5) (a : Int32) : f_X6_hasPart t x a = some (bI (decide (0 ≤ a ∧ a ≤ nI P - 1))) := by
  unfold f_X6_hasPart
  rw [e0]
  have hc := le_pred (a := a) (N := P) (by omega)
  by_cases h1 : a < 0
  · rw [if_pos h1]
    have : ¬ (0 ≤ a ∧ a ≤ nI P - 1) := fun q => Int32.not_le.mpr h1 q.1
    simp [this, bI]
  rw [if_neg h1]
  obtain ⟨j, hj, rfl⟩ := nI_of h1
  by_cases h2 : P ≤ j
  · rw [if_pos (nI_le h2 hj)]
    have : ¬ (0 ≤ nI j ∧ nI j ≤ nI P - 1) := fun q => by
      obtain ⟨i, hi, e⟩ := hc.mp q
      rw [nI_eq hj (by omega)] at e
      omega
    simp [this, bI]
  · rw [if_neg (nI_ge (by omega) (by omega))]
    have : 0 ≤ nI j ∧ nI j ≤ nI P - 1 := hc.mpr ⟨j, by omega, rfl⟩
    simp [this, bI]
theorem x_hasPlayer {x : Wd} {t Q : Nat} (e5 : x t 5 = nI Q) (hQ : Q ≤ 6) (a : Int32) : f_X6_hasPlayer t x a = some (bI (decide (0 ≤ a ∧ a ≤ nI Q - 1))) := by
  unfold f_X6_hasPlayer
  rw [e5]
  have hc := le_pred (a := a) (N := Q) (by omega)
  by_cases h1 : a < 0
  · rw [if_pos h1]
    have : ¬ (0 ≤ a ∧ a ≤ nI Q - 1) := fun q => Int32.not_le.mpr h1 q.1
    simp [this, bI]
  rw [if_neg h1]
  obtain ⟨j, hj, rfl⟩ := nI_of h1
  by_cases h2 : Q ≤ j
  · rw [if_pos (nI_le h2 hj)]
    have : ¬ (0 ≤ nI j ∧ nI j ≤ nI Q - 1) := fun q => by
      obtain ⟨i, hi, e⟩ := hc.mp q
      rw [nI_eq hj (by omega)] at e
      omega
    simp [this, bI]
  · rw [if_neg (nI_ge (by omega) (by omega))]
    have : 0 ≤ nI j ∧ nI j ≤ nI Q - 1 := hc.mpr ⟨j, by omega, rfl⟩
    simp [this, bI]
end TR
