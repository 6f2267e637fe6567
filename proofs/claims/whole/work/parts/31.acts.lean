section SE
theorem m_ofc {y : Wd} {q c : Nat} (hq : q < 30) (hc : c ≤ 4) : f_X9_of y (nI q) (nI c) = some (y 101 (29 + c + 5 * q)) := by
  rw [m_of (by omega), show 29 + 5 * q + c = 29 + c + 5 * q by omega]
theorem x_whatMay {x : Wd} {t q P Q : Nat} {r : Rw} (ht : isTr t = true) (hR : RT x t r P Q) (hW : WF r P Q) (hq : q < Q) : ∃ v, f_X6_whatMay t x (nI q) = some v ∧ isB v P (fun p => mayR r q p) := by
  unfold f_X6_whatMay f_X6_whatMay_4
  have hP := hW.1
  have hQ := hW.2.1
  obtain ⟨s, h1, h2⟩ := lp_run (z := fun _ _ _ => none) (F := fun rec => fb_X6_whatMay_4 t x rec) (fun g (s : Int32) i => g (nI q) s (nI i)) P some (fun i s => isB s i (fun p => mayR r q p)) (fun g i s hi hI => by
    obtain ⟨v, v1, v2⟩ := x_whoMay ht hR hW hi
    refine ⟨_, isB_or (by omega) hI, ?_⟩
    unfold fb_X6_whatMay_4
    rw [hR.1.1, if_neg (nI_ge hi (by omega)), v1, bd_s, lv_s, and1_bI (by omega), nI_1, v2 q (by omega), decide_eq_true hq]
    rfl) (fun g s hI => by
    unfold fb_X6_whatMay_4
    rw [hR.1.1, if_pos (nI_le (Nat.le_refl _) (by omega))]) (by omega) 0 isB_0
  exact ⟨s, h2, h1⟩
theorem m_ofPlayer41 {y : Wd} {q P Q n : Nat} (hW : WF (y 101) P Q) (hq : q < Q) (hn : n ≤ 1000000) (h0 : y 101 0 = nI n) : ∃ v, f_X9_ofPlayer_41 (nI q) 0 0 y = some (v, y) ∧ isB v P (fun p => mayR (y 101) q p) := by
  unfold f_X9_ofPlayer_41
  have hP := hW.1
  have hQ := hW.2.1
  obtain ⟨s, h1, h2⟩ := lp_run (z := fun _ _ _ _ => none) (F := fun rec => fb_X9_ofPlayer_41 rec) (fun g (s : Int32) i => g (nI q) s (nI i) y) P (fun s => some (s, y)) (fun i s => isB s i (fun p => mayR (y 101) q p)) (fun g i s hi hI => by
    refine ⟨_, isB_or (by omega) hI, ?_⟩
    unfold fb_X9_ofPlayer_41 f_X9_ofPlayer_71
    rw [m_r3, hW.2.2.1, if_neg (nI_ge hi (by omega)), m_may (by omega) (by omega) hn h0, bd_s, lv_s, lv_s, nI_1]
    cases mayR (y 101) q i
    · rw [if_pos bI_f, ← sh_b (by omega)]; rfl
    · rw [if_neg (by decide)]; rfl) (fun g s hI => by
    unfold fb_X9_ofPlayer_41
    rw [m_r3, hW.2.2.1, if_pos (nI_le (Nat.le_refl _) (by omega))]) (by omega) 0 isB_0
  exact ⟨s, h2, h1⟩
theorem st_ofPlayer : St_ofPlayer Rel := by
  intro n x y p1 p2 hn h
  obtain ⟨P, Q, hW, hR⟩ := h.1.1
  unfold f_X8_ofPlayer f_X9_ofPlayer
  rw [x_hasPlayer hR.1.2.1 hW.2.1, m_isPlayer hW.2.1 hW.2.2.2.1, bd_s, bd_s, bI_ite1, bI_ite0]
  by_cases c1 : 0 ≤ p1 ∧ p1 ≤ nI Q - 1
  · rw [dT c1, dT c1, m_in, bd_s, bI_ite1]
    have hP := hW.1
    have hQ := hW.2.1
    obtain ⟨q, hq, rfl⟩ := (le_pred (N := Q) (by omega)).mp c1
    obtain ⟨n0, hn0, e0⟩ := hW.2.2.2.2.1
    obtain ⟨b1, b2, b3, b4⟩ := hR.2.2.1 q hq
    by_cases c2 : 0 ≤ p2 ∧ p2 ≤ 5
    · rw [dT c2]
      obtain ⟨j, hj, rfl⟩ := (in_nI (N := 5) (by omega)).mp c2
      rcases (by omega : j = 0 ∨ j = 1 ∨ j = 2 ∨ j = 3 ∨ j = 4 ∨ j = 5) with rfl | rfl | rfl | rfl | rfl | rfl
      · rw [if_pos (by decide), if_neg (by decide), ald_nI (by omega) (by omega), m_ofc (by omega) (by omega), bd_s, b1]
        exact Rel_same h rfl rfl
      · rw [if_neg (by decide), if_pos (by decide), if_neg (by decide), ald_nI (by omega) (by omega), m_ofc (by omega) (by omega), bd_s, b2]
        exact Rel_same h rfl rfl
      · rw [if_neg (by decide), if_neg (by decide), if_pos (by decide), if_neg (by decide), ald_nI (by omega) (by omega), m_ofc (by omega) (by omega), bd_s, b3]
        exact Rel_same h rfl rfl
      · rw [if_neg (by decide), if_neg (by decide), if_neg (by decide), if_pos (by decide), if_neg (by decide), ald_nI (by omega) (by omega), m_ofc (by omega) (by omega), bd_s, b4]
        exact Rel_same h rfl rfl
      · rw [if_neg (by decide), if_neg (by decide), if_neg (by decide), if_neg (by decide), if_pos (by decide), if_neg (by decide), m_ofc (by omega) (by omega), bd_s, and1_bI (by omega), hR.2.2.2.1 q (by omega)]
        have : bI (decide (q < Q) && decide (y 101 (33 + 5 * q) = 1)) = y 101 (29 + 4 + 5 * q) := by
          rw [decide_eq_true hq]
          rcases (hW.2.2.2.2.2.2.2 q hq).2.2.2.2 with z | z
          · rw [show 29 + 4 + 5 * q = 33 + 5 * q from rfl, z]; rfl
          · rw [show 29 + 4 + 5 * q = 33 + 5 * q from rfl, z]; rfl
        rw [this]
        exact Rel_same h rfl rfl
      · obtain ⟨v, v1, v2⟩ := x_whatMay rfl hR hW hq
        obtain ⟨u, u1, u2⟩ := m_ofPlayer41 hW hq (by omega) e0
        rw [if_neg (by decide), if_neg (by decide), if_neg (by decide), if_neg (by decide), if_neg (by decide), if_pos (by decide), if_pos (by decide), v1, u1, bd_s, isB_eq v2 u2 (fun i hi => rfl)]
        exact Rel_same h rfl rfl
    · rw [dF c2]
      have hj : ∀ j, j ≤ 5 → ¬ p2 = nI j := fun j hj q => c2 ((in_nI (N := 5) (by omega)).mpr ⟨j, hj, q⟩)
      rw [if_neg (show ¬ p2 = 0 from hj 0 (by omega)), if_neg (show ¬ p2 = 1 from hj 1 (by omega)), if_neg (show ¬ p2 = 2 from hj 2 (by omega)), if_neg (show ¬ p2 = 3 from hj 3 (by omega)), if_neg (show ¬ p2 = 4 from hj 4 (by omega)), if_neg (show ¬ p2 = 5 from hj 5 (by omega))]
      exact st_fail h 1 _ _ (by omega) rfl (by decide)
  · rw [dF c1, dF c1]
    exact st_fail h 1 _ _ (by omega) rfl (by decide)
theorem full_nI : ∀ n, n ≤ 6 → ((1:Int32) <<< (nI n &&& 31)) - 1 = nI (2 ^ n - 1) := by decide +kernel
theorem set_hi {j n : Nat} (hj : j ≤ 2 ^ n - 1) {i : Nat} (hi : n ≤ i) : bt (nI j) i = false := by
  have h2 : 0 < 2 ^ n := Nat.pow_pos (by omega)
  show (BitVec.ofNat 32 j).getLsbD i = false
  rw [BitVec.getLsbD_ofNat, Nat.testBit_lt_two_pow (Nat.lt_of_lt_of_le (by omega : j < 2 ^ n) (Nat.pow_le_pow_right (by omega) hi))]
  simp
/-- what a walk over the players gathers -/
def accN (f : Nat → Int32 → Int32) : Nat → Int32
  | 0 => 0
  | k + 1 => f k (accN f k)
theorem p2_63 : ∀ n, n ≤ 6 → 2 ^ n - 1 ≤ 63 := by decide
theorem x_tells28 {x : Wd} {m Q : Nat} (hQ : Q ≤ 6) (h5 : x 2 5 = nI Q) : f_X8_tells_28 (nI m) 0 0 x = some (accN (fun i s => s ||| (if bt (nI m) i = true then x 7 i else 0)) Q, x) := by
  unfold f_X8_tells_28
  obtain ⟨s, h1, h2⟩ := lp_run (z := fun _ _ _ _ => none) (F := fun rec => fb_X8_tells_28 rec) (fun g (s : Int32) i => g (nI m) s (nI i) x) Q (fun s => some (s, x)) (fun i s => s = accN (fun i s => s ||| (if bt (nI m) i = true then x 7 i else 0)) i) (fun g i s hi hI => by
    refine ⟨_, rfl, ?_⟩
    unfold fb_X8_tells_28 f_X8_tells_66
    rw [h5, if_neg (nI_ge hi (by omega)), ald_nI (by omega) (by omega), lv_s, and1_bI (by omega), nI_1, accN, hI]
    cases hb : bt (nI m) i
    · rw [if_pos (by decide), if_neg (by decide), show ∀ z : Int32, z ||| 0 = z from fun z => Int32.or_zero]
    · rw [if_neg (fun q => q rfl), if_pos rfl]) (fun g s hI => by
    unfold fb_X8_tells_28
    rw [h5, if_pos (nI_le (Nat.le_refl _) (by omega))]) (by omega) 0 rfl
  rw [← h1]
  exact h2
theorem m_tells30 {y : Wd} {m Q : Nat} (hQ : Q ≤ 6) (h8 : y 101 8 = nI Q) : f_X9_tells_30 (nI m) 0 0 y = some (accN (fun i s => s ||| (if bt (nI m) i = true then y 101 (29 + 5 * i) else 0)) Q, y) := by
  unfold f_X9_tells_30
  obtain ⟨s, h1, h2⟩ := lp_run (z := fun _ _ _ _ => none) (F := fun rec => fb_X9_tells_30 rec) (fun g (s : Int32) i => g (nI m) s (nI i) y) Q (fun s => some (s, y)) (fun i s => s = accN (fun i s => s ||| (if bt (nI m) i = true then y 101 (29 + 5 * i) else 0)) i) (fun g i s hi hI => by
    refine ⟨_, rfl, ?_⟩
    unfold fb_X9_tells_30 f_X9_tells_60
    rw [m_r8, h8, if_neg (nI_ge hi (by omega)), m_has (by omega), bd_s, m_of0 (by omega), bd_s, lv_s, lv_s, nI_1, accN, hI]
    cases hb : bt (nI m) i
    · rw [if_pos bI_f, if_neg (by decide)]
    · rw [if_neg (by decide), if_pos rfl]) (fun g s hI => by
    unfold fb_X9_tells_30
    rw [m_r8, h8, if_pos (nI_le (Nat.le_refl _) (by omega))]) (by omega) 0 rfl
  rw [← h1]
  exact h2
theorem accN_congr {f g : Nat → Int32 → Int32} : ∀ {N : Nat}, (∀ i s, i < N → f i s = g i s) → accN f N = accN g N
  | 0, _ => rfl
  | N + 1, h => by rw [accN, accN, accN_congr (fun i s hi => h i s (by omega)), h N _ (by omega)]
theorem st_tells : St_tells Rel := by
  intro n x y p1 hn h
  obtain ⟨P, Q, hW, hR⟩ := h.1.1
  have hQ := hW.2.1
  unfold f_X8_tells f_X9_tells f_X6_allPlayers
  rw [m_r8, hW.2.2.2.1, hR.1.2.1, bd_s, x_within, m_in, bd_s, bd_s, bI_ite1, bI_ite1, full_nI Q hQ]
  by_cases c1 : 0 ≤ p1 ∧ p1 ≤ nI (2 ^ Q - 1)
  · rw [dT c1, dT c1]
    have := p2_63 Q hQ
    obtain ⟨m, hm, rfl⟩ := (in_nI (N := 2 ^ Q - 1) (by omega)).mp c1
    rw [x_tells28 hQ hR.1.2.1, m_tells30 hQ hW.2.2.2.1, accN_congr (fun i s hi => by rw [show x 7 i = y 101 (29 + 5 * i) from (hR.2.2.1 i hi).1])]
    exact Rel_same h rfl rfl
  · rw [dF c1, dF c1]
    exact st_fail h 1 _ _ (by omega) rfl (by decide)
theorem st_blocked : St_blocked Rel := by
  intro n x y hn h
  obtain ⟨P, Q, hW, hR⟩ := h.1.1
  have hQ := hW.2.1
  have hP := hW.1
  obtain ⟨n0, hn0, e0⟩ := hW.2.2.2.2.1
  have hg : ∀ p, p < P → ∃ v, f_X6_whoMay 2 x (nI p) = some v ∧ f_X9_maySet y (nI p) = some v := fun p hp => by
    obtain ⟨v, v1, v2⟩ := x_whoMay rfl hR hW hp
    obtain ⟨u, u1, u2⟩ := m_maySet (p := p) (by omega) hW.2.1 hW.2.2.2.1 (by omega) e0
    exact ⟨v, v1, by rw [u1, isB_eq v2 u2 (fun i hi => rfl)]⟩
  unfold f_X8_blocked f_X9_blocked f_X8_blocked_4 f_X9_blocked_4
  suffices hs : ∀ d i s f, i + d = P → d < f → ∃ r, lp (fun _ _ => none) (fun rec => fb_X8_blocked_4 x rec) f s (nI i) = some r ∧ lp (fun _ _ => none) (fun rec => fb_X9_blocked_4 y rec) f s (nI i) = some r by
    obtain ⟨r, r1, r2⟩ := hs P 0 0 FU (by omega) (FU_lt (by omega))
    exact ⟨r, r1, r2, Rel_mono _ _ _ h⟩
  intro d
  induction d with
  | zero =>
    intro i s f h1 h2
    obtain ⟨g, rfl⟩ : ∃ g, f = g + 1 := ⟨f - 1, by omega⟩
    have hi : i = P := by omega
    subst hi
    rw [lp_s, lp_s]
    refine ⟨s, ?_, ?_⟩
    · unfold fb_X8_blocked_4
      rw [hR.1.1, if_pos (nI_le (Nat.le_refl _) (by omega))]
    · unfold fb_X9_blocked_4
      rw [m_r3, hW.2.2.1, if_pos (nI_le (Nat.le_refl _) (by omega))]
  | succ d ih =>
    intro i s f h1 h2
    obtain ⟨g, rfl⟩ : ∃ g, f = g + 1 := ⟨f - 1, by omega⟩
    obtain ⟨v, v1, v2⟩ := hg i (by omega)
    rw [lp_s, lp_s]
    generalize hA : lp (fun _ _ => none) (fun rec => fb_X8_blocked_4 x rec) g = A at ih ⊢
    generalize hB : lp (fun _ _ => none) (fun rec => fb_X9_blocked_4 y rec) g = B at ih ⊢
    have ih' : ∀ s, ∃ r, A s (nI (i + 1)) = some r ∧ B s (nI (i + 1)) = some r := fun s => by
      rw [← hA, ← hB]
      exact ih (i + 1) s g (by omega) (by omega)
    unfold fb_X8_blocked_4 fb_X9_blocked_4 f_X8_blocked_52 f_X9_blocked_37 f_X9_blocked_38
    rw [hR.1.1, m_r3, hW.2.2.1, if_neg (nI_ge (by omega) (by omega)), if_neg (nI_ge (by omega) (by omega)), x_isEmpty hR hP (by omega), m_isEmpty (by omega) (by omega) e0, bd_s, bd_s, bI_ite1, bI_ite1, v1, v2, bd_s, bd_s, lv_s, lv_s, lv_s, nI_1, show s ||| 0 = s from Int32.or_zero]
    cases emR (y 101) i
    · rw [if_neg Bool.false_ne_true, if_neg Bool.false_ne_true]
      by_cases c : v = 0
      · rw [if_neg (fun q => q c), if_neg (fun q => q c)]; exact ih' _
      · rw [if_pos c, if_pos c]; exact ih' _
    · rw [if_pos rfl, if_pos rfl]; exact ih' _
end SE
