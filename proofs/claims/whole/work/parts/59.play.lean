section PL
theorem bc_64 : ∀ n, n < 64 → f_J6_bitCount_0f7a4 (nI n) = some (nI (cntB (bt (nI n)) 6)) := by decide +kernel
theorem bc_bits {v : Int32} (h : ∀ i, i < 32 → 6 ≤ i → bt v i = false) : f_J6_bitCount_0f7a4 v = some (nI (cntB (bt v) 6)) := by
  have hv : v = nI v.toBitVec.toNat := by
    apply Int32.toBitVec_inj.mp
    show v.toBitVec = BitVec.ofNat 32 v.toBitVec.toNat
    simp
  have hn : v.toBitVec.toNat < 64 := Nat.lt_pow_two_of_testBit (n := 6) _ (fun i hi => by
    rcases Nat.lt_or_ge i 32 with q | q
    · exact h i q hi
    · exact b_big q)
  have := bc_64 v.toBitVec.toNat hn
  rw [← hv] at this
  exact this
theorem cntB_congr {f g : Nat → Bool} : ∀ {k : Nat}, (∀ i, i < k → f i = g i) → cntB f k = cntB g k
  | 0, _ => rfl
  | k + 1, h => by rw [cntB, cntB, cntB_congr (fun i hi => h i (by omega)), h k (by omega)]
theorem x_claps {s : Wd} {t P Q p : Nat} {r : Rw} (ht : t = 2 ∨ t = 49) (hQ : Q ≤ 6) (hP : P ≤ 5) (hp : p < P) (h5 : s t 5 = nI Q) (h2 : s (t + 2) p = r (10 + 4 * p)) (h3 : s (t + 3) p = r (11 + 4 * p)) (hk : ∀ q, q < Q → s (t + 5) q = r (29 + 5 * q)) (hl : RLw s 11 r 0) : ∃ s', f_X6_clapsFor t 11 (nI p) s = some (CLv r Q p, s') ∧ ∀ k, k ≠ 14 → k ≠ 15 → s' k = s k := by
  have ht' : isTr t = true := by rcases ht with rfl | rfl <;> rfl
  obtain ⟨v, v1, v2⟩ := x_whoKnow (x := s) (p := p) ht' hQ h5 (by omega)
  have hc : f_J6_bitCount_0f7a4 v = some (nI (cntB (fun q => decide (q < Q) && knR r q p) 6)) := by
    rw [bc_bits (fun i hi h6 => by rw [v2 i hi, decide_eq_false (by omega)]; rfl)]
    congr 2
    refine cntB_congr (fun i hi => ?_)
    rw [v2 i (by omega)]
    by_cases e : i < Q
    · show (decide (i < Q) && bt (s (t + 5) i) p) = _
      rw [hk i e]; rfl
    · rw [decide_eq_false e]; rfl
  obtain ⟨s', g1, g2⟩ := x_gives (x := s) (Or.inl ⟨rfl, rfl⟩) hl (r (11 + 4 * p)) (r (10 + 4 * p)) (nI (cntB (fun q => decide (q < Q) && knR r q p) 6))
  refine ⟨s', ?_, g2⟩
  unfold f_X6_clapsFor
  rw [ald_nI (by omega) (by omega), ald_nI (by omega) (by omega), h3, h2, v1, bd_s, hc, bd_s, g1, bd_s]
  rfl
theorem x_wage {s : Wd} {t P Q p q : Nat} {r : Rw} (hQ : Q ≤ 6) (hW : WF r P Q) (hp : p < P) (hq : q < Q) (h12 : s t 12 = r 0) (h3 : s (t + 3) p = r (11 + 4 * p)) (h6 : s (t + 6) q = r (30 + 5 * q)) (hl : RLw s 16 r 1) : ∃ s', f_X6_wageFor t 16 (nI p) (nI q) s = some (WGv r p q, s') ∧ ∀ k, k ≠ 19 → k ≠ 20 → s' k = s k := by
  have hP := hW.1
  have hc : f_J6_bitCount_0f7a4 (r (30 + 5 * q)) = some (nI (cntB (bt (r (30 + 5 * q))) 6)) := bc_bits (fun i hi h6 => (hW.2.2.2.2.2.2.2 q hq).2.1 i (by omega))
  obtain ⟨s', g1, g2⟩ := x_gives (x := s) (Or.inr ⟨rfl, rfl⟩) hl (r (11 + 4 * p)) (nI (cntB (bt (r (30 + 5 * q))) 6)) (r 0)
  refine ⟨s', ?_, g2⟩
  unfold f_X6_wageFor
  rw [ald_nI (by omega) (by omega), ald_nI (by omega) (by omega), h3, h6, hc, bd_s, h12, g1, bd_s]
  rfl
theorem x_partsIn {s : Wd} {t b1 P q : Nat} {f : Nat → Int32} (h0 : s t 0 = nI P) (hP : P ≤ 5) (hl : 5 ≤ lenX b1 ∧ lenX b1 ≤ 1000) (hf : ∀ j, j < P → s b1 j = f j) : ∃ v, f_X6_partsIn t b1 s (nI q) = some v ∧ isB v P (fun i => decide (f i = nI q)) := by
  unfold f_X6_partsIn f_X6_partsIn_5
  obtain ⟨v, h1, h2⟩ := lp_run (z := fun _ _ _ => none) (F := fun rec => fb_X6_partsIn_5 t b1 s rec) (fun g (v : Int32) i => g (nI q) v (nI i)) P some (fun i v => isB v i (fun i => decide (f i = nI q))) (fun g i v hi hI => by
    refine ⟨_, isB_or (by omega) hI, ?_⟩
    unfold fb_X6_partsIn_5 f_X6_partsIn_29
    rw [h0, if_neg (nI_ge hi (by omega)), ald_nI (by omega) (by omega), lv_s, nI_1, hf i hi]
    by_cases e : f i = nI q
    · rw [if_neg (fun z => z e), decide_eq_true e]; rfl
    · rw [if_pos e, decide_eq_false e, ← sh_b (by omega), if_neg (by decide)]
      rw [show v ||| 0 = v from Int32.or_zero]) (fun g v hI => by
    unfold fb_X6_partsIn_5
    rw [h0, if_pos (nI_le (Nat.le_refl _) (by omega))]) (by omega) 0 isB_0
  exact ⟨v, h2, h1⟩
theorem RLw_frame {x s : Wd} {L u : Nat} {r : Rw} (h : RLw x L r u) (h0 : s L = x L) (h1 : s (L + 1) = x (L + 1)) (h2 : s (L + 2) = x (L + 2)) : RLw s L r u := RLw_congr h0 h1 h2 rfl (fun _ _ => rfl) h
/-- the payments of a night -/
theorem x_pay {x : Wd} {t b1 P Q : Nat} {r : Rw} {f : Nat → Int32} (ht : t = 2 ∨ t = 49) (hR : RT x t r P Q) (hW : WF r P Q) (hl0 : RLw x 11 r 0) (hl1 : RLw x 16 r 1) (hb : b1 = 59 ∨ ∃ s, s < 4 ∧ b1 = 72 + 2 * s) (hl : 5 ≤ lenX b1 ∧ lenX b1 ≤ 1000) (hf : ∀ j, j < P → x b1 j = f j) (hRF : RF f P Q) :
    ∃ s, (∀ c, c ≠ t + 4 → c ≠ t + 8 → c ≠ 14 → c ≠ 15 → c ≠ 19 → c ≠ 20 → s c = x c) ∧ (∀ p, p < P → s (t + 4) p = apF r Q f P p) ∧ (∀ p, P ≤ p → s (t + 4) p = x (t + 4) p) ∧ (∀ q, q < Q → s (t + 8) q = puF r f q P) ∧ (∀ q, Q ≤ q → s (t + 8) q = x (t + 8) q) ∧ f_X6_play t b1 11 16 x = f_X6_play_90 t b1 11 16 s := by
  have hP := hW.1
  have hQ := hW.2.1
  have hb59 : 59 ≤ b1 := by
    rcases hb with h | ⟨s, h1, h2⟩ <;> omega
  obtain ⟨⟨e0, e5, e11, e12⟩, hp1, hq1, -, -, -⟩ := hR
  unfold f_X6_play f_X6_play_3
  obtain ⟨s, ⟨i1, i2, i3, i4, i5⟩, h4⟩ := lp_run (z := fun _ _ => none) (F := fun rec => fb_X6_play_3 t b1 11 16 rec) (fun g (s : Wd) i => g (nI i) s) P (fun s => f_X6_play_90 t b1 11 16 s) (fun j s => (∀ c, c ≠ t + 4 → c ≠ t + 8 → c ≠ 14 → c ≠ 15 → c ≠ 19 → c ≠ 20 → s c = x c) ∧ (∀ p, p < P → s (t + 4) p = apF r Q f j p) ∧ (∀ p, P ≤ p → s (t + 4) p = x (t + 4) p) ∧ (∀ q, q < Q → s (t + 8) q = puF r f q j) ∧ (∀ q, Q ≤ q → s (t + 8) q = x (t + 8) q)) (fun g j s hj hI => by
    obtain ⟨i1, i2, i3, i4, i5⟩ := hI
    have hs : ∀ c, c ≠ t + 4 → c ≠ t + 8 → c ≠ 14 → c ≠ 15 → c ≠ 19 → c ≠ 20 → s c = x c := i1
    unfold fb_X6_play_3 f_X6_play_84
    rw [i1 t (by omega) (by omega) (by omega) (by omega) (by omega) (by omega), e0, if_neg (nI_ge hj (by omega)), ald_nI (by omega) (by omega), i1 b1 (by omega) (by omega) (by omega) (by omega) (by omega) (by omega), hf j hj]
    have h5 : s t 5 = nI Q := by rw [i1 t (by omega) (by omega) (by omega) (by omega) (by omega) (by omega)]; exact e5
    rw [x_hasPlayer h5 hQ, bd_s, bI_ite0]
    rcases hRF j hj with hfj | ⟨q, hq, hfj⟩
    · refine ⟨s, ⟨i1, fun p hp => ?_, i3, fun q hq => ?_, i5⟩, ?_⟩
      · rw [i2 p hp]
        unfold apF
        by_cases e : p = j
        · subst e
          rw [if_neg (by omega), if_neg (fun z => z.2 (by rw [hfj]; decide))]
        · have : (p < j ∧ ¬ f p < 0) = (p < j + 1 ∧ ¬ f p < 0) := propext ⟨fun z => ⟨by omega, z.2⟩, fun z => ⟨by omega, z.2⟩⟩
          simp only [this]
      · rw [i4 q hq, puF, hfj, if_neg (neg1 (by omega))]
      · rw [hfj, dF (fun z => absurd z.1 (by decide)), nI_1]
    · rw [hfj, dT ((le_pred (N := Q) (by omega)).mpr ⟨q, hq, rfl⟩), ald_nI (by omega) (by omega)]
      obtain ⟨b1', b2', b3', -⟩ := hp1 j hj
      have c2 : s (t + 2) = x (t + 2) := i1 _ (by omega) (by omega) (by omega) (by omega) (by omega) (by omega)
      have c3 : s (t + 3) = x (t + 3) := i1 _ (by omega) (by omega) (by omega) (by omega) (by omega) (by omega)
      have c5 : s (t + 5) = x (t + 5) := i1 _ (by omega) (by omega) (by omega) (by omega) (by omega) (by omega)
      have c6 : s (t + 6) = x (t + 6) := i1 _ (by omega) (by omega) (by omega) (by omega) (by omega) (by omega)
      obtain ⟨s1, g1, g2⟩ := x_claps (s := s) (r := r) (P := P) (Q := Q) ht hQ hP hj h5 (by rw [c2]; exact b2') (by rw [c3]; exact b3') (fun q' hq' => by rw [c5]; exact (hq1 q' hq').1) (RLw_frame hl0 (i1 _ (by omega) (by omega) (by omega) (by omega) (by omega) (by omega)) (i1 _ (by omega) (by omega) (by omega) (by omega) (by omega) (by omega)) (i1 _ (by omega) (by omega) (by omega) (by omega) (by omega) (by omega)))
      rw [g1, bd_s, ast_nI (by omega) (by omega), ald_nI (by omega) (by omega)]
      have hcell : ∀ v c, c ≠ t + 4 → c ≠ t + 8 → c ≠ 14 → c ≠ 15 → c ≠ 19 → c ≠ 20 → updW s1 (t + 4) j v c = x c := fun v c a1 a2 a3 a4 a5 a6 => by rw [updW_cell a1, g2 c a3 a4]; exact i1 c a1 a2 a3 a4 a5 a6
      have es14 : s1 (t + 4) = s (t + 4) := g2 _ (by omega) (by omega)
      generalize hv : mmin (s (t + 4) j + CLv r Q j) 99999 = v at *
      obtain ⟨s2, k1, k2⟩ := x_wage (s := updW s1 (t + 4) j v) (t := t) (r := r) (P := P) (Q := Q) hQ hW hj hq (by rw [hcell _ t (by omega) (by omega) (by omega) (by omega) (by omega) (by omega)]; exact e12) (by rw [hcell _ (t + 3) (by omega) (by omega) (by omega) (by omega) (by omega) (by omega)]; exact b3') (by rw [hcell _ (t + 6) (by omega) (by omega) (by omega) (by omega) (by omega) (by omega)]; exact (hq1 q hq).2.1) (RLw_frame hl1 (hcell _ _ (by omega) (by omega) (by omega) (by omega) (by omega) (by omega)) (hcell _ _ (by omega) (by omega) (by omega) (by omega) (by omega) (by omega)) (hcell _ _ (by omega) (by omega) (by omega) (by omega) (by omega) (by omega)))
      rw [k1, bd_s, ast_nI (by omega) (by omega), nI_1]
      have e8 : updW s1 (t + 4) j v (t + 8) q = puF r f q j := by rw [updW_cell (by omega), g2 _ (by omega) (by omega)]; exact i4 q hq
      rw [e8]
      have es4 : s2 (t + 4) = updW s1 (t + 4) j v (t + 4) := k2 _ (by omega) (by omega)
      have es8 : s2 (t + 8) = s (t + 8) := by rw [k2 _ (by omega) (by omega), updW_cell (by omega), g2 _ (by omega) (by omega)]
      refine ⟨updW s2 (t + 8) q (mmin (puF r f q j + WGv r j q) 9999), ⟨fun c a1 a2 a3 a4 a5 a6 => by rw [updW_cell a2, k2 c a5 a6]; exact hcell _ c a1 a2 a3 a4 a5 a6, fun p hp => ?_, fun p hp => ?_, fun q' hq' => ?_, fun q' hq' => ?_⟩, rfl⟩
      · rw [updW_cell (by omega), es4, updW_get]
        by_cases e : p = j
        · subst e
          rw [if_pos ⟨rfl, rfl⟩, ← hv, i2 p hp]
          unfold apF
          rw [if_neg (fun z => absurd z.1 (Nat.lt_irrefl _)), if_pos ⟨by omega, by rw [hfj]; exact nI_pos (by omega)⟩]
        · rw [if_neg (fun z => e z.2), es14, i2 p hp]
          unfold apF
          have : (p < j ∧ ¬ f p < 0) = (p < j + 1 ∧ ¬ f p < 0) := propext ⟨fun z => ⟨by omega, z.2⟩, fun z => ⟨by omega, z.2⟩⟩
          simp only [this]
      · rw [updW_cell (by omega), es4, updW_place (by omega), es14]
        exact i3 p hp
      · rw [updW_get, es8]
        by_cases e : q' = q
        · subst e
          rw [if_pos ⟨rfl, rfl⟩, puF, if_pos hfj]
        · rw [if_neg (fun z => e z.2), i4 q' hq', puF, hfj, if_neg (fun z => by rw [nI_eq (by omega) (by omega)] at z; omega)]
      · rw [updW_place (by omega), es8]
        exact i5 q' hq') (fun g s hI => by
    unfold fb_X6_play_3
    rw [hI.1 t (by omega) (by omega) (by omega) (by omega) (by omega) (by omega), e0, if_pos (nI_le (Nat.le_refl _) (by omega))]) (by omega) x ⟨fun c _ _ _ _ _ _ => rfl, fun p hp => by
      unfold apF
      rw [if_neg (fun z => absurd z.1 (by omega))]
      exact (hp1 p hp).2.2.2, fun _ _ => rfl, fun q hq => (hq1 q hq).2.2.2, fun _ _ => rfl⟩
  exact ⟨s, i1, i2, i3, i4, i5, h4⟩
end PL
