section SG
theorem Rel_n {n m : Nat} {x y x' y' : Wd} (h : Rel n x y) (h' : Rel m x' y') (e9 : x' 0 9 = x 0 9) (hn : n ≤ 1000) (hm : m ≤ 1000) : Rel n x' y' := by
  obtain ⟨-, ⟨k, k1, k2, -⟩, -⟩ := h
  obtain ⟨g1, ⟨k', j1, j2, j3⟩, g3⟩ := h'
  have : k' = k := by
    rw [j2, k2, nI_eq (by omega) (by omega)] at e9
    exact e9
  exact ⟨g1, ⟨k', by omega, j2, j3⟩, g3⟩
/-- the book now after a change of its rows alone -/
theorem RB_rows {x x' : Wd} {r r' : Rw} (h : RB x 1 r) (hx : ∀ k, ¬ (21 ≤ k ∧ k ≤ 24) → x' k = x k) (hr : ∀ i, i ≠ 4 → i ≠ 5 → ¬ (59 ≤ i ∧ i < 129) → r' i = r i) (hT : ∃ t, t ≤ 50 ∧ r' 4 = nI t ∧ x' 21 1 = nI t ∧ ∀ i, i < t → x' 22 i = r' (59 + i) ∧ byB (r' (59 + i))) (hV : ∃ t, t ≤ 20 ∧ r' 5 = nI t ∧ x' 23 1 = nI t ∧ ∀ i, i < t → x' 24 i = r' (109 + i)) : RB x' 1 r' := by
  obtain ⟨⟨P, Q, h1, h2⟩, h3, h4, h5, h6, -, -⟩ := h
  refine ⟨⟨P, Q, ?_, ?_⟩, by rw [hr 0 (by omega) (by omega) (by omega)]; exact h3, RLw_congr (hx _ (by omega)) (hx _ (by omega)) (hx _ (by omega)) (hr _ (by omega) (by omega) (by omega)) (fun i _ => hr _ (by omega) (by omega) (by omega)) h4, RLw_congr (hx _ (by omega)) (hx _ (by omega)) (hx _ (by omega)) (hr _ (by omega) (by omega) (by omega)) (fun i _ => hr _ (by omega) (by omega) (by omega)) h5, by rw [hx 1 (by omega), hr 2 (by omega) (by omega) (by omega)]; exact h6, hT, hV⟩
  · obtain ⟨w1, w2, w3, w4, w5, w6, w7, w8⟩ := h1
    refine ⟨w1, w2, by rw [hr _ (by omega) (by omega) (by omega)]; exact w3, by rw [hr _ (by omega) (by omega) (by omega)]; exact w4, by rw [hr _ (by omega) (by omega) (by omega)]; exact w5, by rw [hr _ (by omega) (by omega) (by omega)]; exact w6, fun p hp => ?_, fun q hq => ?_⟩
    · rw [hr _ (by omega) (by omega) (by omega), hr _ (by omega) (by omega) (by omega), hr _ (by omega) (by omega) (by omega), hr _ (by omega) (by omega) (by omega)]
      exact w7 p hp
    · rw [hr _ (by omega) (by omega) (by omega), hr _ (by omega) (by omega) (by omega), hr _ (by omega) (by omega) (by omega), hr _ (by omega) (by omega) (by omega), hr _ (by omega) (by omega) (by omega)]
      exact w8 q hq
  · have w1 := h1.1
    have w2 := h1.2.1
    obtain ⟨⟨a1, a2, a3, a4⟩, c1, c2, c3, c4, c5⟩ := h2
    refine ⟨⟨?_, ?_, ?_, ?_⟩, fun p hp => ?_, fun q hq => ?_, fun i hi => ?_, fun p q1 q2 => ?_, fun q q1 q2 => ?_⟩
    · rw [hx _ (by omega)]; exact a1
    · rw [hx _ (by omega)]; exact a2
    · rw [hx _ (by omega), hr _ (by omega) (by omega) (by omega)]; exact a3
    · rw [hx _ (by omega), hr _ (by omega) (by omega) (by omega)]; exact a4
    · rw [hx _ (by omega), hx _ (by omega), hx _ (by omega), hx _ (by omega), hr _ (by omega) (by omega) (by omega), hr _ (by omega) (by omega) (by omega), hr _ (by omega) (by omega) (by omega), hr _ (by omega) (by omega) (by omega)]
      exact c1 p hp
    · rw [hx _ (by omega), hx _ (by omega), hx _ (by omega), hx _ (by omega), hr _ (by omega) (by omega) (by omega), hr _ (by omega) (by omega) (by omega), hr _ (by omega) (by omega) (by omega), hr _ (by omega) (by omega) (by omega)]
      exact c2 q hq
    · rw [hx _ (by omega), c3 i hi]
      by_cases hq : i < Q
      · rw [hr _ (by omega) (by omega) (by omega)]
      · simp [hq]
    · rw [hx _ (by omega)]; exact c4 p q1 q2
    · rw [hx _ (by omega), hx _ (by omega)]; exact c5 q q1 q2
theorem Rel_rows {n : Nat} {x y x' y' : Wd} (h : Rel n x y) (hx : ∀ k, ¬ (21 ≤ k ∧ k ≤ 24) → x' k = x k) (hy : ∀ k, k ≠ 101 → y' k = y k) (hr : ∀ i, i ≠ 4 → i ≠ 5 → ¬ (59 ≤ i ∧ i < 129) → y' 101 i = y 101 i) (hT : ∃ t, t ≤ 50 ∧ y' 101 4 = nI t ∧ x' 21 1 = nI t ∧ ∀ i, i < t → x' 22 i = y' 101 (59 + i) ∧ byB (y' 101 (59 + i))) (hV : ∃ t, t ≤ 20 ∧ y' 101 5 = nI t ∧ x' 23 1 = nI t ∧ ∀ i, i < t → x' 24 i = y' 101 (109 + i)) : Rel (n + 1) x' y' := by
  obtain ⟨m1, m2, m3, m4⟩ := keepM_y hy
  exact Rel_of h (RB_rows h.1 hx hr hT hV) (fun k hk => hx k (by unfold keepX at hk; omega)) m1 m2 m3 m4
theorem x_add21 {x : Wd} {t : Nat} {v : Int32} (ht : t < 50) (h : x 21 1 = nI t) : f_X4_add 21 v x = some (updW (updW x 22 t v) 21 1 (nI (t + 1))) := by
  unfold f_X4_add
  rw [h, show rlen 21 = 50 from rfl, if_neg (nI_ge ht (by omega)), ast_nI ht (by omega), wl_s, updW_cell (by omega), h, nI_1]
theorem x_add23 {x : Wd} {t : Nat} {v : Int32} (ht : t < 20) (h : x 23 1 = nI t) : f_X4_add 23 v x = some (updW (updW x 24 t v) 23 1 (nI (t + 1))) := by
  unfold f_X4_add
  rw [h, show rlen 23 = 20 from rfl, if_neg (nI_ge ht (by omega)), ast_nI ht (by omega), wl_s, updW_cell (by omega), h, nI_1]
theorem Rel_add {n : Nat} {x y : Wd} {t : Nat} {v : Int32} (h : Rel n x y) (h4 : y 101 4 = nI t) (ht : t < 50) (hv : byB v) : Rel (n + 1) (updW (updW x 22 t v) 21 1 (nI (t + 1))) (updW (updW y 101 (59 + t) v) 101 4 (nI (t + 1))) := by
  obtain ⟨t', t1, t2, t3, t4⟩ := h.1.2.2.2.2.2.1
  obtain ⟨s, s1, s2, s3, s4⟩ := h.1.2.2.2.2.2.2
  have : t' = t := by rw [h4, nI_eq (by omega) (by omega)] at t2; exact t2.symm
  subst this
  refine Rel_rows h (fun k hk => by rw [updW_cell (by omega), updW_cell (by omega)]) (fun k hk => by rw [updW_cell hk, updW_cell hk]) (fun i i1 i2 i3 => by rw [updW_place (by omega), updW_place (by omega)]) ⟨t' + 1, by omega, updW_self _ _ _ _, updW_self _ _ _ _, fun i hi => ?_⟩ ⟨s, s1, ?_, ?_, fun i hi => ?_⟩
  · rw [updW_cell (by omega), updW_get, updW_place (by omega), updW_get]
    by_cases q : i = t'
    · rw [if_pos ⟨rfl, q⟩, if_pos ⟨rfl, by omega⟩]
      exact ⟨rfl, hv⟩
    · rw [if_neg (fun z => q z.2), if_neg (fun z => q (by omega))]
      exact t4 i (by omega)
  · rw [updW_place (by omega), updW_place (by omega)]; exact s2
  · rw [updW_cell (by omega), updW_cell (by omega)]; exact s3
  · rw [updW_cell (by omega), updW_cell (by omega), updW_place (by omega), updW_place (by omega)]; exact s4 i hi
theorem st_tell : St_tell Rel := by
  intro n x y p1 hn h
  obtain ⟨t, t1, t2, t3, t4⟩ := h.1.2.2.2.2.2.1
  obtain ⟨s, s1, s2, s3, s4⟩ := h.1.2.2.2.2.2.2
  unfold f_X8_tell f_X9_tell
  rw [show x 23 1 = nI s from s3, m_r5, s2]
  by_cases c : s = 20
  · subst c
    rw [if_neg (by decide), if_neg (fun q => q rfl)]
    exact st_fail h 4 _ _ (by omega) rfl (by decide)
  · have l : nI s < nI 20 := nI_lt (by omega) (by omega)
    have e20 : ¬ nI s = 20 := by rw [show (20:Int32) = nI 20 from rfl, nI_eq (by omega) (by omega)]; exact c
    rw [if_pos (show nI s < 20 from l), if_pos e20, x_add23 (by omega) s3, bd_s, m_r5, s2, show (109:Int32) + nI s = nI (109 + s) from by rw [show (109:Int32) = nI 109 from rfl, nI_add], ast_nI (by omega) (by omega), m_r5, m_s5, m_r5, show updW y 101 (109 + s) p1 101 5 = nI s from by rw [updW_place (by omega)]; exact s2, nI_1]
    refine ⟨nI (s + 1), _, updW (updW y 101 (109 + s) p1) 101 5 (nI (s + 1)), by rw [updW_self], by rw [updW_self], ?_⟩
    refine Rel_rows h (fun k hk => by rw [updW_cell (by omega), updW_cell (by omega)]) (fun k hk => by rw [updW_cell hk, updW_cell hk]) (fun i i1 i2 i3 => by rw [updW_place (by omega), updW_place (by omega)]) ⟨t, t1, ?_, ?_, fun i hi => ?_⟩ ⟨s + 1, by omega, updW_self _ _ _ _, updW_self _ _ _ _, fun i hi => ?_⟩
    · rw [updW_place (by omega), updW_place (by omega)]; exact t2
    · rw [updW_cell (by omega), updW_cell (by omega)]; exact t3
    · rw [updW_cell (by omega), updW_cell (by omega), updW_place (by omega), updW_place (by omega)]; exact t4 i hi
    · rw [updW_cell (by omega), updW_get, updW_place (by omega), updW_get]
      by_cases q : i = s
      · rw [if_pos ⟨rfl, q⟩, if_pos ⟨rfl, by omega⟩]
      · rw [if_neg (fun z => q z.2), if_neg (fun z => q (by omega))]
        exact s4 i (by omega)
theorem sL_u : ∀ k, k < 8 → (((8 * nI k).toInt64.toUInt64 &&& Int64.toUInt64 63).toBitVec % 64).toNat = 8 * k := by decide +kernel
theorem sL_s : ∀ k, k < 8 → (((8 * nI k).toInt64 &&& 63).toBitVec.smod 64).toNat = 8 * k := by decide +kernel
theorem b_toI32 (z : Int64) {i : Nat} (hi : i < 32) : bt z.toInt32 i = z.toBitVec.getLsbD i := by
  unfold bt
  show (z.toBitVec.signExtend 32).getLsbD i = _
  rw [BitVec.getLsbD_signExtend]
  simp [hi, (by omega : i < 64)]
theorem b_255L : ∀ i, i < 32 → (255:Int64).toBitVec.getLsbD i = decide (i < 8) := by decide +kernel
theorem byte_eq (p : Int64) {k : Nat} (hk : k < 8) : (lushr p (8 * nI k)).toInt32 &&& 255 = (lshr p (8 * nI k) &&& 255).toInt32 := by
  apply b_ext
  intro i hi
  rw [b_and, b_255, b_toI32 _ hi, b_toI32 _ hi, Int64.toBitVec_and, BitVec.getLsbD_and, b_255L i hi]
  by_cases h8 : i < 8
  · have e1 : (lushr p (8 * nI k)).toBitVec.getLsbD i = p.toBitVec.getLsbD (8 * k + i) := by
      show (p.toUInt64 >>> ((8 * nI k).toInt64.toUInt64 &&& Int64.toUInt64 63)).toBitVec.getLsbD i = _
      rw [UInt64.toBitVec_shiftRight]
      show (p.toUInt64.toBitVec >>> (((8 * nI k).toInt64.toUInt64 &&& Int64.toUInt64 63).toBitVec % 64).toNat).getLsbD i = _
      rw [sL_u k hk, BitVec.getLsbD_ushiftRight]
      rfl
    have e2 : (lshr p (8 * nI k)).toBitVec.getLsbD i = p.toBitVec.getLsbD (8 * k + i) := by
      unfold lshr
      rw [Int64.toBitVec_shiftRight]
      show (p.toBitVec.sshiftRight (((8 * nI k).toInt64 &&& 63).toBitVec.smod 64).toNat).getLsbD i = _
      rw [sL_s k hk, BitVec.getLsbD_sshiftRight]
      simp [(by omega : ¬ 64 ≤ i), (by omega : 8 * k + i < 64)]
      intro _
      omega
    rw [e1, e2]
  · simp [h8]
theorem ix_59 (t : Nat) : (59:Int32) + nI t = nI (59 + t) := by rw [show (59:Int32) = nI 59 from rfl, nI_add]
theorem st_feed : St_feed Rel := by
  intro n x y p1 p3 hn h
  obtain ⟨t, t1, t2, t3, t4⟩ := h.1.2.2.2.2.2.1
  unfold f_X8_feed f_X9_feed
  rw [x_within, m_in, bd_s, bd_s, bI_ite1, bI_ite1]
  by_cases c : (1:Int32) ≤ p3 ∧ p3 ≤ 8
  · rw [dT c, dT c, m_r4, t2, show x 21 1 = nI t from t3]
    obtain ⟨m, hm1, hm, rfl⟩ := (in_rng (a := p3) (M := 1) (N := 8) (by omega) (by omega)).mp c
    rw [nI_add]
    by_cases c2 : t + m ≤ 50
    · have l : nI (t + m) ≤ nI 50 := nI_le c2 (by omega)
      rw [if_pos (show nI (t + m) ≤ 50 from l), if_pos (show nI (t + m) ≤ 50 from l)]
      unfold f_X8_feed_42 f_X9_feed_40
      suffices hs : ∀ d i x y f, i + d = m → d < f → Rel n x y → y 101 4 = nI (t + i) → ∃ r x' y', lp (fun _ _ _ _ => none) (fun rec => fb_X8_feed_42 rec) f p1 (nI m) (nI i) x = some (r, x') ∧ lp (fun _ _ _ _ => none) (fun rec => fb_X9_feed_40 rec) f p1 (nI m) (nI i) y = some (r, y') ∧ Rel (n + 1) x' y' from hs m 0 x y FU (by omega) (FU_lt (by omega)) h t2
      clear h t2 t3 t4
      intro d
      induction d with
      | zero =>
        intro i x y f h1 h2 hR h4
        obtain ⟨g, rfl⟩ : ∃ g, f = g + 1 := ⟨f - 1, by omega⟩
        have hi : i = m := by omega
        subst hi
        rw [lp_s, lp_s]
        obtain ⟨t', t1', t2', t3', -⟩ := hR.1.2.2.2.2.2.1
        unfold fb_X8_feed_42 fb_X9_feed_40 f_X9_feed_88
        rw [if_pos (nI_le (Nat.le_refl _) (by omega)), if_pos (nI_le (Nat.le_refl _) (by omega)), m_r4, show x 21 1 = nI t' from t3', t2']
        exact Rel_same hR rfl rfl
      | succ d ih =>
        intro i x y f h1 h2 hR h4
        obtain ⟨g, rfl⟩ : ∃ g, f = g + 1 := ⟨f - 1, by omega⟩
        rw [lp_s, lp_s]
        obtain ⟨t', t1', t2', t3', -⟩ := hR.1.2.2.2.2.2.1
        have et : t' = t + i := by rw [h4, nI_eq (by omega) (by omega)] at t2'; exact t2'.symm
        subst et
        generalize hA : lp (fun _ _ _ _ => none) (fun rec => fb_X8_feed_42 rec) g = A at ih ⊢
        generalize hB : lp (fun _ _ _ _ => none) (fun rec => fb_X9_feed_40 rec) g = B at ih ⊢
        unfold fb_X8_feed_42 fb_X9_feed_40
        rw [if_neg (nI_ge (by omega) (by omega)), if_neg (nI_ge (by omega) (by omega)), x_add21 (by omega) t3', bd_s, m_r4, h4, ix_59, ast_nI (by omega) (by omega), m_r4, m_s4, show ∀ v, updW y 101 (59 + (t + i)) v 101 4 = nI (t + i) from fun v => by rw [updW_place (by omega)]; exact h4, nI_1, nI_1, byte_eq p1 (by omega)]
        have hR' := Rel_add (v := (lshr p1 (8 * nI i) &&& 255).toInt32) hR h4 (by omega) (by
          rw [← byte_eq p1 (by omega)]
          exact fun k hk h8 => by rw [b_and, b_255, decide_eq_false (by omega), Bool.and_false])
        have hRn := Rel_n hR hR' (by rw [updW_cell (by omega), updW_cell (by omega)]) (by omega) (by omega)
        rw [← hA, ← hB]
        exact ih (i + 1) _ _ g (by omega) (by omega) hRn (updW_self _ _ _ _)
    · have l : ¬ nI (t + m) ≤ nI 50 := nI_ge (by omega) (by omega)
      rw [if_neg (show ¬ nI (t + m) ≤ 50 from l), if_neg (show ¬ nI (t + m) ≤ 50 from l)]
      exact st_fail h 4 _ _ (by omega) rfl (by decide)
  · rw [dF c, dF c]
    exact st_fail h 1 _ _ (by omega) rfl (by decide)
end SG
