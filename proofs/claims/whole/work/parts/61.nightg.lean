section NG
theorem m_rowN {α : Type} {y : Wd} {i : Nat} {K : Int32 → Option α} (h : i < 229) : ald y 101 229 (nI i) K = K (y 101 i) := ald_nI h (by omega)
theorem m_ofc' {y : Wd} {q c : Nat} (hq : q < 30) (hc : c ≤ 4) : f_X9_of y (nI q) (nI c) = some (y 101 (29 + 5 * q + c)) := m_of (by omega)
/-- one part of a night, played by q -/
theorem m_nstep {g : Int32 → Wd → Option Wd} {x s : Wd} {P Q j q : Nat} {r : Rw} {f : Nat → Int32} (hW : WF r P Q) (hl0 : RLw x 11 r 0) (hl1 : RLw x 16 r 1) (hj : j < P) (hq : q < Q) (hf : f j = nI q) (h106 : s 106 j = f j) (h108 : s 108 q = nI (cntB (bt (r (30 + 5 * q))) 6)) (h109 : s 109 j = nI (cntB (fun q => decide (q < Q) && knR r q j) 6)) (hN : NR r P Q f j (s 101)) :
    ∃ s', fb_X9_nightGoes_68 g (nI j) s = g (nI (j + 1)) s' ∧ NR r P Q f (j + 1) (s' 101) ∧ (∀ k, k ≠ 100 → k ≠ 101 → s' k = s k) ∧ ∀ i, (i < 7 ∨ 14 < i) → s' 100 i = s 100 i := by
  have hP := hW.1
  have hQ := hW.2.1
  have hN0 := hN
  obtain ⟨n1, n2, n3⟩ := hN
  obtain ⟨a1, a2, a3, a4⟩ := n1 j hj
  obtain ⟨c1, c2, c3, c4, c5⟩ := n2 q hq
  have h3 : s 101 3 = nI P := by rw [n3 3 (by omega)]; exact hW.2.2.1
  have hL0 : RLw x 11 (s 101) 0 := RLw_congr rfl rfl rfl (n3 _ (by omega)) (fun i hi => n3 _ (by omega)) hl0
  obtain ⟨y1, g1, g2, g3⟩ := m_lawOf (y := s) (u := 0) (by omega) hL0 (r (11 + 4 * j)) (r (10 + 4 * j)) (nI (cntB (fun q => decide (q < Q) && knR r q j) 6))
  rw [lawV_congr (r := r) (fun i hi => n3 i (by omega))] at g1
  have hCL : lawV r 0 (r (11 + 4 * j)) (r (10 + 4 * j)) (nI (cntB (fun q => decide (q < Q) && knR r q j) 6)) = CLv r Q j := rfl
  rw [hCL] at g1
  have e101 : y1 101 = s 101 := g2 101 (by omega)
  have eap : apF r Q f j j = r (12 + 4 * j) := if_neg (fun z => absurd z.1 (Nat.lt_irrefl _))
  obtain ⟨ka, hka, eka⟩ := (hW.2.2.2.2.2.2.1 j hj).2.2.2
  obtain ⟨kc, hkc, ekc⟩ := lawV_rng r 0 (r (11 + 4 * j)) (r (10 + 4 * j)) (nI (cntB (fun q => decide (q < Q) && knR r q j) 6))
  rw [hCL] at ekc
  obtain ⟨kp, hkp, ekp⟩ := pu_rng (f := f) hW hq j
  obtain ⟨kw, hkw, ekw⟩ := lawV_rng r 1 (r (11 + 4 * j)) (nI (cntB (bt (r (30 + 5 * q))) 6)) (r 0)
  have hWG : lawV r 1 (r (11 + 4 * j)) (nI (cntB (bt (r (30 + 5 * q))) 6)) (r 0) = WGv r j q := rfl
  rw [hWG] at ekw
  -- the applause
  have hheld1 : f_X9_held (r (12 + 4 * j) + CLv r Q j) 0 99999 = some (mmin (r (12 + 4 * j) + CLv r Q j) 99999) := by
    rw [eka, ekc]
    exact m_held_min (M := 99999) (by omega) (by omega) (by omega)
  have hheld2 : f_X9_held (puF r f q j + WGv r j q) 0 9999 = some (mmin (puF r f q j + WGv r j q) 9999) := by
    rw [ekp, ekw]
    exact m_held_min (M := 9999) (by omega) (by omega) (by omega)
  generalize hA : mmin (r (12 + 4 * j) + CLv r Q j) 99999 = A at hheld1
  generalize hB : mmin (puF r f q j + WGv r j q) 9999 = B at hheld2
  have e2 : updW y1 101 (12 + 4 * j) A 101 = upd (s 101) (12 + 4 * j) A := by rw [updW_row, e101]
  have hL1 : RLw x 16 (updW y1 101 (12 + 4 * j) A 101) 1 := by
    rw [e2]
    exact RLw_congr rfl rfl rfl (by rw [upd_ne (by omega)]; exact n3 _ (by omega)) (fun i hi => by rw [upd_ne (by omega)]; exact n3 _ (by omega)) hl1
  obtain ⟨y3, k1, k2, k3⟩ := m_lawOf (y := updW y1 101 (12 + 4 * j) A) (u := 1) (by omega) hL1 (r (11 + 4 * j)) (nI (cntB (bt (r (30 + 5 * q))) 6)) (r 0)
  rw [e2, lawV_congr (r := r) (fun i hi => by rw [upd_ne (by omega)]; exact n3 i (by omega)), hWG] at k1
  have e3 : y3 101 = upd (s 101) (12 + 4 * j) A := by rw [k2 101 (by omega), e2]
  unfold fb_X9_nightGoes_68 f_X9_nightGoes_255 f_X9_nightGoes_229 f_X9_nightGoes_251 f_X9_nightGoes_255
  have i9 : (9:Int32) + (4:Int32) * nI j = nI (9 + 4 * j) := by
    rw [show (4:Int32) = nI 4 from rfl, show (9:Int32) = nI 9 from rfl, nI_mul, nI_add]
  have i12 : nI (9 + 4 * j) + (3:Int32) = nI (12 + 4 * j) := by
    rw [show (3:Int32) = nI 3 from rfl, nI_add, show 9 + 4 * j + 3 = 12 + 4 * j by omega]
  have i11 : nI (9 + 4 * j) + (2:Int32) = nI (11 + 4 * j) := by
    rw [show (2:Int32) = nI 2 from rfl, nI_add, show 9 + 4 * j + 2 = 11 + 4 * j by omega]
  have i10 : nI (9 + 4 * j) + (1:Int32) = nI (10 + 4 * j) := by
    rw [nI_1, show 9 + 4 * j + 1 = 10 + 4 * j by omega]
  have h108' : ∀ w : Wd, (∀ k, k ≠ 100 → k ≠ 101 → w k = s k) → w 108 q = nI (cntB (bt (r (30 + 5 * q))) 6) := fun w hw => by rw [hw 108 (by omega) (by omega)]; exact h108
  rw [m_r3, h3, if_neg (nI_ge hj (by omega)), ald_nI (by omega) (by omega), h106, hf, if_neg (nI_pos (by omega)), lv_s, i9, i12, i11, i10, m_rowN (by omega), m_rowN (by omega), m_rowN (by omega), a4, a3, a2, eap, ald_nI (by omega) (by omega), h109]
  rw [show (0:Int32) = nI 0 from rfl, g1, bd_s, show nI 0 = (0:Int32) from rfl, hheld1, bd_s, ast_nI (by omega) (by omega)]
  have t3 : f_X9_of (updW y1 101 (12 + 4 * j) A) (nI q) 3 = some (puF r f q j) := by
    rw [m_of3 (by omega), e2, upd_ne (by omega), c3]
  rw [t3, bd_s, m_rowN (by omega), e2, upd_ne (by omega), a3, ald_nI (by omega) (by omega), h108' (updW y1 101 (12 + 4 * j) A) (fun k b1 b2 => by rw [updW_cell b2, g2 k b1]), m_r0, e2, upd_ne (by omega), n3 0 (by omega)]
  rw [show (1:Int32) = nI 1 from rfl, k1, bd_s, hheld2, bd_s, show (3:Int32) = nI 3 from rfl, m_gets (by omega), bd_s]
  have e4 : updW y3 101 (29 + 5 * q + 3) B 101 = upd (upd (s 101) (12 + 4 * j) A) (32 + 5 * q) B := by
    rw [updW_row, e3, show 29 + 5 * q + 3 = 32 + 5 * q by omega]
  have t1 : f_X9_of (updW y3 101 (29 + 5 * q + 3) B) (nI q) (nI 1) = some (s 101 (30 + 5 * q)) := by
    rw [m_of (by omega), e4, show 29 + 5 * q + 1 = 30 + 5 * q by omega, upd_ne (by omega), upd_ne (by omega)]
  rw [t1, bd_s, m_gets (by omega), bd_s]
  generalize hC : (s 101 (30 + 5 * q) ||| ((nI 1 : Int32) <<< (nI j &&& 31))) = C
  have e5 : updW (updW y3 101 (29 + 5 * q + 3) B) 101 (29 + 5 * q + 1) C 101 = upd (upd (upd (s 101) (12 + 4 * j) A) (32 + 5 * q) B) (30 + 5 * q) C := by
    rw [updW_row, e4, show 29 + 5 * q + 1 = 30 + 5 * q by omega]
  have t0 : f_X9_of (updW (updW y3 101 (29 + 5 * q + 3) B) 101 (29 + 5 * q + 1) C) (nI q) 0 = some (s 101 (29 + 5 * q)) := by
    rw [m_of0 (by omega), e5, upd_ne (by omega), upd_ne (by omega), upd_ne (by omega)]
  have hoth : ∀ k, k ≠ 100 → k ≠ 101 → updW (updW y3 101 (29 + 5 * q + 3) B) 101 (29 + 5 * q + 1) C k = s k := fun k b1 b2 => by
    rw [updW_cell b2, updW_cell b2, k2 k b1, updW_cell b2, g2 k b1]
  have h100 : ∀ i, (i < 7 ∨ 14 < i) → updW (updW y3 101 (29 + 5 * q + 3) B) 101 (29 + 5 * q + 1) C 100 i = s 100 i := fun i hi => by
    rw [updW_cell (by omega), updW_cell (by omega), k3 i hi, updW_cell (by omega), g3 i hi]
  rw [t0, bd_s]
  generalize hw5 : updW (updW y3 101 (29 + 5 * q + 3) B) 101 (29 + 5 * q + 1) C = w5 at e5 hoth h100
  have hfin : ∀ D : Int32, (∀ i, i < 32 → bt D i = (bt (s 101 (29 + 5 * q)) i || (decide (i + 1 = j) || decide (i = j + 1 ∧ i < P)))) → ∃ s', (bd (f_X9_gets (nI q) (0:Int32) D w5) fun q1 => g (nI j + nI 1) q1) = g (nI (j + 1)) s' ∧ NR r P Q f (j + 1) (s' 101) ∧ (∀ k, k ≠ 100 → k ≠ 101 → s' k = s k) ∧ ∀ i, (i < 7 ∨ 14 < i) → s' 100 i = s 100 i := fun D hD => by
    rw [show (0:Int32) = nI 0 from rfl, m_gets (by omega), bd_s, nI_add]
    have e6 : updW w5 101 (29 + 5 * q + 0) D 101 = upd (upd (upd (upd (s 101) (12 + 4 * j) A) (32 + 5 * q) B) (30 + 5 * q) C) (29 + 5 * q) D := by
      rw [updW_row, e5, Nat.add_zero]
    refine ⟨_, rfl, ?_, fun k b1 b2 => by rw [updW_cell b2]; exact hoth k b1 b2, fun i hi => by rw [updW_cell (by omega)]; exact h100 i hi⟩
    rw [e6]
    refine NR_play hP hQ hj hq hf hN0 ?_ ?_ (fun i hi => ?_) (fun i hi => ?_) (fun i b1 b2 b3 b4 => ?_)
    · rw [upd_ne (by omega), upd_ne (by omega), upd_ne (by omega), upd_get, if_pos rfl, hA]
    · rw [upd_ne (by omega), upd_ne (by omega), upd_get, if_pos rfl, hB]
    · rw [upd_ne (by omega), upd_get, if_pos rfl, ← hC, b_or]
      have : bt ((nI 1 : Int32) <<< (nI j &&& 31)) i = decide (i = j) := b_sh1 (by omega) hi
      rw [this]
    · rw [upd_get, if_pos rfl, hD i hi]
    · rw [upd_ne b4, upd_ne b3, upd_ne b2, upd_ne b1]
  have hL : ∀ i, i < 32 → bt (if nI j ≤ 0 then (0:Int32) else (nI 1 : Int32) <<< ((nI j - nI 1) &&& 31)) i = decide (i + 1 = j) := fun i hi => by
    by_cases e : j = 0
    · subst e
      rw [if_pos (by decide), b_0, decide_eq_false (by omega)]
    · rw [if_neg (nI_nle (by omega) (by omega)), show nI j - nI 1 = nI (j - 1) from nI_m1 (by omega)]
      have : bt ((nI 1 : Int32) <<< (nI (j - 1) &&& 31)) i = decide (i = j - 1) := b_sh1 (by omega) hi
      rw [this]
      congr 1
      exact propext ⟨fun _ => by omega, fun _ => by omega⟩
  have hRt : ∀ i, i < 32 → bt (if P ≤ j + 1 then (0:Int32) else (nI 1 : Int32) <<< (nI (j + 1) &&& 31)) i = decide (i = j + 1 ∧ i < P) := fun i hi => by
    by_cases e : P ≤ j + 1
    · rw [if_pos e, b_0, decide_eq_false (by omega)]
    · rw [if_neg e]
      have : bt ((nI 1 : Int32) <<< (nI (j + 1) &&& 31)) i = decide (i = j + 1) := b_sh1 (by omega) hi
      rw [this]
      congr 1
      exact propext ⟨fun _ => ⟨by omega, by omega⟩, fun z => z.1⟩
  have hall := hfin ((s 101 (29 + 5 * q) ||| (if nI j ≤ 0 then (0:Int32) else (nI 1 : Int32) <<< ((nI j - nI 1) &&& 31))) ||| (if P ≤ j + 1 then (0:Int32) else (nI 1 : Int32) <<< (nI (j + 1) &&& 31))) (fun i hi => by rw [b_or, b_or, hL i hi, hRt i hi, Bool.or_assoc])
  have hw3 : w5 101 3 = nI P := by
    rw [e5, upd_ne (by omega), upd_ne (by omega), upd_ne (by omega)]; exact h3
  obtain ⟨s', z1, z2⟩ := hall
  refine ⟨s', ?_, z2⟩
  rw [← z1]
  rw [m_rowN (by omega), m_rowN (by omega), hw3, nI_add]
  by_cases q1 : P ≤ j + 1
  · rw [if_pos (nI_le q1 (by omega)), if_pos (nI_le q1 (by omega)), if_pos q1]
    by_cases q2 : nI j ≤ 0
    · rw [if_pos q2, if_pos q2]
    · rw [if_neg q2, if_neg q2]
  · rw [if_neg (nI_ge (by omega) (by omega)), if_neg (nI_ge (by omega) (by omega)), if_neg q1]
    by_cases q2 : nI j ≤ 0
    · rw [if_pos q2, if_pos q2]
    · rw [if_neg q2, if_neg q2]
end NG
