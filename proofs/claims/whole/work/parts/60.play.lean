section PM
theorem isB_in {v : Int32} {P q : Nat} {f : Nat → Int32} (h : isB v P (fun i => decide (f i = nI q))) {i : Nat} (hi : i < 32) : bt v i = inF f q P i := by
  rw [h i hi]
  unfold inF
  by_cases e : i < P <;> by_cases e2 : f i = nI q <;> simp [e, e2]
theorem kb_bits {v : Int32} {P q : Nat} {f : Nat → Int32} (hP : P ≤ 5) (h : isB v P (fun i => decide (f i = nI q))) {k : Nat} (hk : k < 32) : bt (((v <<< ((1:Int32) &&& 31)) ||| (v >>> ((1:Int32) &&& 31))) &&& (((1:Int32) <<< (nI P &&& 31)) - 1)) k = kbF f q P P k := by
  rw [b_and, b_full P (by omega) k hk, b_or]
  have e1 : bt (v <<< ((1:Int32) &&& 31)) k = (decide (1 ≤ k) && bt v (k - 1)) := b_shl 1 (by omega) v hk
  have e2 : bt (v >>> ((1:Int32) &&& 31)) k = if 1 + k < 32 then bt v (1 + k) else bt v 31 := b_sshr 1 (by omega) v hk
  rw [e1, e2]
  unfold kbF
  have hout : ∀ i, P ≤ i → inF f q P i = false := fun i hi => decide_eq_false (fun z => by omega)
  by_cases hkP : k < P
  · rw [if_pos (by omega), isB_in h (by omega : 1 + k < 32), show 1 + k = k + 1 by omega, decide_eq_true hkP]
    by_cases h1 : 1 ≤ k
    · rw [decide_eq_true h1, decide_eq_true (⟨h1, hkP⟩ : 1 ≤ k ∧ k < P), isB_in h (by omega : k - 1 < 32)]
      cases inF f q P (k + 1) <;> cases inF f q P (k - 1) <;> rfl
    · rw [decide_eq_false h1, decide_eq_false (fun z : 1 ≤ k ∧ k < P => h1 z.1)]
      cases inF f q P (k + 1) <;> rfl
  · rw [decide_eq_false hkP, decide_eq_false (fun z : 1 ≤ k ∧ k < P => hkP z.2), hout (k + 1) (by omega)]
    simp
theorem x_learn {s : Wd} {t P Q q : Nat} {v : Int32} (hQ : Q ≤ 6) (hq : q < Q) (h0 : s t 0 = nI P) : f_X6_learnFrom t (nI q) v s = some (updW (updW s (t + 6) q (s (t + 6) q ||| v)) (t + 5) q (s (t + 5) q ||| (((v <<< ((1:Int32) &&& 31)) ||| (v >>> ((1:Int32) &&& 31))) &&& (((1:Int32) <<< (nI P &&& 31)) - 1)))) := by
  unfold f_X6_learnFrom f_X6_allParts
  rw [ald_nI (by omega) (by omega), ast_nI (by omega) (by omega), ald_nI (by omega) (by omega), updW_cell (k' := t) (by omega), h0, bd_s, ast_nI (by omega) (by omega), updW_cell (k' := t + 5) (by omega)]
theorem x_play {x : Wd} {t b1 P Q : Nat} {r : Rw} {f : Nat → Int32} (ht : t = 2 ∨ t = 49) (hR : RT x t r P Q) (hW : WF r P Q) (hl0 : RLw x 11 r 0) (hl1 : RLw x 16 r 1) (hb : b1 = 59 ∨ ∃ s, s < 4 ∧ b1 = 72 + 2 * s) (hl : 5 ≤ lenX b1 ∧ lenX b1 ≤ 1000) (hf : ∀ j, j < P → x b1 j = f j) (hRF : RF f P Q) :
    ∃ x', f_X6_play t b1 11 16 x = some x' ∧ (∀ c, c ≠ t → c ≠ t + 4 → c ≠ t + 5 → c ≠ t + 6 → c ≠ t + 8 → c ≠ 14 → c ≠ 15 → c ≠ 19 → c ≠ 20 → x' c = x c) ∧ ∀ r', NR r P Q f P r' → RT x' t (upd (upd r' 1 0) 0 (r 0 + 1)) P Q := by
  have hP := hW.1
  have hQ := hW.2.1
  have hb59 : 59 ≤ b1 := by
    rcases hb with h | ⟨s, h1, h2⟩ <;> omega
  obtain ⟨s, i1, i2, i3, i4, i5, i6⟩ := x_pay ht hR hW hl0 hl1 hb hl hf hRF
  obtain ⟨⟨e0, e5, e11, e12⟩, hp1, hq1, hill, hz1, hz2⟩ := hR
  have hst : s t = x t := i1 t (by omega) (by omega) (by omega) (by omega) (by omega) (by omega)
  have hs5 : s (t + 5) = x (t + 5) := i1 _ (by omega) (by omega) (by omega) (by omega) (by omega) (by omega)
  have hs6 : s (t + 6) = x (t + 6) := i1 _ (by omega) (by omega) (by omega) (by omega) (by omega) (by omega)
  have hsb : s b1 = x b1 := i1 _ (by omega) (by omega) (by omega) (by omega) (by omega) (by omega)
  rw [i6]
  unfold f_X6_play_90 f_X6_play_93
  obtain ⟨u, ⟨j1, j2, j3, j4⟩, h4⟩ := lp_run (z := fun _ _ => none) (F := fun rec => fb_X6_play_93 t b1 11 16 rec) (fun g (u : Wd) i => g (nI i) u) Q (fun u => f_X6_play_121 t b1 11 16 u) (fun i u => (∀ c, c ≠ t + 5 → c ≠ t + 6 → u c = s c) ∧ (∀ q, q < Q → ∀ k, k < 32 → bt (u (t + 6) q) k = (bt (r (30 + 5 * q)) k || (decide (q < i) && inF f q P k))) ∧ (∀ q, q < Q → ∀ k, k < 32 → bt (u (t + 5) q) k = (bt (r (29 + 5 * q)) k || (decide (q < i) && kbF f q P P k))) ∧ ∀ q, Q ≤ q → u (t + 6) q = s (t + 6) q) (fun g i u hi hI => by
    obtain ⟨j1, j2, j3, j4⟩ := hI
    have hut : u t = x t := by rw [j1 t (by omega) (by omega), hst]
    unfold fb_X6_play_93
    rw [hut, e5, if_neg (nI_ge hi (by omega))]
    obtain ⟨v, v1, v2⟩ := x_partsIn (s := u) (t := t) (b1 := b1) (P := P) (q := i) (f := f) (by rw [hut]; exact e0) hP hl (fun j hj => by rw [j1 b1 (by omega) (by omega), hsb]; exact hf j hj)
    rw [v1, bd_s, x_learn (P := P) (Q := Q) hQ hi (by rw [hut]; exact e0), bd_s, nI_1]
    refine ⟨_, ⟨fun c a1 a2 => by rw [updW_cell a1, updW_cell a2]; exact j1 c a1 a2, fun q hq k hk => ?_, fun q hq k hk => ?_, fun q hq => ?_⟩, rfl⟩
    · rw [updW_cell (by omega), updW_get]
      by_cases e : q = i
      · subst e
        rw [if_pos ⟨rfl, rfl⟩, b_or, j2 q hq k hk, isB_in v2 hk, decide_eq_false (Nat.lt_irrefl q), decide_eq_true (Nat.lt_succ_self q)]
        simp
      · rw [if_neg (fun z => e z.2), j2 q hq k hk]
        have : (q < i) = (q < i + 1) := propext ⟨fun _ => by omega, fun _ => by omega⟩
        simp only [this]
    · rw [updW_get, updW_cell (by omega)]
      by_cases e : q = i
      · subst e
        rw [if_pos ⟨rfl, rfl⟩, b_or, j3 q hq k hk, kb_bits hP v2 hk, decide_eq_false (Nat.lt_irrefl q), decide_eq_true (Nat.lt_succ_self q)]
        simp
      · rw [if_neg (fun z => e z.2), j3 q hq k hk]
        have : (q < i) = (q < i + 1) := propext ⟨fun _ => by omega, fun _ => by omega⟩
        simp only [this]
    · rw [updW_cell (by omega), updW_place (by omega)]
      exact j4 q hq) (fun g u hI => by
    unfold fb_X6_play_93
    rw [hI.1 t (by omega) (by omega), hst, e5, if_pos (nI_le (Nat.le_refl _) (by omega))]) (by omega) s ⟨fun _ _ _ => rfl, fun q hq k hk => by
      rw [hs6, (hq1 q hq).2.1, decide_eq_false (by omega)]; simp, fun q hq k hk => by
      rw [hs5, (hq1 q hq).1, decide_eq_false (by omega)]; simp, fun q hq => rfl⟩
  have hut : u t = x t := by rw [j1 t (by omega) (by omega), hst]
  refine ⟨updW (updW u t 11 0) t 12 (r 0 + 1), ?_, fun c a0 a4 a5 a6 a8 a14 a15 a19 a20 => ?_, fun r' hN => ?_⟩
  · refine h4.trans ?_
    unfold f_X6_play_121
    rw [wl_s, wl_s, updW_place (by omega), hut, e12]
  · rw [updW_cell a0, updW_cell a0, j1 c a5 a6]
    exact i1 c a4 a8 a14 a15 a19 a20
  · obtain ⟨n1, n2, n3⟩ := hN
    have hU : ∀ c, c ≠ t → updW (updW u t 11 0) t 12 (r 0 + 1) c = u c := fun c hc => by rw [updW_cell hc, updW_cell hc]
    have hX : ∀ c, c ≠ t → c ≠ t + 4 → c ≠ t + 8 → c ≠ t + 5 → c ≠ t + 6 → c ≠ 14 → c ≠ 15 → c ≠ 19 → c ≠ 20 → updW (updW u t 11 0) t 12 (r 0 + 1) c = x c := fun c a0 a4 a8 a5 a6 a14 a15 a19 a20 => by
      rw [hU c a0, j1 c a5 a6]
      exact i1 c a4 a8 a14 a15 a19 a20
    refine ⟨⟨?_, ?_, ?_, ?_⟩, fun p hp => ?_, fun q hq => ?_, fun i hi => ?_, fun p q1 q2 => ?_, fun q q1 q2 => ?_⟩
    · rw [updW_place (by omega), updW_place (by omega), hut]; exact e0
    · rw [updW_place (by omega), updW_place (by omega), hut]; exact e5
    · rw [updW_place (by omega), updW_self, upd_ne (by omega)]; rfl
    · rw [updW_self]; rfl
    · obtain ⟨a1, a2, a3, a4⟩ := n1 p hp
      obtain ⟨b1', b2', b3', b4'⟩ := hp1 p hp
      refine ⟨?_, ?_, ?_, ?_⟩
      · rw [hX _ (by omega) (by omega) (by omega) (by omega) (by omega) (by omega) (by omega) (by omega) (by omega), upd_ne (by omega), upd_ne (by omega), a1]; exact b1'
      · rw [hX _ (by omega) (by omega) (by omega) (by omega) (by omega) (by omega) (by omega) (by omega) (by omega), upd_ne (by omega), upd_ne (by omega), a2]; exact b2'
      · rw [hX _ (by omega) (by omega) (by omega) (by omega) (by omega) (by omega) (by omega) (by omega) (by omega), upd_ne (by omega), upd_ne (by omega), a3]; exact b3'
      · rw [hU _ (by omega), j1 _ (by omega) (by omega), upd_ne (by omega), upd_ne (by omega), a4]; exact i2 p hp
    · obtain ⟨a1, a2, a3, a4, a5⟩ := n2 q hq
      obtain ⟨b1', b2', b3', b4'⟩ := hq1 q hq
      refine ⟨?_, ?_, ?_, ?_⟩
      · rw [hU _ (by omega), upd_ne (by omega), upd_ne (by omega)]
        exact b_ext (fun k hk => by rw [j3 q hq k hk, a5 k hk, decide_eq_true hq]; rfl)
      · rw [hU _ (by omega), upd_ne (by omega), upd_ne (by omega)]
        exact b_ext (fun k hk => by rw [j2 q hq k hk, a4 k hk, decide_eq_true hq]; rfl)
      · rw [hX _ (by omega) (by omega) (by omega) (by omega) (by omega) (by omega) (by omega) (by omega) (by omega), upd_ne (by omega), upd_ne (by omega), a1]; exact b3'
      · rw [hU _ (by omega), j1 _ (by omega) (by omega), upd_ne (by omega), upd_ne (by omega), a3]; exact i4 q hq
    · rw [updW_place (by omega), updW_place (by omega), hut, hill i hi]
      by_cases e : i < Q
      · rw [upd_ne (by omega), upd_ne (by omega), (n2 i e).2.1]
      · rw [decide_eq_false e]; rfl
    · rw [hU _ (by omega), j1 _ (by omega) (by omega), i3 p q1]; exact hz1 p q1 q2
    · refine ⟨?_, ?_⟩
      · rw [hU _ (by omega), j4 q q1, hs6]; exact (hz2 q q1 q2).1
      · rw [hU _ (by omega), j1 _ (by omega) (by omega), i5 q q1]; exact (hz2 q q1 q2).2
theorem WF_night {r r' : Rw} {P Q n : Nat} {f : Nat → Int32} (hW : WF r P Q) (hN : NR r P Q f P r') (h0 : r 0 = nI n) (hn : n < 20000) : WF (upd (upd r' 1 0) 0 (r 0 + 1)) P Q := by
  have hN0 := hN
  obtain ⟨n1, n2, n3⟩ := hN
  have hP := hW.1
  have hQ := hW.2.1
  refine ⟨hP, hQ, ?_, ?_, ⟨n + 1, by omega, ?_⟩, Or.inl ?_, fun p hp => ?_, fun q hq => ?_⟩
  · rw [upd_ne (by omega), upd_ne (by omega), n3 3 (by omega)]; exact hW.2.2.1
  · rw [upd_ne (by omega), upd_ne (by omega), n3 8 (by omega)]; exact hW.2.2.2.1
  · show r 0 + 1 = _
    rw [h0, nI_1]
  · rw [upd_ne (by omega)]; rfl
  · obtain ⟨a1, a2, a3, a4⟩ := n1 p hp
    obtain ⟨b1, b2, b3, b4⟩ := hW.2.2.2.2.2.2.1 p hp
    refine ⟨?_, ?_, ?_, ?_⟩ <;> rw [upd_ne (by omega), upd_ne (by omega)]
    · rw [a1]; exact b1
    · rw [a2]; exact b2
    · rw [a3]; exact b3
    · rw [a4]; exact ap_rng hW hp
  · obtain ⟨a1, a2, a3, a4, a5⟩ := n2 q hq
    obtain ⟨b1, b2, b3, b4, b5⟩ := hW.2.2.2.2.2.2.2 q hq
    have hout : ∀ i, P ≤ i → inF f q P i = false := fun i hi => decide_eq_false (fun z => by omega)
    refine ⟨fun i hi => ?_, fun i hi => ?_, ?_, ?_, ?_⟩ <;> rw [upd_ne (by omega), upd_ne (by omega)]
    · rcases Nat.lt_or_ge i 32 with z | z
      · rw [a5 i z, b1 i hi]
        unfold kbF
        rw [hout (i + 1) (by omega), decide_eq_false (fun z : 1 ≤ i ∧ i < P => by omega)]
        rfl
      · exact b_big z
    · rcases Nat.lt_or_ge i 32 with z | z
      · rw [a4 i z, b2 i hi, hout i hi]; rfl
      · exact b_big z
    · rw [a1]; exact b3
    · rw [a3]; exact pu_rng hW hq P
    · rw [a2]; exact b5
end PM
