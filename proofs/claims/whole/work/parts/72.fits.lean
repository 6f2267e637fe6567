section FU2
/-- the class: how many pay as told, or the first of these -/
theorem cx_fits {P Q s : Nat} {R : Rw} {g : Nat → Int32} {what : Int32} (hs : s < 4) (hW : WF R P Q) (hwh : what = -1 ∨ ∃ p, p < P ∧ what = nI p) : ∀ (L : List Rp) (x : Wd) (c m fuel : Nat), RT x 2 R P Q → (∀ p, p < P → ∀ q, q < Q → x 79 (p * 6 + q) = WGv R p q) → (∀ j, j < 40 → x (72 + 2 * s) j = g j) → XF x P (mbE R Q 0) (alE R) L → c + L.length < 1000000 → L.length < fuel →
    ∃ x', FC x x' ∧ (what = -1 → lp (fun _ _ _ _ => none) (fun rec => fb_X8_fits_91 (71 + 2 * s) rec) fuel what (nI m) (nI c) x = some (nI (m + (L.filter (pyB R Q g)).length), x')) ∧
      (¬ what < 0 → (L.filter (pyB R Q g) = [] ∧ lp (fun _ _ _ _ => none) (fun rec => fb_X8_fits_91 (71 + 2 * s) rec) fuel what (nI m) (nI c) x = bd (f_X8_error (2:Int32) x') (fun q1 => some (q1.1, q1.2))) ∨ ∃ r F f, L.filter (pyB R Q g) = r :: F ∧ RW f r ∧ r.length = P ∧ lp (fun _ _ _ _ => none) (fun rec => fb_X8_fits_91 (71 + 2 * s) rec) fuel what (nI m) (nI c) x = some (f what.toNatClampNeg, x')) := by
  have hP := hW.1
  have hQ := hW.2.1
  intro L
  induction L with
  | nil =>
    intro x c m fuel hR hw hg h h1 h2
    obtain ⟨f, rfl⟩ : ∃ f, fuel = f + 1 := ⟨fuel - 1, by omega⟩
    obtain ⟨x', g1, g2, -⟩ := x_goesOn hP (mbE_7 hQ) h
    have e0 : bI (!([] : List Rp).isEmpty) = 0 := rfl
    rw [e0] at g1
    rw [List.length_nil] at h1
    have e : ∀ u, fb_X8_fits_91 (71 + 2 * s) u what (nI m) (nI c) x = f_X8_fits_139 what (nI m) x' := fun u => by
      unfold fb_X8_fits_91
      rw [show (1000000:Int32) = nI 1000000 from rfl, if_neg (nI_ge (by omega) (by omega)), g1, bd_s, if_pos rfl]
    rw [lp_s]
    refine ⟨x', g2, fun hn => (e _).trans ?_, fun hn => Or.inl ⟨rfl, (e _).trans ?_⟩⟩
    · unfold f_X8_fits_139
      rw [hn, if_pos (by decide)]
      rfl
    · unfold f_X8_fits_139
      rw [if_neg hn]
  | cons rp L ih =>
    intro x c m fuel hR hw hg h h1 h2
    obtain ⟨f, rfl⟩ : ∃ f, fuel = f + 1 := ⟨fuel - 1, by omega⟩
    rw [List.length_cons] at h1 h2
    obtain ⟨x1, g1, g2, g3⟩ := x_goesOn hP (mbE_7 hQ) h
    rcases g3 with z | ⟨r', L', e, g4, g5⟩
    · exact absurd z (by simp)
    · obtain ⟨rfl, rfl⟩ := List.cons.inj e
      have hc : ∀ c, ¬ (58 ≤ c ∧ c ≤ 63) → x1 c = x c := fun c hc => g2 c (by omega) (by omega) (by omega) (by omega) (by omega) (by omega)
      have hR1 : RT x1 2 R P Q := RT_congr ⟨hP, hQ⟩ (fun k k1 k2 => hc k (by omega)) (fun _ _ => rfl) hR
      have hw1 : ∀ p, p < P → ∀ q, q < Q → x1 79 (p * 6 + q) = WGv R p q := by rw [hc 79 (by omega)]; exact hw
      have hg1 : ∀ j, j < 40 → x1 (72 + 2 * s) j = g j := by rw [hc (72 + 2 * s) (by omega)]; exact hg
      have hpay := x_paysAs (f := x1 59) hs hR1 hW hw1 (fun _ _ => rfl) hg1
      have hpy : allB (fun q => decide (puF R (x1 59) q P = g q)) Q = pyB R Q g rp := by
        unfold pyB
        refine allB_congr (fun q hq => ?_)
        rw [← puC_eq (by omega) g4.2.2.1, g4.2.1]
      rw [hpy] at hpay
      have e1 : ∀ k, fb_X8_fits_91 (71 + 2 * s) k what (nI m) (nI c) x = (if bI (pyB R Q g rp) = 0 then k what (nI m) (nI (c + 1)) x1 else (if what < 0 then k what (nI (m + 1)) (nI (c + 1)) x1 else f_X8_fits_120 what x1)) := fun k => by
        unfold fb_X8_fits_91 f_X8_fits_133
        rw [show (1000000:Int32) = nI 1000000 from rfl, if_neg (nI_ge (by omega) (by omega)), g1, bd_s]
        dsimp only
        rw [if_neg (show ¬ bI (!(rp :: L).isEmpty) = 0 from fun z => absurd z (by rw [List.isEmpty_cons]; decide)), hpay, bd_s, nI_1, nI_1]
      rw [lp_s]
      cases hb : pyB R Q g rp with
      | false =>
        obtain ⟨x', k1, k2, k3⟩ := ih x1 (c + 1) m f hR1 hw1 hg1 g5 (by omega) (by omega)
        have e2 : ∀ k, fb_X8_fits_91 (71 + 2 * s) k what (nI m) (nI c) x = k what (nI m) (nI (c + 1)) x1 := fun k => by rw [e1, hb, if_pos bI_f]
        rw [List.filter_cons_of_neg (by rw [hb]; decide)]
        refine ⟨x', FC_trans g2 k1, fun hn => (e2 _).trans (k2 hn), fun hn => ?_⟩
        rcases k3 hn with ⟨j1, j2⟩ | ⟨r, F, f', j1, j2, j3, j4⟩
        · exact Or.inl ⟨j1, (e2 _).trans j2⟩
        · exact Or.inr ⟨r, F, f', j1, j2, j3, (e2 _).trans j4⟩
      | true =>
        rw [List.filter_cons_of_pos (by rw [hb])]
        by_cases hz : what < 0
        · obtain ⟨x', k1, k2, k3⟩ := ih x1 (c + 1) (m + 1) f hR1 hw1 hg1 g5 (by omega) (by omega)
          have e2 : ∀ k, fb_X8_fits_91 (71 + 2 * s) k what (nI m) (nI c) x = k what (nI (m + 1)) (nI (c + 1)) x1 := fun k => by rw [e1, hb, if_neg (by decide), if_pos hz]
          refine ⟨x', FC_trans g2 k1, fun hn => (e2 _).trans ?_, fun hn => absurd hz hn⟩
          rw [k2 hn, List.length_cons, show m + 1 + (L.filter (pyB R Q g)).length = m + ((L.filter (pyB R Q g)).length + 1) by omega]
        · refine ⟨x1, g2, fun hn => absurd (by rw [hn]; decide) hz, fun _ => Or.inr ⟨rp, L.filter (pyB R Q g), x1 59, rfl, g4.2.2.1, g4.2.1, ?_⟩⟩
          have e2 : ∀ k, fb_X8_fits_91 (71 + 2 * s) k what (nI m) (nI c) x = f_X8_fits_120 what x1 := fun k => by rw [e1, hb, if_neg (by decide), if_neg hz]
          refine (e2 _).trans ?_
          rcases hwh with hn | ⟨p, hp, hn⟩
          · exact absurd (by rw [hn]; decide) hz
          · unfold f_X8_fits_120
            rw [hn, ald_nI (by omega) (by omega), nI_ix (by omega)]
/-- one casting tried by the reference -/
theorem cy_try {x y : Wd} {P Q s m : Nat} {R : Rw} {g : Nat → Int32} {what : Int32} {k : Int32 → Int32 → Int32 → Int32 → Wd → Option (Int32 × Wd)} {rp : Rp} (hs : s < 4) (hm : m ≤ 1000000) (h101 : y 101 = R) (hW : WF R P Q) (hl0 : RLw x 11 R 0) (hl1 : RLw x 16 R 1) (h103 : ∀ i, i < 229 → y 103 i = R i) (hg : ∀ j, j < 40 → y 112 (40 * s + j) = g j) (hRW : RW (y 106) rp) (hG : GD (mbE R Q 0) rp) (hlen : rp.length = P) :
    ∃ y', fb_X9_fits_82 k (nI s) what (nI m) 1 y = bd (f_X9_isNext y') (fun q2 => k (nI s) what (nI (m + if pyB R Q g rp = true then 1 else 0)) q2.1 q2.2) ∧ y' 101 = R ∧ y' 106 = y 106 ∧ y' 103 = y 103 ∧ y' 112 = y 112 ∧ FYk y y' ∧ (m = 0 → pyB R Q g rp = true → ∀ j, j < P → y' 107 j = y 106 j) ∧ (¬ (m = 0 ∧ pyB R Q g rp = true) → y' 107 = y 107) := by
  have hP := hW.1
  have hQ := hW.2.1
  have hRF : RF (y 106) P Q := RF_of hG hRW hlen
  obtain ⟨y1, r', a1, a2, a3, a4, a5⟩ := m_night (x := x) (y := y) (P := P) (Q := Q) (by rw [h101]; exact hW) (by rw [h101]; exact hl0) (by rw [h101]; exact hl1) hRF
  rw [h101] at a2 a3
  have hpu : ∀ q, q < Q → y1 101 (32 + 5 * q) = puC R q rp := fun q hq => by
    rw [a3, upd_ne (by omega), upd_ne (by omega), (a2.2.1 q hq).2.2.1, ← hlen, puC_eq (by omega) hRW]
  have h8 : y1 101 8 = nI Q := by rw [a3, upd_ne (by omega), upd_ne (by omega), a2.2.2 8 (by omega)]; exact hW.2.2.2.1
  obtain ⟨y2, b1, b2, b3, b4⟩ := m_moveAll (y := y1) (a := 103) (b := 101) rfl rfl (by omega)
  have e2 : y2 101 = R := funext (fun i => by
    rcases Nat.lt_or_ge i 229 with z | z
    · rw [b2 i z, a4 103 (by omega) (by omega) (by omega) (by omega), h103 i z]
    · rw [b3 i z, a3, upd_ne (by omega), upd_ne (by omega), a2.2.2 i (by omega)])
  have c106 : y2 106 = y 106 := by rw [b4 106 (by omega), a4 106 (by omega) (by omega) (by omega) (by omega)]
  have h3 : y2 101 3 = nI P := by rw [e2]; exact hW.2.2.1
  -- the comparison
  have hcmp : f_X9_fits_97 k (nI s) what (nI m) 1 0 y1 = f_X9_fits_149 k (nI s) what (nI m) (bI (pyB R Q g rp)) y1 := by
    unfold f_X9_fits_97
    obtain ⟨v, h1, h2⟩ := lp_run (z := fun _ _ _ _ _ _ => none) (F := fun rec => fb_X9_fits_97 k rec) (fun u (v : Int32) i => u (nI s) what (nI m) v (nI i) y1) Q (fun v => f_X9_fits_149 k (nI s) what (nI m) v y1) (fun i v => v = bI (allB (fun q => decide (puC R q rp = g q)) i)) (fun u i v hi hI => by
      refine ⟨_, rfl, ?_⟩
      unfold fb_X9_fits_97 f_X9_fits_140 f_X9_fits_141
      rw [m_r8, h8, if_neg (nI_ge hi (by omega)), m_of3 (by omega), bd_s, ix_40, ald_nI (by omega) (by omega), hpu i hi, a4 112 (by omega) (by omega) (by omega) (by omega), hg i (by omega), nI_1, hI, allB]
      cases allB (fun q => decide (puC R q rp = g q)) i with
      | false => rw [if_pos bI_f]; rfl
      | true =>
        rw [if_neg (by decide)]
        by_cases e : puC R i rp = g i
        · rw [if_neg (fun z => z e), decide_eq_true e]; rfl
        · rw [if_pos e, decide_eq_false e]; rfl) (fun u v hI => by
      unfold fb_X9_fits_97
      rw [m_r8, h8, if_pos (nI_le (Nat.le_refl _) (by omega))]) (by omega) 1 rfl
    refine Eq.trans (h2 : _ = _) ?_
    rw [h1]
    rfl
  -- the first one is kept
  have hkeep : ∃ y', f_X9_fits_164 k (nI s) what (nI m) (bI (pyB R Q g rp)) 0 y2 = f_X9_fits_204 k (nI s) what (nI m) (bI (pyB R Q g rp)) y' ∧ (∀ c, c ≠ 107 → y' c = y2 c) ∧ (m = 0 → pyB R Q g rp = true → ∀ j, j < P → y' 107 j = y 106 j) ∧ (¬ (m = 0 ∧ pyB R Q g rp = true) → y' 107 = y2 107) := by
    by_cases hgo : m = 0 ∧ pyB R Q g rp = true
    · obtain ⟨hm0, hpy⟩ := hgo
      rw [hpy, hm0]
      unfold f_X9_fits_164
      obtain ⟨v, ⟨h1, h1'⟩, h2⟩ := lp_run (z := fun _ _ _ _ _ _ => none) (F := fun rec => fb_X9_fits_164 k rec) (fun u (v : Wd) i => u (nI s) what (nI 0) (bI true) (nI i) v) P (fun v => f_X9_fits_204 k (nI s) what (nI 0) (bI true) v) (fun i v => (∀ c, c ≠ 107 → v c = y2 c) ∧ ∀ j, j < i → v 107 j = y 106 j) (fun u i v hi hI => by
        obtain ⟨i1, i2⟩ := hI
        refine ⟨updW v 107 i (y 106 i), ⟨fun c hc => by rw [updW_cell hc]; exact i1 c hc, fun j hj => ?_⟩, ?_⟩
        · rw [updW_get]
          by_cases e : j = i
          · subst e; rw [if_pos ⟨rfl, rfl⟩]
          · rw [if_neg (fun z => e z.2)]; exact i2 j (by omega)
        · unfold fb_X9_fits_164
          rw [m_r3, i1 101 (by omega), h3, if_neg (nI_ge hi (by omega)), if_neg (show ¬ bI true = 0 by decide), if_neg (fun z => z rfl), ald_nI (by omega) (by omega), ast_nI (by omega) (by omega), i1 106 (by omega), c106, nI_1]) (fun u v hI => by
        unfold fb_X9_fits_164
        rw [m_r3, hI.1 101 (by omega), h3, if_pos (nI_le (Nat.le_refl _) (by omega))]) (by omega) y2 ⟨fun _ _ => rfl, fun j hj => by omega⟩
      exact ⟨v, h2, h1, fun _ _ => h1', fun z => absurd ⟨rfl, rfl⟩ z⟩
    · refine ⟨y2, ?_, fun _ _ => rfl, fun z1 z2 => absurd ⟨z1, z2⟩ hgo, fun _ => rfl⟩
      obtain ⟨fu, hfu⟩ : ∃ f, FU = f + 1 := ⟨1999999, rfl⟩
      have e : ∀ u, fb_X9_fits_164 k u (nI s) what (nI m) (bI (pyB R Q g rp)) 0 y2 = f_X9_fits_204 k (nI s) what (nI m) (bI (pyB R Q g rp)) y2 := fun u => by
        unfold fb_X9_fits_164
        rw [m_r3, h3]
        by_cases z : nI P ≤ 0
        · rw [if_pos z]
        · rw [if_neg z]
          cases hb : pyB R Q g rp with
          | false => rw [if_pos bI_f]
          | true =>
            have hm0 : m ≠ 0 := fun z' => hgo ⟨z', hb⟩
            rw [if_neg (by decide), if_pos (nI_ne0 (by omega) (by omega))]
      unfold f_X9_fits_164
      rw [hfu, lp_s]
      exact e _
  obtain ⟨y3, d1, d2, d3, d4⟩ := hkeep
  refine ⟨y3, ?_, by rw [d2 101 (by omega)]; exact e2, by rw [d2 106 (by omega)]; exact c106, ?_, ?_, ?_, d3, fun z => ?_⟩
  · unfold fb_X9_fits_82
    rw [if_neg (by decide), a1, bd_s, hcmp]
    unfold f_X9_fits_149
    rw [b1, bd_s, d1]
    unfold f_X9_fits_204 f_X9_fits_215
    cases pyB R Q g rp with
    | false => rw [if_pos bI_f, lv_s, if_neg (by decide), Nat.add_zero, show nI m + (0:Int32) = nI m from Int32.add_zero _]
    | true => rw [if_neg (by decide), lv_s, if_pos rfl, nI_1]
  · rw [d2 103 (by omega), b4 103 (by omega), a4 103 (by omega) (by omega) (by omega) (by omega)]
  · rw [d2 112 (by omega), b4 112 (by omega), a4 112 (by omega) (by omega) (by omega) (by omega)]
  · refine ⟨fun c h1 h2 => ?_, fun i hi => ?_⟩
    · unfold keepM at h1
      rw [d2 c (by omega), b4 c (by omega), a4 c (by omega) (by omega) (by omega) (by omega)]
    · rw [d2 100 (by omega), b4 100 (by omega), a5 i hi]
  · rw [d4 z, b4 107 (by omega), a4 107 (by omega) (by omega) (by omega) (by omega)]
theorem YF_congr {y y' : Wd} {P Q : Nat} {L : List Rp} (h1 : y' 101 = y 101) (h2 : y' 106 = y 106) (h : YF y P Q L) : YF y' P Q L := by
  obtain ⟨rp, ⟨n1, n2, n3⟩, hmu, e⟩ := h
  refine ⟨rp, ⟨by rw [h2]; exact n1, by rw [h1]; exact n2, n3⟩, hmu, ?_⟩
  unfold okY
  rw [h1]
  exact e
/-- the reference: all castings -/
theorem cy_fits {x : Wd} {P Q s : Nat} {R : Rw} {g : Nat → Int32} {what : Int32} (hs : s < 4) (hW : WF R P Q) (hl0 : RLw x 11 R 0) (hl1 : RLw x 16 R 1) : ∀ (L : List Rp) (y : Wd) (m fuel : Nat), m + L.length ≤ 100000 → y 101 = R → (∀ i, i < 229 → y 103 i = R i) → (∀ j, j < 40 → y 112 (40 * s + j) = g j) → YP y P Q L → L.length < fuel →
    ∃ y', lp (fun _ _ _ _ _ => none) (fun rec => fb_X9_fits_82 rec) fuel (nI s) what (nI m) (bI (!L.isEmpty)) y = f_X9_fits_226 what (nI (m + (L.filter (pyB R Q g)).length)) y' ∧ y' 101 = R ∧ FYk y y' ∧ (0 < m → y' 107 = y 107) ∧ (m = 0 → ∀ r F, L.filter (pyB R Q g) = r :: F → r.length = P ∧ ∃ f, RW f r ∧ ∀ j, j < P → y' 107 j = f j) := by
  intro L
  induction L with
  | nil =>
    intro y m fuel hm h101 h103 hg h h2
    obtain ⟨f, rfl⟩ : ∃ f, fuel = f + 1 := ⟨fuel - 1, by omega⟩
    have e : ∀ u, fb_X9_fits_82 u (nI s) what (nI m) (bI (!([] : List Rp).isEmpty)) y = f_X9_fits_226 what (nI m) y := fun u => by
      unfold fb_X9_fits_82
      rw [if_pos (show bI (!([] : List Rp).isEmpty) = 0 from rfl)]
    rw [lp_s]
    exact ⟨y, e _, h101, ⟨fun _ _ _ => rfl, fun _ _ => rfl⟩, fun _ => rfl, fun _ r F z => absurd z (by simp)⟩
  | cons rp L ih =>
    intro y m fuel hm h101 h103 hg h h2
    obtain ⟨f, rfl⟩ : ∃ f, fuel = f + 1 := ⟨fuel - 1, by omega⟩
    rw [List.length_cons] at h2 hm
    rcases h with z | ⟨r', L', e, g4, g5⟩
    · exact absurd z (by simp)
    · obtain ⟨rfl, rfl⟩ := List.cons.inj e
      obtain ⟨n1, n2, n3⟩ := g4
      rw [h101] at n2
      have key := fun k => cy_try (k := k) (what := what) (m := m) (g := g) hs (by omega) h101 hW hl0 hl1 h103 hg n1 n2 n3
      obtain ⟨y1, b1, b2, b3, b4, b5, b6, b7, b8⟩ := key (lp (fun _ _ _ _ _ => none) (fun rec => fb_X9_fits_82 rec) f)
      obtain ⟨y2, k1, k2, k3⟩ := y_isNext (y := y1) (by rw [b2]; exact hW) (YF_congr (by rw [b2, h101]) b3 g5)
      obtain ⟨y', j1, j2, j3, j4, j5⟩ := ih y2 (m + if pyB R Q g rp = true then 1 else 0) f (by split <;> omega) (by rw [k2 101 (by omega)]; exact b2) (fun i hi => by rw [k2 103 (by omega), b4]; exact h103 i hi) (fun j hj => by rw [k2 112 (by omega), b5]; exact hg j hj) k3 (by omega)
      rw [lp_s]
      have e0 : bI (!(rp :: L).isEmpty) = 1 := rfl
      rw [e0]
      refine ⟨y', b1.trans ?_, j2, FYk_trans b6 (FYk_trans (FYk_n (FYn_of k2)) j3), fun hm0 => ?_, fun hm0 r F hF => ?_⟩
      · rw [k1, bd_s]
        refine j1.trans ?_
        cases hb : pyB R Q g rp with
        | false => rw [if_neg Bool.false_ne_true, List.filter_cons_of_neg (by rw [hb]; decide), Nat.add_zero]
        | true => rw [if_pos rfl, List.filter_cons_of_pos (by rw [hb]), List.length_cons, show m + 1 + (L.filter (pyB R Q g)).length = m + ((L.filter (pyB R Q g)).length + 1) by omega]
      · rw [j4 (by omega), k2 107 (by omega), b8 (fun z => by omega)]
      · cases hb : pyB R Q g rp with
        | false =>
          rw [List.filter_cons_of_neg (by rw [hb]; decide)] at hF
          exact j5 (by rw [hb, if_neg Bool.false_ne_true]; omega) r F hF
        | true =>
          rw [List.filter_cons_of_pos (by rw [hb])] at hF
          obtain ⟨rfl, -⟩ := List.cons.inj hF
          refine ⟨n3, y 106, n1, fun j hj => ?_⟩
          rw [j4 (by rw [hb, if_pos rfl]; omega), k2 107 (by omega)]
          exact b7 hm0 hb j hj
theorem Rel_thought79 {n : Nat} {x y x' y' : Wd} (h : Rel n x y) (hx : ∀ c, ¬ (49 ≤ c ∧ c ≤ 63) → c ≠ 14 → c ≠ 15 → c ≠ 19 → c ≠ 20 → c ≠ 79 → x' c = x c) (hk : FYk y y') (hr : ∀ i, y' 101 i = y 101 i) : Rel n x' y' := by
  have e : y' 101 = y 101 := funext hr
  obtain ⟨P, Q, hW, hR⟩ := h.1.1
  refine Rel_of0 h ?_ (fun k hk => ?_) hk.1 (hk.2 4 (by omega)) (hk.2 5 (by omega)) (hk.2 24 (by omega))
  · rw [e]
    exact RB_troupe h.1 ⟨P, Q, hW, RT_congr ⟨hW.1, hW.2.1⟩ (fun k k1 k2 => hx k (by omega) (by omega) (by omega) (by omega) (by omega) (by omega)) (fun _ _ => rfl) hR⟩ h.1.2.1 (fun k hk => hx k (by omega) (by omega) (by omega) (by omega) (by omega) (by omega)) (fun _ _ => rfl)
  · unfold keepX at hk
    exact hx k (by omega) (by omega) (by omega) (by omega) (by omega) (by omega)
theorem st_fits : St_fits Rel := by
  intro n x y p1 p2 hn h
  unfold f_X8_fits f_X9_fits f_X8_fits_30 f_X9_fits_23 f_X8_fits_60 f_X9_fits_55
  rw [m_isSheet, bd_s, bI_ite0]
  by_cases c : 0 ≤ p1 ∧ p1 ≤ 3
  · obtain ⟨s, hs, rfl⟩ := (in_nI (N := 3) (by omega)).mp c
    obtain ⟨⟨r1, r1'⟩, ⟨l, l1, l2, l3⟩, r3⟩ := h.2.2.2.1 s (by omega)
    obtain ⟨P, Q, n', hn', hS⟩ := SR_of h
    have hS0 := hS
    obtain ⟨hR, hW, hl0, hl1, h0⟩ := hS
    have hP := hW.1
    have hQ := hW.2.1
    rw [dT c, x_sheetAt_ok (by omega), bd_s, oc_sh (by omega), m_r3, hW.2.2.1, show x 2 0 = nI P from hR.1.1, x_within, m_in, bd_s, bd_s, bI_ite1, bI_ite1]
    by_cases d1 : (-1:Int32) ≤ p2 ∧ p2 ≤ nI P - 1
    · have hwh : p2 = -1 ∨ ∃ p, p < P ∧ p2 = nI p := by
        by_cases z : p2 = -1
        · exact Or.inl z
        · right
          refine (le_pred (N := P) (by omega)).mp ⟨?_, d1.2⟩
          have h1 := Int32.le_iff_toInt_le.mp d1.1
          have h2 : (-1 : Int32).toInt = -1 := by decide
          have h3 : p2.toInt ≠ -1 := fun q => z (Int32.toInt_inj.mp (by rw [q, h2]))
          apply Int32.le_iff_toInt_le.mpr
          have h4 : (0 : Int32).toInt = 0 := by decide
          omega
      rw [dT d1, dT d1, x_isMissing, bd_s, bI_ite1, ald_nI (by omega) (by omega), r1]
      by_cases c0 : y 110 s = 0
      · rw [dT c0, if_pos c0]
        exact st_fail h 2 _ _ (by omega) rfl (by decide)
      · rw [dF c0, if_neg c0, ald_nI (by omega) (by omega), m_r8, l2, l3, hW.2.2.2.1, show x 2 5 = nI Q from hR.1.2.1]
        by_cases e : nI l = nI Q
        · rw [if_pos e, if_pos e]
          obtain ⟨xf, f1, f2, f3⟩ := x_fill hR hW hl1
          have hRf : RT xf 2 (y 101) P Q := RT_congr ⟨hP, hQ⟩ (fun k k1 k2 => f2 k (by omega) (by omega) (by omega)) (fun _ _ => rfl) hR
          obtain ⟨xa, a1, a2, a3⟩ := x_begin (Or.inl rfl) hRf hW 0
          have hca : ∀ c, ¬ (58 ≤ c ∧ c ≤ 63) → xa c = xf c := fun c hc => a2 c (by omega) (by omega) (by omega) (by omega) (by omega) (by omega)
          have hlen := comp_lenP (ok := okY y Q) hP
          obtain ⟨x1, b1, b2, b3⟩ := cx_fits (g := x (72 + 2 * s)) (by omega : s < 4) hW hwh (comp (okY y Q) P []) xa 0 0 FU (RT_congr ⟨hP, hQ⟩ (fun k k1 k2 => hca k (by omega)) (fun _ _ => rfl) hRf) (by rw [hca 79 (by omega)]; exact f3) (fun j hj => by rw [hca _ (by omega), f2 _ (by omega) (by omega) (by omega)]) a3 (by omega) (FU_lt (by omega))
          obtain ⟨y0, m1, m2, m3, m4⟩ := m_moveAll (y := y) (a := 101) (b := 103) rfl rfl (by omega)
          have e0 : y0 101 = y 101 := m4 101 (by omega)
          obtain ⟨y1, c1, c2, c3⟩ := y_isFirst (y := y0) (by rw [e0]; exact hW)
          have eok : okY y0 Q = okY y Q := by unfold okY; rw [e0]
          rw [eok] at c1 c3
          obtain ⟨y2, g1, g2, g3, g4, g5⟩ := cy_fits (x := x) (g := x (72 + 2 * s)) (what := p2) (by omega : s < 4) hW hl0 hl1 (comp (okY y Q) P []) y1 0 FU (by omega) (by rw [c2 101 (by omega)]; exact e0) (fun i hi => by rw [c2 103 (by omega)]; exact m2 i hi) (fun j hj => by rw [c2 112 (by omega), m4 112 (by omega)]; exact (r3 j hj).symm) c3 (FU_lt (by omega))
          have hFY : FYk y y2 := FYk_trans (FYk_c (Or.inr (Or.inl rfl)) m4) (FYk_trans (FYk_n (FYn_of c2)) g3)
          have hRel : Rel n x1 y2 := Rel_thought79 h (fun c z1 z2 z3 z4 z5 z6 => by
            rw [b1 c (by omega) (by omega) (by omega) (by omega) (by omega) (by omega), hca c (by omega)]
            exact f2 c z6 z4 z5) hFY (fun i => by rw [g2])
          rw [f1, bd_s, a1, bd_s, m1, bd_s, c1, bd_s]
          have eY : f_X9_fits_82 (nI s) p2 0 (bI (!(comp (okY y Q) P []).isEmpty)) y1 = _ := g1
          rw [eY]
          rcases hwh with hw | ⟨p, hp, hw⟩
          · have eX : f_X8_fits_91 (71 + 2 * s) p2 0 0 xa = _ := b2 hw
            rw [eX, hw]
            unfold f_X9_fits_226 f_X9_fits_241
            rw [if_pos (by decide), if_neg (by decide)]
            exact Rel_same hRel rfl rfl
          · have hneg : ¬ p2 < 0 := by rw [hw]; exact nI_pos (by omega)
            unfold f_X9_fits_226 f_X9_fits_241
            rw [if_neg hneg]
            rcases b3 hneg with ⟨j1, j2⟩ | ⟨r, F, f, j1, j2, j3, j4⟩
            · have eX : f_X8_fits_91 (71 + 2 * s) p2 0 0 xa = _ := j2
              rw [eX]
              have e00 : nI (0 + ((comp (okY y Q) P []).filter (pyB (y 101) Q (x (72 + 2 * s)))).length) = 0 := by
                have j1' : (comp (okY y Q) P []).filter (pyB (y 101) Q (x (72 + 2 * s))) = [] := j1
                rw [j1']; rfl
              rw [e00, if_neg (fun z => z rfl)]
              exact st_fail hRel 2 _ _ (by omega) rfl (by decide)
            · have eX : f_X8_fits_91 (71 + 2 * s) p2 0 0 xa = _ := j4
              rw [eX]
              obtain ⟨k1, f', k2, k3⟩ := g5 rfl r F j1
              have hlF : ((comp (okY y Q) P []).filter (pyB (y 101) Q (x (72 + 2 * s)))).length ≤ (comp (okY y Q) P []).length := List.length_filter_le _ _
              have hlF1 : 1 ≤ ((comp (okY y Q) P []).filter (pyB (y 101) Q (x (72 + 2 * s)))).length := by
                have j1' : (comp (okY y Q) P []).filter (pyB (y 101) Q (x (72 + 2 * s))) = r :: F := j1
                rw [j1', List.length_cons]; omega
              rw [if_pos (nI_ne0 (by omega) (by omega)), if_pos (Int32.not_lt.mp hneg), hw, ald_nI (by omega) (by omega), nI_ix (by omega)]
              refine ⟨f p, x1, y2, rfl, ?_, Rel_mono _ _ _ hRel⟩
              rw [k3 p hp, RW_eq k2 j2 p (by omega)]
        · rw [if_neg e, if_neg e]
          exact st_fail h 2 _ _ (by omega) rfl (by decide)
    · rw [dF d1, dF d1]
      exact st_fail h 1 _ _ (by omega) rfl (by decide)
  · rw [dF c, x_sheetAt_no c, bd_s, oc_n]
    exact st_fail h 1 _ _ (by omega) rfl (by decide)
end FU2
