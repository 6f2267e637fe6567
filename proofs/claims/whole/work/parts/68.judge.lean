section JU
theorem cd_or {Q : Nat} (hQ : Q ≤ 6) (v : Int32) : (∃ k, k ≤ Q ∧ v = nI k - 1) ∨ (v ≠ -1 ∧ ∀ q, q < Q → v ≠ nI q) := by
  by_cases h1 : v = -1
  · exact Or.inl ⟨0, by omega, h1⟩
  · by_cases h2 : ∃ q, q < Q ∧ v = nI q
    · obtain ⟨q, hq, e⟩ := h2
      exact Or.inl ⟨q + 1, by omega, by rw [cd_succ]; exact e⟩
    · exact Or.inr ⟨h1, fun q hq e => h2 ⟨q, hq, e⟩⟩
theorem no_pl {Q : Nat} (hQ : Q ≤ 6) {v : Int32} (h : ∀ q, q < Q → v ≠ nI q) : ¬ (0 ≤ v ∧ v ≤ nI Q - 1) := fun z => by
  obtain ⟨q, hq, e⟩ := (le_pred (N := Q) (by omega)).mp z
  exact h q hq e
theorem m_canBe_no {y : Wd} {P Q a : Nat} {v : Int32} (hW : WF (y 101) P Q) (ha : a < P) (h1 : v ≠ -1) (h2 : ∀ q, q < Q → v ≠ nI q) : f_X9_canBe y (nI a) v = some 0 := by
  have hP := hW.1
  have hQ := hW.2.1
  obtain ⟨n0, hn0, e0⟩ := hW.2.2.2.2.1
  obtain ⟨fu, hfu⟩ : ∃ f, FU = f + 1 := ⟨1999999, rfl⟩
  have h0 : ∀ x1 x2 : Int32, f_X9_canBe_42 y x1 x2 0 = some 0 := fun x1 x2 => by
    unfold f_X9_canBe_42 f_X9_canBe_45
    rw [hfu, lp_s]
    show fb_X9_canBe_45 y _ x1 x2 0 0 = some 0
    unfold fb_X9_canBe_45
    by_cases q : x1 ≤ 0
    · rw [if_pos q]; rfl
    · rw [if_neg q, if_pos rfl]; rfl
  unfold f_X9_canBe f_X9_canBe_26
  rw [m_isEmpty (by omega) (by omega : n0 ≤ 1000000) e0, bd_s, m_isPlayer hQ hW.2.2.2.1, bd_s, decide_eq_false (no_pl hQ h2), bI_ite0]
  cases emR (y 101) a with
  | true => rw [if_pos rfl, if_pos h1, if_pos rfl, h0]
  | false => rw [if_neg (by decide), if_pos bI_f, bI_f, h0]
theorem x_free68 {x : Wd} {q : Nat} {t0 : Int32} (hq : q < 32) : f_X8_isFree_68 x (nI q) t0 = some (bI (bt t0 q)) := by
  unfold f_X8_isFree_68
  rw [and1_bI hq]
  cases bt t0 q with
  | true => rw [if_neg (fun z => z rfl)]; rfl
  | false => rw [if_pos (by decide)]; rfl
theorem x_isFree_no {x : Wd} {P Q a : Nat} {r : Rw} {v tk : Int32} (hR : RT x 2 r P Q) (hW : WF r P Q) (ha : a < P) (h1 : v ≠ -1) (h2 : ∀ q, q < Q → v ≠ nI q) : f_X8_isFree x (nI a) v tk = some 0 := by
  unfold f_X8_isFree
  rw [x_isEmpty hR hW.1 ha, bd_s, x_hasPlayer hR.1.2.1 hW.2.1, bd_s, decide_eq_false (no_pl hW.2.1 h2), bI_ite0]
  cases emR r a with
  | true => rw [if_pos rfl, if_pos h1]
  | false => rw [if_neg (by decide), if_neg (fun z => z bI_f)]
theorem x_isFree {x : Wd} {P Q k : Nat} {r : Rw} {tk : Int32} {f : Nat → Int32} {rp : Rp} (hR : RT x 2 r P Q) (hW : WF r P Q) (hRW : RW f rp) (hG : GD (mbE r Q 0) rp) (ha : rp.length < P) (hk : k ≤ Q) (htk : ∀ q, q < 6 → bt tk q = !chk (alE r) rp (q + 1)) : f_X8_isFree x (nI rp.length) (nI k - 1) tk = some (bI (okE (mbE r Q 0) (alE r) rp k)) := by
  have hP := hW.1
  have hQ := hW.2.1
  unfold f_X8_isFree
  rw [x_isEmpty hR hP ha, bd_s, x_hasPlayer hR.1.2.1 hQ, bd_s, x_isShared hR hW ha, bd_s]
  obtain ⟨m, m1, m2⟩ := x_whoMay rfl hR hW ha
  rw [m1, bd_s, bd_s, bI_ite0]
  have hcdm : ∀ q : Nat, q ≤ 1000 → ¬ nI q = (-1 : Int32) := fun q hq h => neg1 (by omega) h.symm
  cases hem : emR r rp.length with
  | true =>
    rw [if_pos rfl]
    cases k with
    | zero =>
      rw [if_neg (fun z => z (by decide))]
      have e1 : okE (mbE r Q 0) (alE r) rp 0 = true := by
        unfold okE mbE alE
        rw [if_pos rfl, hem]; rfl
      rw [e1]; rfl
    | succ q =>
      rw [cd_succ, if_pos (hcdm q (by omega))]
      have e1 : okE (mbE r Q 0) (alE r) rp (q + 1) = false := by
        unfold okE mbE
        rw [if_neg (by omega), hem]; rfl
      rw [e1]; rfl
  | false =>
    rw [if_neg (by decide)]
    cases k with
    | zero =>
      rw [decide_eq_false (by
        rintro ⟨h, -⟩
        exact absurd h (by decide)), if_neg (fun z => z bI_f)]
      have e1 : okE (mbE r Q 0) (alE r) rp 0 = false := by
        unfold okE mbE
        rw [if_pos rfl, hem]; rfl
      rw [e1]; rfl
    | succ q =>
      rw [cd_succ, decide_eq_true ((le_pred (N := Q) (by omega)).mpr ⟨q, by omega, rfl⟩), if_pos (by decide), x_free68 (by omega), x_free68 (by omega), b_and, b_not _ (by omega), m2 q (by omega), decide_eq_true (by omega : q < Q), htk q (by omega), bI_ite0]
      have hmb : mbE r Q 0 rp.length (q + 1) = mayR r q rp.length := by
        unfold mbE
        rw [if_neg (by omega), hem, decide_eq_true hk, Nat.add_sub_cancel, b_0]
        simp
      unfold okE
      rw [hmb]
      unfold alE
      rw [hem]
      cases dbR r rp.length with
      | true => rw [if_pos rfl]; simp
      | false => rw [if_neg (by decide)]; simp
theorem x_fw_end {x : Wd} {b P l : Nat} (h0 : x 2 0 = nI P) (hb : x b 1 = nI l) (hP : P ≤ 5) (hl : l ≤ 40) : f_X8_firstWrong_87 b x = some (if l ≤ P then -1 else nI P) := by
  unfold f_X8_firstWrong_87
  rw [h0, hb]
  by_cases z : l ≤ P
  · rw [if_pos (nI_le z (by omega)), if_pos z]
  · rw [if_neg (nI_ge (by omega) (by omega)), if_neg z]
theorem fw_go {x : Wd} {P Q s l : Nat} {r : Rw} (hs : s < 4) (hR : RT x 2 r P Q) (hW : WF r P Q) (hxl : x (71 + 2 * s) 1 = nI l) (hl : l ≤ 40) : ∀ (d i : Nat) (rp : Rp) (tk : Int32) (y : Wd) (fx fy : Nat), i + d = P → d < fx → d < fy → rp.length = i → i ≤ l → y 101 = r → y 111 s = nI l → (∀ j, j < 40 → x (72 + 2 * s) j = y 112 (40 * s + j)) → RW (x (72 + 2 * s)) rp → RW (y 106) rp → GD (mbE r Q 0) rp → (∀ q, q < 6 → bt tk q = !chk (alE r) rp (q + 1)) →
    ∃ v y', lp (fun _ _ => none) (fun rec => fb_X8_firstWrong_13 (71 + 2 * s) x rec) fx tk (nI i) = some v ∧ lp (fun _ _ _ => none) (fun rec => fb_X9_wrong_2 rec) fy (nI s) (nI i) y = some (v, y') ∧ FY y y' ∧ ((∃ j, j ≤ 5 ∧ v = nI j) ∨ (v = -1 ∧ (∀ j, j < P → x (72 + 2 * s) j = y' 106 j) ∧ RF (y' 106) P Q)) := by
  have hP := hW.1
  have hQ := hW.2.1
  intro d
  induction d with
  | zero =>
    intro i rp tk y fx fy h1 h2 h3 hlen hil h101 h111 hsh hRx hRy hG htk
    obtain ⟨f, rfl⟩ : ∃ f, fx = f + 1 := ⟨fx - 1, by omega⟩
    obtain ⟨g, rfl⟩ : ∃ f, fy = f + 1 := ⟨fy - 1, by omega⟩
    have hi : i = P := by omega
    subst hi
    have eX : ∀ u, fb_X8_firstWrong_13 (71 + 2 * s) x u tk (nI i) = some (if l ≤ i then -1 else nI i) := fun u => by
      unfold fb_X8_firstWrong_13
      rw [hR.1.1, if_pos (nI_le (Nat.le_refl _) (by omega))]
      exact x_fw_end hR.1.1 hxl hP hl
    have eY : ∀ u, fb_X9_wrong_2 u (nI s) (nI i) y = some ((if l ≤ i then -1 else nI i), y) := fun u => by
      unfold fb_X9_wrong_2 f_X9_wrong_64
      rw [m_r3, h101, hW.2.2.1, if_pos (nI_le (Nat.le_refl _) (by omega)), m_r3, h101, hW.2.2.1, if_neg (fun z => z rfl), ald_nI (by omega) (by omega), h111]
      by_cases z : l ≤ i
      · have : i = l := by omega
        subst this
        rw [if_neg (fun z => z rfl), if_pos (Nat.le_refl _)]
      · rw [if_pos (fun z' => by rw [nI_eq (by omega) (by omega)] at z'; omega), if_neg z]
    rw [lp_s, lp_s]
    refine ⟨_, y, eX _, eY _, fun _ _ => rfl, ?_⟩
    by_cases z : l ≤ i
    · rw [if_pos z]
      refine Or.inr ⟨rfl, fun j hj => RW_eq hRx hRy j (by omega), ?_⟩
      exact RF_of hG hRy hlen
    · rw [if_neg z]
      exact Or.inl ⟨i, hP, rfl⟩
  | succ d ih =>
    intro i rp tk y fx fy h1 h2 h3 hlen hil h101 h111 hsh hRx hRy hG htk
    obtain ⟨f, rfl⟩ : ∃ f, fx = f + 1 := ⟨fx - 1, by omega⟩
    obtain ⟨g, rfl⟩ : ∃ f, fy = f + 1 := ⟨fy - 1, by omega⟩
    rw [lp_s, lp_s]
    have e64 : f_X9_wrong_64 (nI s) (nI i) y = some (nI i, y) := by
      unfold f_X9_wrong_64
      rw [m_r3, h101, hW.2.2.1, if_pos (fun z => by rw [nI_eq (by omega) (by omega)] at z; omega)]
    by_cases z : l ≤ i
    · have eX : ∀ u, fb_X8_firstWrong_13 (71 + 2 * s) x u tk (nI i) = some (nI i) := fun u => by
        unfold fb_X8_firstWrong_13
        rw [hR.1.1, if_neg (nI_ge (by omega) (by omega)), hxl, if_pos (nI_le z (by omega))]
      have eY : ∀ u, fb_X9_wrong_2 u (nI s) (nI i) y = some (nI i, y) := fun u => by
        unfold fb_X9_wrong_2
        rw [m_r3, h101, hW.2.2.1, if_neg (nI_ge (by omega) (by omega)), ald_nI (by omega) (by omega), h111, if_pos (nI_le z (by omega)), e64]
      exact ⟨nI i, y, eX _, eY _, fun _ _ => rfl, Or.inl ⟨i, by omega, rfl⟩⟩
    · have hv : x (71 + 2 * s + 1) i = y 112 (40 * s + i) := by rw [show 71 + 2 * s + 1 = 72 + 2 * s by omega]; exact hsh i (by omega)
      have eX : ∀ u, fb_X8_firstWrong_13 (71 + 2 * s) x u tk (nI i) = bd (f_X8_isFree x (nI i) (y 112 (40 * s + i)) tk) (fun q2 => (if ¬ q2 = 0 then (if emR r i = true then u tk (nI (i + 1)) else if dbR r i = true then u tk (nI (i + 1)) else u (tk ||| ((1:Int32) <<< ((y 112 (40 * s + i)) &&& 31))) (nI (i + 1))) else some (nI i))) := fun u => by
        unfold fb_X8_firstWrong_13 f_X8_firstWrong_81
        rw [hR.1.1, if_neg (nI_ge (by omega) (by omega)), hxl, if_neg (nI_ge (by omega) (by omega)), ald_nI (by omega) (by omega), hv, x_isEmpty hR hP (by omega), bd_s, x_isShared hR hW (by omega), bd_s, ald_nI (by omega) (by omega), hv, nI_1, lv_s]
        congr 1
        funext q2
        rw [bI_ite1, bI_ite1]
      have eY : ∀ u, fb_X9_wrong_2 u (nI s) (nI i) y = bd (f_X9_canBe y (nI i) (y 112 (40 * s + i))) (fun q4 => (if q4 = 0 then some (nI i, y) else u (nI s) (nI (i + 1)) (updW y 106 i (y 112 (40 * s + i))))) := fun u => by
        unfold fb_X9_wrong_2
        rw [m_r3, h101, hW.2.2.1, if_neg (nI_ge (by omega) (by omega)), ald_nI (by omega) (by omega), h111, if_neg (nI_ge (by omega) (by omega)), ix_40, ald_nI (by omega) (by omega), e64, ald_nI (by omega) (by omega), ast_nI (by omega) (by omega), nI_1]
      have hWy : WF (y 101) P Q := by rw [h101]; exact hW
      rcases cd_or hQ (y 112 (40 * s + i)) with ⟨k, hk, ek⟩ | ⟨b1, b2⟩
      · have c1 := m_canBe (rp := rp) (k := k) hWy hRy (by rw [h101]; exact hG) (by omega) hk
        have c2 := x_isFree (rp := rp) (k := k) hR hW hRx hG (by omega) hk htk
        rw [hlen, ← ek] at c1 c2
        rw [h101] at c1
        cases hok : okE (mbE r Q 0) (alE r) rp k with
        | false =>
          rw [hok] at c1 c2
          refine ⟨nI i, y, (eX _).trans ?_, (eY _).trans ?_, fun _ _ => rfl, Or.inl ⟨i, by omega, rfl⟩⟩
          · rw [c2, bd_s, if_neg (fun z => z bI_f)]
          · rw [c1, bd_s, if_pos bI_f]
        | true =>
          rw [hok] at c1 c2
          have hmb : mbE r Q 0 rp.length k = true := by
            unfold okE at hok
            rw [Bool.and_eq_true] at hok
            exact hok.1
          have hok0 := hok
          generalize htk' : (if emR r i = true then tk else if dbR r i = true then tk else (tk ||| ((1:Int32) <<< ((y 112 (40 * s + i)) &&& 31)))) = tk'
          have htb : ∀ q, q < 6 → bt tk' q = !chk (alE r) (k :: rp) (q + 1) := fun q hq => by
            rw [chk_cons, hlen, ← htk']
            unfold alE
            cases hem : emR r i with
            | true => rw [if_pos rfl, htk q hq]; unfold alE; simp
            | false =>
              rw [if_neg (by decide)]
              cases hdb : dbR r i with
              | true => rw [if_pos rfl, htk q hq]; unfold alE; simp
              | false =>
                have hk1 : 1 ≤ k := by
                  rcases Nat.eq_zero_or_pos k with z | z
                  · subst z
                    unfold mbE at hmb
                    rw [if_pos rfl, hlen, hem] at hmb
                    exact absurd hmb (by decide)
                  · exact z
                have ek2 : y 112 (40 * s + i) = nI (k - 1) := by
                  rw [ek, show k = k - 1 + 1 by omega, cd_succ]; rfl
                rw [if_neg (by decide), b_or, ek2, b_sh1 (by omega) (by omega), htk q hq]
                unfold alE
                by_cases e : q = k - 1
                · rw [decide_eq_true e, decide_eq_true (show k = q + 1 by omega)]; simp
                · rw [decide_eq_false e, decide_eq_false (show ¬ k = q + 1 by omega)]; simp
          obtain ⟨v, y', g1, g2, g3, g4⟩ := ih (i + 1) (k :: rp) tk' (updW y 106 i (y 112 (40 * s + i))) f g (by omega) (by omega) (by omega) (by rw [List.length_cons, hlen]) (by omega) (by rw [updW_cell (by omega)]; exact h101) (by rw [updW_cell (by omega)]; exact h111) (fun j hj => by rw [updW_cell (by omega)]; exact hsh j hj) ⟨by rw [hlen, hsh i (by omega), ek], by omega, hRx⟩ ⟨by rw [hlen, updW_self, ek], by omega, RW_congr (fun j hj => updW_place (by omega)) hRy⟩ ⟨hmb, hG⟩ htb
          refine ⟨v, y', (eX _).trans ?_, (eY _).trans ?_, fun c hc => by rw [g3 c hc, updW_cell hc], g4⟩
          · rw [c2, bd_s, if_pos (by decide)]
            rw [← g1, ← htk']
            cases emR r i with
            | true => rw [if_pos rfl, if_pos rfl]
            | false =>
              rw [if_neg Bool.false_ne_true, if_neg Bool.false_ne_true]
              cases dbR r i with
              | true => rw [if_pos rfl, if_pos rfl]
              | false => rw [if_neg Bool.false_ne_true, if_neg Bool.false_ne_true]
          · rw [c1, bd_s, if_neg (by decide)]
            exact g2
      · refine ⟨nI i, y, (eX _).trans ?_, (eY _).trans ?_, fun _ _ => rfl, Or.inl ⟨i, by omega, rfl⟩⟩
        · rw [x_isFree_no hR hW (by omega) b1 b2, bd_s, if_neg (fun z => z rfl)]
        · rw [m_canBe_no hWy (by omega) b1 b2, bd_s, if_pos rfl]
theorem wrong_both {n : Nat} {x y : Wd} {s P Q n' : Nat} (h : Rel n x y) (hS : SR x y 2 P Q n') (hs : s < 4) : ∃ v y', f_X8_firstWrong (71 + 2 * s) x = some v ∧ f_X9_wrong (nI s) y = some (v, y') ∧ FY y y' ∧ ((∃ j, j ≤ 5 ∧ v = nI j) ∨ (v = -1 ∧ (∀ j, j < P → x (72 + 2 * s) j = y' 106 j) ∧ RF (y' 106) P Q)) := by
  obtain ⟨-, ⟨l, l1, l2, l3⟩, r3⟩ := h.2.2.2.1 s hs
  exact fw_go hs hS.1 hS.2.1 l3 l1 P 0 [] 0 y FU FU (by omega) (FU_lt (by have := hS.2.1.1; omega)) (FU_lt (by have := hS.2.1.1; omega)) rfl (by omega) rfl l2 r3 trivial trivial trivial (fun q hq => by rw [b_0]; rfl)
theorem st_judge : St_judge Rel := by
  intro n x y p1 hn h
  unfold f_X8_judge f_X9_judge
  rw [m_isSheet, bd_s, bI_ite1]
  by_cases c : 0 ≤ p1 ∧ p1 ≤ 3
  · obtain ⟨s, hs, rfl⟩ := (in_nI (N := 3) (by omega)).mp c
    obtain ⟨⟨r1, r1'⟩, ⟨l, l1, l2, l3⟩, r3⟩ := h.2.2.2.1 s (by omega)
    obtain ⟨P, Q, n', hn', hS⟩ := SR_of h
    rw [dT c, x_sheetAt_ok (by omega), bd_s, oc_sh (by omega), x_isMissing, bd_s, bI_ite0, ald_nI (by omega) (by omega), r1]
    by_cases c0 : y 110 s = 0
    · rw [dT c0, if_neg (fun q => q c0)]
      exact st_fail h 2 _ _ (by omega) rfl (by decide)
    · rw [dF c0, if_pos c0]
      obtain ⟨v, y', g1, g2, g3, g4⟩ := wrong_both h hS (by omega : s < 4)
      rw [g1, bd_s, g2, bd_s]
      have e : y' 101 = y 101 := g3 101 (by omega)
      have hR' : Rel n x y' := Rel_thought h (FXt_refl _ _) (FYk_n (FYn_of g3)) (fun i => by rw [e])
      exact Rel_same hR' rfl rfl
  · rw [dF c, x_sheetAt_no c, bd_s, oc_n]
    exact st_fail h 1 _ _ (by omega) rfl (by decide)
theorem lenSh {s : Nat} (hs : s < 4) : 5 ≤ lenX (72 + 2 * s) ∧ lenX (72 + 2 * s) ≤ 1000 := by
  rcases (by omega : s = 0 ∨ s = 1 ∨ s = 2 ∨ s = 3) with rfl | rfl | rfl | rfl <;> exact ⟨by decide, by decide⟩
theorem st_cast : St_cast Rel := by
  intro n x y p1 hn h
  unfold f_X8_cast f_X9_cast f_X8_cast_53 f_X9_cast_50
  rw [m_isSheet, bd_s, bI_ite1]
  by_cases c : 0 ≤ p1 ∧ p1 ≤ 3
  · obtain ⟨s, hs, rfl⟩ := (in_nI (N := 3) (by omega)).mp c
    obtain ⟨⟨r1, r1'⟩, ⟨l, l1, l2, l3⟩, r3⟩ := h.2.2.2.1 s (by omega)
    obtain ⟨P, Q, n', hn', hS⟩ := SR_of h
    rw [dT c, x_sheetAt_ok (by omega), bd_s, oc_sh (by omega), x_isMissing, bd_s, bI_ite0, ald_nI (by omega) (by omega), r1]
    by_cases c0 : y 110 s = 0
    · rw [dT c0, if_neg (fun q => q c0)]
      exact st_fail h 2 _ _ (by omega) rfl (by decide)
    · rw [dF c0, if_pos c0]
      obtain ⟨v, y', g1, g2, g3, g4⟩ := wrong_both h hS (by omega : s < 4)
      rw [g1, bd_s, g2, bd_s]
      dsimp only
      have e : y' 101 = y 101 := g3 101 (by omega)
      have hR' : Rel n x y' := Rel_thought h (FXt_refl _ _) (FYk_n (FYn_of g3)) (fun i => by rw [e])
      have hS' : SR x y' 2 P Q n' := by
        obtain ⟨a1, a2, a3, a4, a5⟩ := hS
        exact ⟨by rw [e]; exact a1, by rw [e]; exact a2, by rw [e]; exact a3, by rw [e]; exact a4, by rw [e]; exact a5⟩
      rcases g4 with ⟨j, hj, ev⟩ | ⟨ev, hf, hRF⟩
      · rw [ev, if_pos (nI_pos' (by omega)), if_pos (nI_pos' (by omega))]
        exact st_fail hR' 3 _ _ (by omega) rfl (by decide)
      · rw [ev, if_neg (show ¬ (0:Int32) ≤ -1 by decide), if_neg (show ¬ (0:Int32) ≤ -1 by decide), m_r0, hS'.2.2.2.2, hS'.1.1.2.2.2, hS'.2.2.2.2]
        by_cases c2 : n' = 9999
        · subst c2
          rw [if_neg (by decide), if_neg (fun z => z rfl)]
          exact st_fail hR' 3 _ _ (by omega) rfl (by decide)
        · obtain ⟨x2, y2, k1, k2, k3, k4, k5⟩ := night_both (b1 := 72 + 2 * s) (Or.inl rfl) hS' (by omega) (Or.inr ⟨s, by omega, rfl⟩) (lenSh (by omega)) hf hRF
          rw [if_pos (show nI n' < 9999 from nI_lt (b := 9999) (by omega) (by omega)), if_pos (show ¬ nI n' = 9999 from fun z => by rw [show (9999:Int32) = nI 9999 from rfl, nI_eq (by omega) (by omega)] at z; omega), show 71 + 2 * s + 1 = 72 + 2 * s by omega, k1, bd_s, k2, bd_s, m_r0]
          have hR2 : Rel n x2 y2 := Rel_live hR' k3 (by omega) k4 (FYk_n k5) (fun i hi => k5.2.2 i (by omega))
          refine ⟨x2 2 12, x2, y2, rfl, ?_, Rel_mono _ _ _ hR2⟩
          rw [k3.1.1.2.2.2]
  · rw [dF c, x_sheetAt_no c, bd_s, oc_n]
    exact st_fail h 1 _ _ (by omega) rfl (by decide)
end JU
