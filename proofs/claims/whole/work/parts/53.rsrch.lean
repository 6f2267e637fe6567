section YG
def FY (y y' : Wd) : Prop := ∀ c, c ≠ 106 → y' c = y c
theorem FY_trans {x y z : Wd} (h1 : FY x y) (h2 : FY y z) : FY x z := fun c hc => by rw [h2 c hc, h1 c hc]
abbrev okY (y : Wd) (Q : Nat) : Rp → Nat → Bool := okE (mbE (y 101) Q 0) (alE (y 101))
/-- at the level behind rp, codes below t tried -/
def YC (y : Wd) (P Q : Nat) (rp : Rp) (t : Nat) : Prop := RW (y 106) rp ∧ GD (mbE (y 101) Q 0) rp ∧ rp.length < P ∧ y 106 rp.length = nI t - 2 ∧ (emR (y 101) rp.length = true → t ≤ 1) ∧ (emR (y 101) rp.length = false → 1 ≤ t) ∧ t ≤ Q + 1
def YN (y : Wd) (P Q : Nat) (rp : Rp) : Prop := RW (y 106) rp ∧ GD (mbE (y 101) Q 0) rp ∧ rp.length = P
theorem okY_big {y : Wd} {Q k : Nat} {rp : Rp} (h : Q < k) : okY y Q rp k = false := by
  unfold okY okE mbE
  rw [if_neg (by omega), decide_eq_false (by omega)]
  simp
theorem cd_m2 : ∀ t, t ≤ 7 → nI t - 2 + 1 = nI t - 1 := by decide +kernel
theorem cd_m3 : ∀ k, k < 7 → nI k - 1 = nI (k + 1) - 2 := by decide +kernel
theorem y_in {g : Int32 → Wd → Option (Int32 × Wd)} {y : Wd} {P Q t : Nat} {rp : Rp} (hW : WF (y 101) P Q) (hC : YC y P Q rp t) : ∃ k, t ≤ k ∧ k ≤ Q + 1 ∧ (∀ i, t ≤ i → i < k → okY y Q rp i = false) ∧ (k ≤ Q → okY y Q rp k = true) ∧ f_X9_goesOnFrom_25 g (nI rp.length) (nI t - 1) y = f_X9_goesOnFrom_51 g (nI rp.length) (nI k - 1) y := by
  have hP := hW.1
  have hQ := hW.2.1
  obtain ⟨c1, c2, c3, c4, c5, c6, c7⟩ := hC
  unfold f_X9_goesOnFrom_25
  exact lp_ex (z := fun _ _ _ => none) (F := fun rec => fb_X9_goesOnFrom_25 g rec) (fun g (s : Unit) i => g (nI rp.length) (nI i - 1) y) (Q + 1) (fun i s => t ≤ i ∧ ∀ j, t ≤ j → j < i → okY y Q rp j = false) (fun res => ∃ k, t ≤ k ∧ k ≤ Q + 1 ∧ (∀ i, t ≤ i → i < k → okY y Q rp i = false) ∧ (k ≤ Q → okY y Q rp k = true) ∧ res = f_X9_goesOnFrom_51 g (nI rp.length) (nI k - 1) y) (fun h i s hi hI => by
    unfold fb_X9_goesOnFrom_25
    rw [m_r8, hW.2.2.2.1, if_neg (fun z => absurd ((cd_le (by omega) (by omega)).mp z) (by omega)), m_canBe hW c1 c2 c3 (by omega), bd_s, bI_ite1]
    cases hb : okE (mbE (y 101) Q 0) (alE (y 101)) rp i with
    | true =>
      left
      exact ⟨i, hI.1, by omega, hI.2, fun _ => hb, by rw [if_pos rfl]⟩
    | false =>
      right
      refine ⟨(), ⟨by omega, fun j h1 h2 => ?_⟩, by rw [if_neg (by decide), cd_next]⟩
      by_cases e : j = i
      · subst e; exact hb
      · exact hI.2 j h1 (by omega)) (fun h s hI => by
    unfold fb_X9_goesOnFrom_25
    rw [m_r8, hW.2.2.2.1, if_pos ((cd_le (by omega) (by omega)).mpr (Nat.le_refl _))]
    exact ⟨Q + 1, hI.1, Nat.le_refl _, hI.2, fun z => by omega, rfl⟩) (Q + 1 - t) t () FU (by omega) (FU_lt (by omega)) ⟨Nat.le_refl _, fun j h1 h2 => by omega⟩
theorem y_chain {g : Int32 → Wd → Option (Int32 × Wd)} {y : Wd} {P Q t k : Nat} {rp : Rp} (hW : WF (y 101) P Q) (hC : YC y P Q rp t) (h1 : t ≤ k) (h2 : k ≤ Q + 1) (h3 : ∀ i, t ≤ i → i < k → okY y Q rp i = false) (h4 : k ≤ Q → okY y Q rp k = true) : f_X9_goesOnFrom_51 g (nI rp.length) (nI k - 1) y = f_X9_goesOnFrom_97 g (nI rp.length) (nI k - 1) y := by
  have hP := hW.1
  have hQ := hW.2.1
  obtain ⟨n0, hn0, e0⟩ := hW.2.2.2.2.1
  obtain ⟨c1, c2, c3, c4, c5, c6, c7⟩ := hC
  have hemp := m_isEmpty (y := y) (p := rp.length) (by omega) (by omega : n0 ≤ 1000000) e0
  unfold f_X9_goesOnFrom_51 f_X9_goesOnFrom_71
  rw [hemp, bd_s, bd_s, bd_s, bI_ite0, bI_ite0, bI_ite0]
  cases hem : emR (y 101) rp.length with
  | false => rw [if_neg (by decide), if_neg (by decide)]
  | true =>
    rw [if_pos rfl, if_pos rfl, if_pos rfl, ald_nI (by omega) (by omega), ald_nI (by omega) (by omega), ald_nI (by omega) (by omega), c4]
    have h0 : okY y Q rp 0 = true := by
      unfold okY okE mbE alE
      rw [if_pos rfl, hem]; rfl
    have hs : ∀ i, okY y Q rp (i + 1) = false := fun i => by
      unfold okY okE mbE
      rw [if_neg (by omega), hem]; rfl
    have ht := c5 hem
    rcases (by omega : t = 0 ∨ t = 1) with rfl | rfl
    · have hk : k = 0 := by
        rcases Nat.eq_zero_or_pos k with z | z
        · exact z
        · have := h3 0 (Nat.le_refl _) z
          rw [h0] at this
          exact absurd this (by decide)
      subst hk
      rw [if_neg (by decide), if_pos (by decide)]
      rfl
    · have hk : k = Q + 1 := by
        rcases Nat.lt_or_ge Q k with z | z
        · omega
        · have := h4 z
          rw [show k = k - 1 + 1 by omega, hs] at this
          exact absurd this (by decide)
      subst hk
      rw [if_pos (by decide), if_neg (fun z => z (by decide)), m_r8, hW.2.2.2.1, cd_succ]
theorem y_step {g : Int32 → Wd → Option (Int32 × Wd)} {y : Wd} {P Q t : Nat} {rp : Rp} (hW : WF (y 101) P Q) (hC : YC y P Q rp t) :
    (∃ k y', t ≤ k ∧ k < 7 ∧ okY y Q rp k = true ∧ (∀ i, t ≤ i → i < k → okY y Q rp i = false) ∧ fb_X9_goesOnFrom_2 g (nI rp.length) y = g (nI (rp.length + 1)) y' ∧ FY y y' ∧ (rp.length + 1 < P → ∃ t', YC y' P Q (k :: rp) t' ∧ SE (okY y Q) P (k :: rp) 0 = SE (okY y Q) P (k :: rp) t') ∧ (rp.length + 1 = P → YN y' P Q (k :: rp))) ∨
    ((∀ i, t ≤ i → i < 7 → okY y Q rp i = false) ∧ fb_X9_goesOnFrom_2 g (nI rp.length) y = g (nI rp.length - 1) y) := by
  have hC0 := hC
  have hP := hW.1
  have hQ := hW.2.1
  obtain ⟨n0, hn0, e0⟩ := hW.2.2.2.2.1
  obtain ⟨k, k1, k2, k3, k4, k5⟩ := y_in (g := g) hW hC
  have kc := y_chain (g := g) hW hC k1 k2 k3 k4
  obtain ⟨c1, c2, c3, c4, c5, c6, c7⟩ := hC
  have hfb : fb_X9_goesOnFrom_2 g (nI rp.length) y = f_X9_goesOnFrom_97 g (nI rp.length) (nI k - 1) y := by
    unfold fb_X9_goesOnFrom_2
    rw [if_neg (nI_pos (by omega)), m_r3, hW.2.2.1, if_neg (nI_ge c3 (by omega)), ald_nI (by omega) (by omega), lv_s, c4, cd_m2 t (by omega), k5, kc]
  rw [hfb]
  unfold f_X9_goesOnFrom_97 f_X9_goesOnFrom_147 f_X9_goesOnFrom_154
  rw [m_r8, hW.2.2.2.1]
  by_cases hkQ : k ≤ Q
  · left
    have hok := k4 hkQ
    rw [if_neg (fun z => absurd ((cd_le (by omega) (by omega)).mp z) (by omega)), ast_nI (by omega) (by omega), nI_1, m_r3, updW_cell (by omega), hW.2.2.1]
    have hmb : mbE (y 101) Q 0 rp.length k = true := by
      unfold okY okE at hok
      rw [Bool.and_eq_true] at hok
      exact hok.1
    have hRW : RW (updW y 106 rp.length (nI k - 1) 106) (k :: rp) := ⟨updW_self _ _ _ _, by omega, RW_congr (fun j hj => updW_place (by omega)) c1⟩
    have hcell : ∀ v, updW y 106 rp.length v 101 = y 101 := fun v => updW_cell (by omega)
    by_cases q : P ≤ rp.length + 1
    · rw [if_pos (nI_le q (by omega))]
      refine ⟨k, _, k1, by omega, hok, k3, rfl, fun c hc => updW_cell hc, fun z => by omega, fun z => ⟨hRW, ?_, z⟩⟩
      rw [hcell]
      exact ⟨hmb, c2⟩
    · rw [if_neg (nI_ge (by omega) (by omega)), m_isEmpty (by omega) (by omega : n0 ≤ 1000000) (by rw [hcell]; exact e0), bd_s, bI_ite0, hcell, ast_nI (by omega) (by omega), ast_nI (by omega) (by omega)]
      have hmk : ∀ u, RW (updW (updW y 106 rp.length (nI k - 1)) 106 (rp.length + 1) u 106) (k :: rp) := fun u => RW_congr (fun j hj => updW_place (by rw [List.length_cons] at hj; omega)) hRW
      have hcell2 : ∀ u, updW (updW y 106 rp.length (nI k - 1)) 106 (rp.length + 1) u 101 = y 101 := fun u => by rw [updW_cell (by omega), hcell]
      have hfy : ∀ u, FY y (updW (updW y 106 rp.length (nI k - 1)) 106 (rp.length + 1) u) := fun u c hc => by rw [updW_cell hc, updW_cell hc]
      cases hem : emR (y 101) (rp.length + 1) with
      | true =>
        rw [if_pos rfl]
        refine ⟨k, _, k1, by omega, hok, k3, rfl, hfy _, fun z => ⟨0, ⟨hmk _, ?_, by rw [List.length_cons]; exact z, ?_, ?_, ?_, by omega⟩, rfl⟩, fun z => by omega⟩
        · rw [hcell2]; exact ⟨hmb, c2⟩
        · rw [List.length_cons, updW_self]; decide
        · intro _; omega
        · rw [hcell2, List.length_cons, hem]; intro z; exact absurd z (by decide)
      | false =>
        rw [if_neg (by decide)]
        refine ⟨k, _, k1, by omega, hok, k3, rfl, hfy _, fun z => ⟨1, ⟨hmk _, ?_, by rw [List.length_cons]; exact z, ?_, ?_, ?_, by omega⟩, ?_⟩, fun z => by omega⟩
        · rw [hcell2]; exact ⟨hmb, c2⟩
        · rw [List.length_cons, updW_self]; decide
        · intro _; omega
        · intro _; omega
        · unfold SE
          rw [lev_skip 1 0 (by omega) (fun i a b => ?_)]
          have hi0 : i = 0 := by omega
          subst hi0
          unfold okY okE mbE
          rw [if_pos rfl, List.length_cons, hem]
          rfl
  · right
    have hk : k = Q + 1 := by omega
    subst hk
    rw [if_pos ((cd_le (by omega) (by omega)).mpr (Nat.le_refl _))]
    refine ⟨fun i a b => ?_, ?_⟩
    · rcases Nat.lt_or_ge i (Q + 1) with z | z
      · exact k3 i a z
      · exact okY_big (by omega)
    · rw [show nI rp.length + (-1 : Int32) = nI rp.length - 1 from (Int32.sub_eq_add_neg _ _).symm]
def LgY (k : Nat) : Int32 → Wd → Option (Int32 × Wd) := lp (fun _ _ => none) (fun rec => fb_X9_goesOnFrom_2 rec) k
theorem LgY_s (k : Nat) : LgY (k + 1) = fb_X9_goesOnFrom_2 (LgY k) := rfl
theorem y_stopE {g : Int32 → Wd → Option (Int32 × Wd)} {y : Wd} : fb_X9_goesOnFrom_2 g (-1) y = some (0, y) := by
  unfold fb_X9_goesOnFrom_2 f_X9_goesOnFrom_157
  rw [if_pos (by decide), if_pos (by decide)]
theorem y_stopF {g : Int32 → Wd → Option (Int32 × Wd)} {y : Wd} {P : Nat} (hP : P ≤ 5) (h : y 101 3 = nI P) : fb_X9_goesOnFrom_2 g (nI P) y = some (1, y) := by
  unfold fb_X9_goesOnFrom_2 f_X9_goesOnFrom_157
  rw [if_neg (nI_pos (by omega)), m_r3, h, if_pos (nI_le (Nat.le_refl _) (by omega)), if_neg (nI_pos (by omega))]
theorem y_go {P Q : Nat} : ∀ (m : Nat) (rp : Rp) (t : Nat) (y : Wd) (f : Nat), WF (y 101) P Q → YC y P Q rp t → muE P rp t ≤ m → ∃ y', LgY (f + m + 1) (nI rp.length) y = some (bI (!(SE (okY y Q) P rp t).isEmpty), y') ∧ FY y y' ∧ (SE (okY y Q) P rp t = [] ∨ ∃ r, SE (okY y Q) P rp t = r :: upE (okY y Q) P r ∧ YN y' P Q r ∧ muU P r < m) := by
  intro m
  induction m with
  | zero =>
    intro rp t y f hW hC hmu
    have := mu_none (P := P) (rp := rp) (t := t)
    omega
  | succ m ih =>
    intro rp t y f hW hC hmu
    have hP := hW.1
    have hlt := hC.2.2.1
    rw [LgY_s]
    rcases y_step (g := LgY (f + (m + 1))) hW hC with ⟨k, y1, h1, h2, h3, h4, e1, hF, hm, hfo⟩ | ⟨hno, e1⟩
    · rw [e1]
      have h101 : y1 101 = y 101 := hF 101 (by omega)
      have hokY : okY y1 Q = okY y Q := by unfold okY; rw [h101]
      by_cases q : rp.length + 1 < P
      · obtain ⟨t', hC', eS⟩ := hm q
        have hmu2 := mu_more (P := P) (rp := rp) h1 h2 q t'
        rw [SE_more h1 h2 h3 h4 q, eS]
        obtain ⟨y2, g1, g2, g3⟩ := ih (k :: rp) t' y1 f (by rw [h101]; exact hW) hC' (by omega)
        rw [hokY] at g1 g3
        refine ⟨y2, g1, FY_trans hF g2, ?_⟩
        rcases g3 with g | ⟨r, r1, r2, r3⟩
        · exact Or.inl g
        · exact Or.inr ⟨r, r1, r2, by omega⟩
      · have hlen : rp.length + 1 = P := by omega
        refine ⟨y1, ?_, hF, Or.inr ⟨k :: rp, SE_found h1 h2 h3 h4 hlen, hfo hlen, ?_⟩⟩
        · rw [show f + (m + 1) = f + m + 1 by omega, LgY_s, hlen, y_stopF hP (by rw [h101]; exact hW.2.2.1), SE_found h1 h2 h3 h4 hlen]
          rfl
        · have := mu_found (P := P) (rp := rp) h1 h2
          omega
    · rw [e1, SE_none hno]
      cases rp with
      | nil =>
        refine ⟨y, ?_, fun _ _ => rfl, Or.inl rfl⟩
        rw [show f + (m + 1) = f + m + 1 by omega, LgY_s, show nI ([] : Rp).length - 1 = -1 by decide, y_stopE]
        rfl
      | cons k rest =>
        obtain ⟨⟨d1, d2, d3⟩, ⟨c2, c2'⟩, c3, c4, c5, c6, c7⟩ := hC
        rw [List.length_cons] at hlt
        have hkQ : k ≤ Q := by
          rcases Nat.lt_or_ge Q k with z | z
          · unfold mbE at c2
            rw [if_neg (by omega), decide_eq_false (by omega)] at c2
            simp at c2
          · exact z
        have hC1 : YC y P Q rest (k + 1) := by
          refine ⟨d3, c2', by omega, ?_, fun hem => ?_, fun _ => by omega, by omega⟩
          · exact d1.trans (cd_m3 k d2)
          · unfold mbE at c2
            by_cases ek : k = 0
            · omega
            · rw [if_neg ek, hem] at c2
              simp at c2
        have hmu2 : muE P rest (k + 1) ≤ m := by
          rw [mu_pop]
          have := mu_none (P := P) (rp := k :: rest) (t := t)
          omega
        obtain ⟨y2, g1, g2, g3⟩ := ih rest (k + 1) y f hW hC1 hmu2
        rw [List.length_cons, nI_pred]
        refine ⟨y2, g1, g2, ?_⟩
        rcases g3 with g | ⟨r, r1, r2, r3⟩
        · exact Or.inl g
        · exact Or.inr ⟨r, r1, r2, by omega⟩
def YF (y : Wd) (P Q : Nat) (L : List Rp) : Prop := ∃ rp, YN y P Q rp ∧ muU P rp ≤ 30000 ∧ L = upE (okY y Q) P rp
theorem y_isFirst {y : Wd} {P Q : Nat} (hW : WF (y 101) P Q) : ∃ y', f_X9_isFirst y = some (bI (!(comp (okY y Q) P []).isEmpty), y') ∧ FY y y' ∧ (comp (okY y Q) P [] = [] ∨ ∃ r L', comp (okY y Q) P [] = r :: L' ∧ YN y' P Q r ∧ YF y' P Q L') := by
  have hP := hW.1
  obtain ⟨n0, hn0, e0⟩ := hW.2.2.2.2.1
  obtain ⟨f, hf⟩ : ∃ f, FU = f + 30000 + 1 := ⟨1969999, rfl⟩
  have eL : f_X9_goesOnFrom_2 = LgY (f + 30000 + 1) := by rw [← hf]; rfl
  unfold f_X9_isFirst f_X9_isFirst_28 f_X9_isFirst_29 f_X9_goesOnFrom
  rw [m_r3, hW.2.2.1, eL]
  by_cases hz : P = 0
  · subst hz
    rw [if_pos (by decide), LgY_s, show (0:Int32) = nI 0 from rfl, y_stopF (by omega) hW.2.2.1]
    refine ⟨y, ?_, fun _ _ => rfl, Or.inr ⟨[], [], rfl, ⟨trivial, trivial, rfl⟩, [], ⟨trivial, trivial, rfl⟩, Nat.zero_le _, rfl⟩⟩
    have e : bI (!(comp (okY y Q) 0 []).isEmpty) = 1 := rfl
    rw [e, bd_s, zk_1]
  · have e1 : comp (okY y Q) P [] = SE (okY y Q) P [] 0 := by
      rw [← comp_SE (n := P - 1) (by show P - 0 = _; omega), show P - 1 + 1 = P by omega]
      exact (List.append_nil _).symm
    have hfin : ∀ (u : Int32) (t : Nat), u = nI t - 2 → t ≤ 1 → (emR (y 101) 0 = false → 1 ≤ t) → SE (okY y Q) P [] 0 = SE (okY y Q) P [] t → ∃ y', bd (LgY (f + 30000 + 1) 0 (updW y 106 0 u)) (fun q1 => zk q1.1 (some (q1.1, q1.2))) = some (bI (!(comp (okY y Q) P []).isEmpty), y') ∧ FY y y' ∧ (comp (okY y Q) P [] = [] ∨ ∃ r L', comp (okY y Q) P [] = r :: L' ∧ YN y' P Q r ∧ YF y' P Q L') := fun u t hu ht h1 hS => by
      have h101 : updW y 106 0 u 101 = y 101 := updW_cell (by omega)
      have hokY : okY (updW y 106 0 u) Q = okY y Q := by unfold okY; rw [h101]
      obtain ⟨y2, g1, g2, g3⟩ := y_go (P := P) (Q := Q) 30000 [] t (updW y 106 0 u) f (by rw [h101]; exact hW) ⟨trivial, trivial, by show 0 < P; omega, by show updW y 106 0 u 106 0 = _; rw [updW_self, hu], fun _ => ht, by rw [h101]; exact h1, by omega⟩ (mu_start hP t)
      rw [hokY, ← hS, ← e1] at g1 g3
      have hFY : FY y y2 := fun c hc => by rw [g2 c hc]; exact updW_cell hc
      have hokY2 : okY y2 Q = okY y Q := by unfold okY; rw [hFY 101 (by omega)]
      refine ⟨y2, ?_, hFY, ?_⟩
      · show bd (LgY (f + 30000 + 1) (nI ([] : Rp).length) (updW y 106 0 u)) _ = _
        rw [g1, bd_s, zk_b]
      · rcases g3 with g | ⟨r, r1, r2, r3⟩
        · exact Or.inl g
        · exact Or.inr ⟨r, _, r1, r2, r, r2, by omega, by rw [hokY2]⟩
    rw [if_neg (nI_nle (by omega) (by omega)), show (0:Int32) = nI 0 from rfl, m_isEmpty (by omega) (by omega : n0 ≤ 1000000) e0, bd_s, ast_nI (by omega) (by omega), ast_nI (by omega) (by omega), show nI 0 = (0:Int32) from rfl, bI_ite0]
    cases hem : emR (y 101) 0 with
    | true =>
      rw [if_pos rfl]
      exact hfin (-2) 0 (by decide) (by omega) (fun z => by rw [hem] at z; exact absurd z (by decide)) rfl
    | false =>
      rw [if_neg (by decide)]
      refine hfin (-1) 1 (by decide) (by omega) (fun _ => by omega) ?_
      unfold SE
      rw [lev_skip 1 0 (by omega) (fun i a b => ?_)]
      have hi0 : i = 0 := by omega
      subst hi0
      unfold okY okE mbE
      rw [if_pos rfl]
      show (emR (y 101) 0 && _) = false
      rw [hem]
      rfl
theorem y_isNext {y : Wd} {P Q : Nat} {L : List Rp} (hW : WF (y 101) P Q) (h : YF y P Q L) : ∃ y', f_X9_isNext y = some (bI (!L.isEmpty), y') ∧ FY y y' ∧ (L = [] ∨ ∃ r L', L = r :: L' ∧ YN y' P Q r ∧ YF y' P Q L') := by
  have hP := hW.1
  obtain ⟨f, hf⟩ : ∃ f, FU = f + 30000 + 1 := ⟨1969999, rfl⟩
  have eL : f_X9_goesOnFrom_2 = LgY (f + 30000 + 1) := by rw [← hf]; rfl
  obtain ⟨rp, ⟨n1, n2, n3⟩, hmu, rfl⟩ := h
  unfold f_X9_isNext f_X9_goesOnFrom
  rw [m_r3, hW.2.2.1, m_r3, hW.2.2.1, eL]
  cases rp with
  | nil =>
    have hz : P = 0 := by rw [← n3]; rfl
    subst hz
    rw [if_pos (by decide)]
    exact ⟨y, rfl, fun _ _ => rfl, Or.inl rfl⟩
  | cons k rest =>
    rw [List.length_cons] at n3
    obtain ⟨d1, d2, d3⟩ := n1
    obtain ⟨c2, c2'⟩ := n2
    have hkQ : k ≤ Q := by
      rcases Nat.lt_or_ge Q k with z | z
      · unfold mbE at c2
        rw [if_neg (by omega), decide_eq_false (by omega)] at c2
        simp at c2
      · exact z
    have hC1 : YC y P Q rest (k + 1) := by
      refine ⟨d3, c2', by omega, ?_, fun hem => ?_, fun _ => by omega, by omega⟩
      · exact d1.trans (cd_m3 k d2)
      · unfold mbE at c2
        by_cases ek : k = 0
        · omega
        · rw [if_neg ek, hem] at c2
          simp at c2
    obtain ⟨y2, g1, g2, g3⟩ := y_go 30000 rest (k + 1) y f hW hC1 (by rw [mu_pop]; exact hmu)
    have hokY2 : okY y2 Q = okY y Q := by unfold okY; rw [g2 101 (by omega)]
    rw [if_neg (nI_nle (by omega) (by omega)), ← n3, nI_pred, g1, bd_s]
    refine ⟨y2, ?_, g2, ?_⟩
    · show _ = some (bI (!(SE (okY y Q) (rest.length + 1) rest (k + 1)).isEmpty), y2)
      rw [n3]
      cases (SE (okY y Q) P rest (k + 1)).isEmpty <;> rfl
    · rw [n3]
      rcases g3 with g | ⟨r, r1, r2, r3⟩
      · exact Or.inl g
      · exact Or.inr ⟨r, _, r1, r2, r, r2, by omega, by rw [hokY2]⟩
end YG
