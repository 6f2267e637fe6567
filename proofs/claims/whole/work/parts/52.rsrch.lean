section YS
theorem lp_ex {α σ R : Type} {z : α} {F : α → α} (ev : α → σ → Nat → Option R) (N : Nat) (Inv : Nat → σ → Prop) (Qr : Option R → Prop)
    (hstep : ∀ g i s, i < N → Inv i s → Qr (ev (F g) s i) ∨ ∃ s', Inv (i + 1) s' ∧ ev (F g) s i = ev g s' (i + 1))
    (hend : ∀ g s, Inv N s → Qr (ev (F g) s N)) : ∀ (d i : Nat) (s : σ) (fuel : Nat), i + d = N → d < fuel → Inv i s → Qr (ev (lp z F fuel) s i) := by
  intro d
  induction d with
  | zero =>
    intro i s fuel h1 h2 h3
    obtain ⟨f, rfl⟩ : ∃ f, fuel = f + 1 := ⟨fuel - 1, by omega⟩
    have hi : i = N := by omega
    subst hi
    exact hend _ s h3
  | succ d ih =>
    intro i s fuel h1 h2 h3
    obtain ⟨f, rfl⟩ : ∃ f, fuel = f + 1 := ⟨fuel - 1, by omega⟩
    rcases hstep (lp z F f) i s (by omega) h3 with h | ⟨s', h4, h5⟩
    · exact h
    · rw [lp_s, h5]
      exact ih (i + 1) s' f (by omega) (by omega) h4
theorem cd_next (i : Nat) : nI i - 1 + 1 = nI (i + 1) - 1 := by rw [Int32.sub_add_cancel, cd_succ]
theorem cd_le {Q i : Nat} (hQ : Q ≤ 1000) (hi : i ≤ 1000) : (nI Q ≤ nI i - 1) ↔ Q + 1 ≤ i := by
  cases i with
  | zero =>
    have h3 : (nI 0 - 1).toInt = -1 := by decide
    constructor
    · intro h
      have h4 := Int32.le_iff_toInt_le.mp h
      rw [h3, nI_toInt (by omega)] at h4
      omega
    · intro h; omega
  | succ i =>
    rw [cd_succ, nI_leI (by omega) (by omega)]
    omega
theorem GD_cd {r : Rw} {Q : Nat} {w : Int32} {f : Nat → Int32} : ∀ {rp : Rp}, GD (mbE r Q w) rp → RW f rp → ∀ j, j < rp.length → (emR r j = true ∧ f j = -1) ∨ (emR r j = false ∧ ∃ q, q < Q ∧ f j = nI q ∧ mayR r q j = true ∧ bt w q = false)
  | [], _, _, j, hj => absurd hj (Nat.not_lt_zero _)
  | k :: rest, ⟨g1, g2⟩, ⟨h1, h2, h3⟩, j, hj => by
    rw [List.length_cons] at hj
    by_cases e : j = rest.length
    · subst e
      unfold mbE at g1
      by_cases ek : k = 0
      · rw [if_pos ek] at g1
        subst ek
        exact Or.inl ⟨g1, h1⟩
      · rw [if_neg ek, Bool.and_eq_true, Bool.and_eq_true, Bool.and_eq_true, Bool.not_eq_true', Bool.not_eq_true', decide_eq_true_eq] at g1
        obtain ⟨⟨⟨b1, b2⟩, b3⟩, b4⟩ := g1
        refine Or.inr ⟨b1, k - 1, by omega, ?_, b3, b4⟩
        rw [h1, show k = k - 1 + 1 by omega, cd_succ]
        rfl
    · exact GD_cd g2 h3 j (by omega)
theorem m_canBe {y : Wd} {P Q k : Nat} {rp : Rp} (hW : WF (y 101) P Q) (hRW : RW (y 106) rp) (hG : GD (mbE (y 101) Q 0) rp) (ha : rp.length < P) (hk : k ≤ Q) : f_X9_canBe y (nI rp.length) (nI k - 1) = some (bI (okE (mbE (y 101) Q 0) (alE (y 101)) rp k)) := by
  have hP := hW.1
  have hQ := hW.2.1
  obtain ⟨n0, hn0, e0⟩ := hW.2.2.2.2.1
  obtain ⟨fu, hfu⟩ : ∃ f, FU = f + 1 := ⟨1999999, rfl⟩
  have h0 : ∀ x1 x2 : Int32, f_X9_canBe_42 y x1 x2 0 = some 0 := fun x1 x2 => by
    unfold f_X9_canBe_42 f_X9_canBe_45
    rw [hfu, lp_s]
    show fb_X9_canBe_45 y _ x1 x2 0 0 = some 0
    unfold fb_X9_canBe_45
    by_cases q : x1 ≤ 0
    · rw [if_pos q]; rfl
    · rw [if_neg q, if_pos rfl]; rfl
  unfold f_X9_canBe
  rw [m_isEmpty (by omega) (by omega : n0 ≤ 1000000) e0, bd_s, bI_ite0]
  have hcdm : ∀ q : Nat, q ≤ 1000 → ¬ nI q = (-1 : Int32) := fun q hq h => by
    have := congrArg Int32.toInt h
    rw [nI_toInt (by omega)] at this
    have h2 : (-1 : Int32).toInt = -1 := by decide
    omega
  cases hem : emR (y 101) rp.length with
  | true =>
    rw [if_pos rfl]
    cases k with
    | zero =>
      rw [if_neg (fun z => z (by decide))]
      unfold f_X9_canBe_26
      rw [if_neg (by decide), if_pos (by decide)]
      unfold f_X9_canBe_42 f_X9_canBe_45
      rw [hfu, lp_s]
      show fb_X9_canBe_45 y _ (nI rp.length) (nI 0 - 1) 1 0 = _
      unfold fb_X9_canBe_45
      have e1 : okE (mbE (y 101) Q 0) (alE (y 101)) rp 0 = true := by
        unfold okE mbE alE
        rw [if_pos rfl, hem]; rfl
      rw [e1]
      by_cases q : nI rp.length ≤ 0
      · rw [if_pos q]; rfl
      · rw [if_neg q, if_neg (by decide), if_pos (by decide)]; rfl
    | succ q =>
      rw [cd_succ, if_pos (hcdm q (by omega))]
      unfold f_X9_canBe_26
      rw [if_pos rfl, h0]
      have e1 : okE (mbE (y 101) Q 0) (alE (y 101)) rp (q + 1) = false := by
        unfold okE mbE
        rw [if_neg (by omega), hem]; rfl
      rw [e1]; rfl
  | false =>
    rw [if_neg (by decide), m_isPlayer hQ hW.2.2.2.1, bd_s]
    unfold f_X9_canBe_26
    cases k with
    | zero =>
      rw [decide_eq_false (by
        rintro ⟨h, -⟩
        exact absurd h (by decide)), if_pos bI_f]
      rw [bI_f, h0]
      have e1 : okE (mbE (y 101) Q 0) (alE (y 101)) rp 0 = false := by
        unfold okE mbE
        rw [if_pos rfl, hem]; rfl
      rw [e1]; rfl
    | succ q =>
      rw [cd_succ, decide_eq_true ((le_pred (N := Q) (by omega)).mpr ⟨q, by omega, rfl⟩), if_neg (by decide), if_neg (nI_pos (by omega)), m_may (by omega) (by omega) (by omega : n0 ≤ 1000000) e0, bd_s]
      have hmb : mbE (y 101) Q 0 rp.length (q + 1) = mayR (y 101) q rp.length := by
        unfold mbE
        rw [if_neg (by omega), hem, decide_eq_true hk, Nat.add_sub_cancel, b_0]
        simp
      cases hm : mayR (y 101) q rp.length with
      | false =>
        rw [bI_f, h0]
        have e1 : okE (mbE (y 101) Q 0) (alE (y 101)) rp (q + 1) = false := by
          unfold okE
          rw [hmb, hm]; rfl
        rw [e1]; rfl
      | true =>
        have hok : okE (mbE (y 101) Q 0) (alE (y 101)) rp (q + 1) = true ↔ (∀ j, j < rp.length → (y 106 j = nI q → dbR (y 101) j = true ∨ dbR (y 101) rp.length = true)) := by
          have hc := chk_iff (al := alE (y 101)) (c := q + 1) (by omega) hRW
          rw [cd_succ] at hc
          unfold okE
          rw [hmb, hm, Bool.true_and, Bool.or_eq_true, hc]
          unfold alE
          rw [hem]
          cases hdb : dbR (y 101) rp.length with
          | true => exact ⟨fun _ j hj _ => Or.inr rfl, fun _ => Or.inl rfl⟩
          | false =>
            constructor
            · rintro (h | h)
              · exact absurd h (by decide)
              · intro j hj e
                left
                cases hd : dbR (y 101) j with
                | true => rfl
                | false =>
                  refine absurd e (h j hj ?_)
                  rcases GD_cd hG hRW j hj with ⟨_, z⟩ | ⟨z, _⟩
                  · rw [z] at e
                    exact absurd e.symm (hcdm q (by omega))
                  · rw [z, hd]; rfl
            · intro h
              right
              intro j hj hal e
              rcases h j hj e with z | z
              · rw [z] at hal
                simp at hal
              · exact absurd z (by decide)
        unfold f_X9_canBe_42 f_X9_canBe_45
        have hres := lp_ex (z := fun _ _ _ _ => none) (F := fun rec => fb_X9_canBe_45 y rec) (fun g (s : Int32) i => g (nI rp.length) (nI q) s (nI i)) rp.length (fun i s => (s = 1 ∧ ∀ j, j < i → (y 106 j = nI q → dbR (y 101) j = true ∨ dbR (y 101) rp.length = true)) ∨ (s = 0 ∧ ∃ j, j < rp.length ∧ ¬ (y 106 j = nI q → dbR (y 101) j = true ∨ dbR (y 101) rp.length = true))) (fun res => ((∀ j, j < rp.length → (y 106 j = nI q → dbR (y 101) j = true ∨ dbR (y 101) rp.length = true)) ∧ res = some 1) ∨ ((∃ j, j < rp.length ∧ ¬ (y 106 j = nI q → dbR (y 101) j = true ∨ dbR (y 101) rp.length = true)) ∧ res = some 0)) (fun g i s hi hI => by
          unfold fb_X9_canBe_45 f_X9_canBe_87 f_X9_canBe_92
          rw [if_neg (nI_ge hi (by omega))]
          rcases hI with ⟨rfl, hI⟩ | ⟨rfl, hI⟩
          · right
            rw [if_neg (by decide), if_neg (nI_pos (by omega)), ald_nI (by omega) (by omega)]
            by_cases e : y 106 i = nI q
            · rw [if_neg (fun z => z e), m_isDoubled (by omega), bd_s, bI_ite1, m_isDoubled (by omega), bd_s, bI_ite0]
              cases hd : dbR (y 101) i with
              | true =>
                refine ⟨1, Or.inl ⟨rfl, fun j hj => ?_⟩, by rw [if_pos rfl, nI_1]⟩
                by_cases ej : j = i
                · subst ej; exact fun _ => Or.inl hd
                · exact hI j (by omega)
              | false =>
                cases hd2 : dbR (y 101) rp.length with
                | true =>
                  refine ⟨1, Or.inl ⟨rfl, fun j hj => fun _ => Or.inr rfl⟩, by rw [if_neg (by decide), if_pos rfl, nI_1]⟩
                | false =>
                  refine ⟨0, Or.inr ⟨rfl, i, hi, fun z => ?_⟩, by rw [if_neg (by decide), if_neg (by decide), nI_1]⟩
                  rcases z e with z | z
                  · rw [hd] at z; exact absurd z (by decide)
                  · exact absurd z (by decide)
            · refine ⟨1, Or.inl ⟨rfl, fun j hj => ?_⟩, by rw [if_pos e, nI_1]⟩
              by_cases ej : j = i
              · subst ej; exact fun z => absurd z e
              · exact hI j (by omega)
          · left
            right
            exact ⟨hI, by rw [if_pos rfl]; rfl⟩) (fun g s hI => by
          unfold fb_X9_canBe_45
          rw [if_pos (nI_le (Nat.le_refl _) (by omega))]
          rcases hI with ⟨rfl, hI⟩ | ⟨rfl, hI⟩
          · exact Or.inl ⟨hI, rfl⟩
          · exact Or.inr ⟨hI, rfl⟩) rp.length 0 1 FU (by omega) (FU_lt (by omega)) (Or.inl ⟨rfl, fun j hj => by omega⟩)
        rcases hres with ⟨h1, h2⟩ | ⟨⟨j, h1, h1'⟩, h2⟩
        · rw [hok.mpr h1]; exact h2
        · have : okE (mbE (y 101) Q 0) (alE (y 101)) rp (q + 1) = false := by
            cases hb : okE (mbE (y 101) Q 0) (alE (y 101)) rp (q + 1) with
            | false => rfl
            | true => exact absurd (hok.mp hb j h1) h1'
          rw [this]; exact h2
end YS
