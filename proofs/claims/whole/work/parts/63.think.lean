section TK
theorem Rel_of0 {n : Nat} {x y x' y' : Wd} (h : Rel n x y) (hB : RB x' 1 (y' 101)) (hx : ∀ k, keepX k → x' k = x k) (hm : ∀ k, keepM k → k ≠ 100 → y' k = y k) (h4 : y' 100 4 = y 100 4) (h5 : y' 100 5 = y 100 5) (h24 : y' 100 24 = y 100 24) : Rel n x' y' := by
  obtain ⟨-, ⟨k, k1, k2, k3, k4, k5, k6, k7⟩, he, hs, ⟨t, t1, t2, t3, t4⟩⟩ := h
  unfold keepX at hx
  unfold keepM at hm
  refine ⟨hB, ⟨k, k1, by rw [hx 0 (by omega)]; exact k2, by rw [h5]; exact k3, by rw [h4]; exact k4, fun hk => ?_, by rw [hx 35 (by omega)]; exact k6, by rw [hx 40 (by omega)]; exact k7⟩, fun k hk => ?_, fun s hs4 => ?_, ⟨t, t1, by rw [hx 68 (by omega)]; exact t2, by rw [h24]; exact t3, fun i hi => by rw [hx 69 (by omega), hm 114 (by omega) (by omega)]; exact t4 i hi⟩⟩
  · rw [hm 102 (by omega) (by omega)]
    exact RB_congr (fun k k1 k2 => hx k (by omega)) (k5 hk)
  · rw [hx 80 (by omega), hm 105 (by omega) (by omega)]; exact he k hk
  · rw [hx (71 + 2 * s) (by omega), hx (72 + 2 * s) (by omega), hm 110 (by omega) (by omega), hm 111 (by omega) (by omega), hm 112 (by omega) (by omega)]
    exact hs s hs4
/-- the reference's cells that last, apart from the row -/
def FYk (y y' : Wd) : Prop := (∀ k, keepM k → k ≠ 100 → y' k = y k) ∧ ∀ i, (i < 7 ∨ 14 < i) → y' 100 i = y 100 i
theorem FYk_trans {x y z : Wd} (h1 : FYk x y) (h2 : FYk y z) : FYk x z := ⟨fun k a b => by rw [h2.1 k a b, h1.1 k a b], fun i hi => by rw [h2.2 i hi, h1.2 i hi]⟩
theorem FYk_n {y y' : Wd} (h : FYn y y') : FYk y y' := ⟨fun k a b => h.1 k b (by unfold keepM at a; omega) (by unfold keepM at a; omega) (by unfold keepM at a; omega) (by unfold keepM at a; omega), h.2.1⟩
theorem FYk_c {y y' : Wd} {b : Nat} (hb : b = 101 ∨ b = 103 ∨ b = 104 ∨ b = 106 ∨ b = 107 ∨ b = 113) (h : ∀ k, k ≠ b → y' k = y k) : FYk y y' := ⟨fun k a _ => h k (by unfold keepM at a; omega), fun i _ => by rw [h 100 (by omega)]⟩
/-- the live troupe has changed -/
theorem Rel_live {n : Nat} {x y x' y' : Wd} {P Q n' : Nat} (h : Rel n x y) (hS : SR x' y' 2 P Q n') (hn : n' ≤ 9999) (hx : FXt 2 x x') (hk : FYk y y') (hr : ∀ i, (i = 2 ∨ 4 ≤ i ∧ i ≤ 7 ∨ 59 ≤ i) → y' 101 i = y 101 i) : Rel n x' y' := by
  refine Rel_of0 h (RB_troupe h.1 ⟨P, Q, hS.2.1, hS.1⟩ ⟨n', hn, hS.2.2.2.2⟩ (fun k hk => hx k (by omega) (by omega) (by omega) (by omega) (by omega) (by omega)) hr) (fun k hk => hx k (by unfold keepX at hk; omega) (by unfold keepX at hk; omega) (by unfold keepX at hk; omega) (by unfold keepX at hk; omega) (by unfold keepX at hk; omega) (by unfold keepX at hk; omega)) hk.1 (hk.2 4 (by omega)) (hk.2 5 (by omega)) (hk.2 24 (by omega))
/-- what lasts has not changed -/
theorem Rel_thought {n : Nat} {x y x' y' : Wd} (h : Rel n x y) (hx : FXt 49 x x') (hk : FYk y y') (hr : ∀ i, y' 101 i = y 101 i) : Rel n x' y' := by
  have e : y' 101 = y 101 := funext hr
  have hc : ∀ k, k < 49 → k ≠ 14 → k ≠ 15 → k ≠ 19 → k ≠ 20 → x' k = x k := fun k a b c d f => hx k (by omega) b c d f (by omega)
  have hc2 : ∀ k, 63 < k → x' k = x k := fun k a => hx k (by omega) (by omega) (by omega) (by omega) (by omega) (by omega)
  obtain ⟨P, Q, hW, hR⟩ := h.1.1
  refine Rel_of0 h ?_ (fun k hk => ?_) hk.1 (hk.2 4 (by omega)) (hk.2 5 (by omega)) (hk.2 24 (by omega))
  · rw [e]
    exact RB_troupe h.1 ⟨P, Q, hW, RT_congr ⟨hW.1, hW.2.1⟩ (fun k k1 k2 => hc k (by omega) (by omega) (by omega) (by omega) (by omega)) (fun _ _ => rfl) hR⟩ h.1.2.1 (fun k hk => hc k (by omega) (by omega) (by omega) (by omega) (by omega)) (fun _ _ => rfl)
  · unfold keepX at hk
    rcases Nat.lt_or_ge 63 k with z | z
    · exact hc2 k z
    · exact hc k (by omega) (by omega) (by omega) (by omega) (by omega)
theorem SR_of {n : Nat} {x y : Wd} (h : Rel n x y) : ∃ P Q n', n' ≤ 9999 ∧ SR x y 2 P Q n' := by
  obtain ⟨⟨P, Q, hW, hR⟩, ⟨n', hn, e⟩, h4, h5, -⟩ := h.1
  exact ⟨P, Q, n', hn, hR, hW, h4, h5, e⟩
theorem x_think {x : Wd} {P Q : Nat} {r : Rw} (hR : RT x 2 r P Q) (hW : WF r P Q) : ∃ x', f_X8_think x = some x' ∧ RT x' 49 r P Q ∧ ∀ k, ¬ (49 ≤ k ∧ k ≤ 57) → x' k = x k := by
  obtain ⟨x', e1, A1, A2, A3, A4⟩ := x_copyTr (x := x) (d := 49) (s := 2) (by omega)
  have w1 := hW.1
  have w2 := hW.2.1
  refine ⟨x', ?_, ?_, fun k hk => A4 k (by omega)⟩
  · unfold f_X8_think
    rw [e1, bd_s]
  · obtain ⟨⟨a1, a2, a3, a4⟩, b1, b2, b3, b4, b5⟩ := hR
    refine ⟨⟨?_, ?_, ?_, ?_⟩, fun p hp => ?_, fun q hq => ?_, fun i hi => ?_, fun p q1 q2 => ?_, fun q q1 q2 => ?_⟩
    · rw [A1 _ (by omega)]; exact a1
    · rw [A1 _ (by omega)]; exact a2
    · rw [A1 _ (by omega)]; exact a3
    · rw [A1 _ (by omega)]; exact a4
    · rw [A2 1 (by omega) (by omega) _ (by omega), A2 2 (by omega) (by omega) _ (by omega), A2 3 (by omega) (by omega) _ (by omega), A2 4 (by omega) (by omega) _ (by omega)]
      exact b1 p hp
    · rw [A3 5 (by omega) (by omega) _ (by omega), A3 6 (by omega) (by omega) _ (by omega), A3 7 (by omega) (by omega) _ (by omega), A3 8 (by omega) (by omega) _ (by omega)]
      exact b2 q hq
    · rw [A1 _ (by omega)]; exact b3 i hi
    · rw [A2 4 (by omega) (by omega) _ (by omega)]; exact b4 p q1 q2
    · rw [A3 6 (by omega) (by omega) _ (by omega), A3 8 (by omega) (by omega) _ (by omega)]; exact b5 q q1 q2
/-- both sides begin to think -/
theorem th_start {n : Nat} {x y : Wd} (h : Rel n x y) : ∃ P Q n' x1 y1, f_X8_think x = some x1 ∧ f_X9_moveAll 101 103 y = some y1 ∧ n' ≤ 9999 ∧ WF (y 101) P Q ∧ RT x 2 (y 101) P Q ∧ SR x1 y1 49 P Q n' ∧ (∀ i, i < 229 → y1 103 i = y 101 i) ∧ (∀ k, k ≠ 103 → y1 k = y k) ∧ ∀ k, ¬ (49 ≤ k ∧ k ≤ 57) → x1 k = x k := by
  obtain ⟨P, Q, n', hn, hR, hW, hl0, hl1, h0⟩ := SR_of h
  obtain ⟨x1, a1, a2, a3⟩ := x_think hR hW
  obtain ⟨y1, b1, b2, -, b3⟩ := m_moveAll (y := y) (a := 101) (b := 103) rfl rfl (by omega)
  have e : y1 101 = y 101 := b3 101 (by omega)
  refine ⟨P, Q, n', x1, y1, a1, b1, hn, hW, hR, ⟨by rw [e]; exact a2, by rw [e]; exact hW, ?_, ?_, by rw [e]; exact h0⟩, b2, b3, a3⟩
  · rw [e]; exact RLw_frame hl0 (a3 _ (by omega)) (a3 _ (by omega)) (a3 _ (by omega))
  · rw [e]; exact RLw_frame hl1 (a3 _ (by omega)) (a3 _ (by omega)) (a3 _ (by omega))
/-- the reference puts its row back -/
theorem th_end {n : Nat} {x y x' y2 : Wd} (h : Rel n x y) (hx : FXt 49 x x') (hk : FYk y y2) (h103 : ∀ i, i < 229 → y2 103 i = y 101 i) (hbig : ∀ i, 229 ≤ i → y2 101 i = y 101 i) : ∃ y3, f_X9_moveAll 103 101 y2 = some y3 ∧ Rel n x' y3 ∧ y3 101 = y 101 ∧ ∀ k, k ≠ 101 → y3 k = y2 k := by
  obtain ⟨y3, b1, b2, b3, b4⟩ := m_moveAll (y := y2) (a := 103) (b := 101) rfl rfl (by omega)
  have hr : ∀ i, y3 101 i = y 101 i := fun i => by
    rcases Nat.lt_or_ge i 229 with z | z
    · rw [b2 i z, h103 i z]
    · rw [b3 i z, hbig i z]
  exact ⟨y3, b1, Rel_thought h hx (FYk_trans hk (FYk_c (Or.inl rfl) b4)) hr, funext hr, b4⟩
theorem st_first : St_first Rel := by
  intro n x y p1 hn h
  obtain ⟨P, Q, n', hn', hS⟩ := SR_of h
  have hS0 := hS
  obtain ⟨hR, hW, hl0, hl1, h0⟩ := hS
  unfold f_X8_first f_X9_first
  rw [x_hasPart hR.1.1 hW.1, m_isPart hW.1 hW.2.2.1, bd_s, bd_s, bI_ite1, bI_ite1]
  by_cases c1 : 0 ≤ p1 ∧ p1 ≤ nI P - 1
  · rw [dT c1, dT c1]
    have hP := hW.1
    obtain ⟨p, hp, rfl⟩ := (le_pred (N := P) (by omega)).mp c1
    obtain ⟨b, xa, x1, y1, a1, a2, a3, a4, a5, a6, a7⟩ := first_both (Or.inl rfl) hS0
    rw [a1, bd_s, a2, bd_s, a3, bd_s, bI_ite0, bI_ite0]
    have e101 : y1 101 = y 101 := a6 101 (by omega)
    have hRel : Rel n x1 y1 := Rel_live h a4 hn' (FXt_of a5) (FYk_n (FYn_of a6)) (fun i _ => by rw [e101])
    cases b with
    | false =>
      rw [if_neg (by decide), if_neg (by decide)]
      exact st_fail hRel 2 _ _ (by omega) rfl (by decide)
    | true =>
      rw [if_pos rfl, if_pos rfl, ald_nI (by omega) (by omega), ald_nI (by omega) (by omega)]
      exact ⟨x1 59 p, x1, y1, rfl, congrArg (fun z => some (z, y1)) ((a7 rfl).2 p hp).symm, Rel_mono _ _ _ hRel⟩
  · rw [dF c1, dF c1]
    exact st_fail h 1 _ _ (by omega) rfl (by decide)
theorem st_season : St_season Rel := by
  intro n x y hn h
  obtain ⟨P, Q, n', x1, y1, a1, a2, a3, a4, a5, a6, a7, a8, a9⟩ := th_start h
  obtain ⟨k, x2, y2, b1, b2, b3, b4, b5, b6, -⟩ := pf_season (m := 60) (Or.inr rfl) (by omega) a6 (by omega)
  obtain ⟨y3, c1, c2, c3, c4⟩ := th_end h (FXt_trans (fun c z1 _ _ _ _ _ => a9 c (by omega)) b5) (FYk_trans (FYk_c (Or.inr (Or.inl rfl)) a8) (FYk_n b6)) (fun i hi => by rw [b6.1 103 (by omega) (by omega) (by omega) (by omega) (by omega)]; exact a7 i hi) (fun i hi => by rw [b6.2.2 i (by omega), a8 101 (by omega)])
  refine ⟨nI k, x2, y3, ?_, ?_, Rel_mono _ _ _ c2⟩
  · unfold f_X8_season
    rw [a1, bd_s, show (60:Int32) = nI 60 from rfl, b1, bd_s]
  · unfold f_X9_season f_X9_seasonOf
    rw [a2, bd_s, show (60:Int32) = nI 60 from rfl, b2, bd_s, c1, bd_s, bd_s]
theorem st_then : St_then Rel := by
  intro n x y p1 p2 p3 hn h
  obtain ⟨P, Q, n', x1, y1, a1, a2, a3, a4, a5, a6, a7, a8, a9⟩ := th_start h
  have hQ := a4.2.1
  unfold f_X8_then f_X9_then f_X8_then_33 f_X9_then_27
  rw [x_within, m_in, bd_s, bd_s, bI_ite0, bI_ite0]
  by_cases d1 : (0:Int32) ≤ p1 ∧ p1 ≤ 60
  · rw [dT d1, dT d1, x_hasPlayer a5.1.2.1 a4.2.1, m_isPlayer a4.2.1 a4.2.2.2.1, bd_s, bd_s, bI_ite0, bI_ite0]
    by_cases d2 : 0 ≤ p2 ∧ p2 ≤ nI Q - 1
    · rw [dT d2, dT d2, x_within, m_in, bd_s, bd_s, bI_ite1, bI_ite1]
      by_cases d3 : (0:Int32) ≤ p3 ∧ p3 ≤ 2
      · rw [dT d3, dT d3]
        obtain ⟨m, hm, rfl⟩ := (in_nI (N := 60) (by omega)).mp d1
        obtain ⟨q, hq, rfl⟩ := (le_pred (N := Q) (by omega)).mp d2
        obtain ⟨j, hj, rfl⟩ := (in_nI (N := 2) (by omega)).mp d3
        obtain ⟨k, x2, y2, b1, b2, b3, b4, b5, b6, -⟩ := pf_season (m := m) (Or.inr rfl) (by omega) a6 (by omega)
        obtain ⟨y3, c1, c2, c3, c4⟩ := th_end h (FXt_trans (fun c z1 _ _ _ _ _ => a9 c (by omega)) b5) (FYk_trans (FYk_c (Or.inr (Or.inl rfl)) a8) (FYk_n b6)) (fun i hi => by rw [b6.1 103 (by omega) (by omega) (by omega) (by omega) (by omega)]; exact a7 i hi) (fun i hi => by rw [b6.2.2 i (by omega), a8 101 (by omega)])
        rw [a1, bd_s, b1, bd_s, a2, bd_s, b2, bd_s]
        obtain ⟨e5, e6, e7, e8⟩ := b4.1.2.2.1 q hq
        unfold f_X9_then_74
        rcases (by omega : j = 0 ∨ j = 1 ∨ j = 2) with rfl | rfl | rfl
        · rw [if_pos (by decide), if_neg (by decide), ald_nI (by omega) (by omega), m_ofc (by omega) (by omega), bd_s, c1, bd_s]
          exact ⟨x2 54 q, x2, y3, rfl, congrArg (fun z => some (z, y3)) e5.symm, Rel_mono _ _ _ c2⟩
        · rw [if_neg (by decide), if_pos (by decide), if_neg (by decide), ald_nI (by omega) (by omega), m_ofc (by omega) (by omega), bd_s, c1, bd_s]
          exact ⟨x2 55 q, x2, y3, rfl, congrArg (fun z => some (z, y3)) e6.symm, Rel_mono _ _ _ c2⟩
        · rw [if_neg (by decide), if_neg (by decide), if_pos (by decide), if_pos (nI_pos' (by omega)), ald_nI (by omega) (by omega), show (3:Int32) = nI 3 from rfl, m_ofc (by omega) (by omega), bd_s, c1, bd_s]
          exact ⟨x2 57 q, x2, y3, rfl, congrArg (fun z => some (z, y3)) e8.symm, Rel_mono _ _ _ c2⟩
      · rw [dF d3, dF d3]
        exact st_fail h 1 _ _ (by omega) rfl (by decide)
    · rw [dF d2, dF d2]
      exact st_fail h 1 _ _ (by omega) rfl (by decide)
  · rw [dF d1, dF d1]
    exact st_fail h 1 _ _ (by omega) rfl (by decide)
theorem YF_cast {y : Wd} {P Q : Nat} {L : List Rp} {b : Bool} (hb : b = true) (h : L = [] ∨ ∃ r L', L = r :: L' ∧ YN y P Q r ∧ YF y P Q L') (hb' : b = !L.isEmpty) : ∃ r L', L = r :: L' ∧ YN y P Q r ∧ YF y P Q L' := by
  rcases h with z | z
  · rw [z] at hb'; rw [hb'] at hb; exact absurd hb (by decide)
  · exact z
def YP (y : Wd) (P Q : Nat) (L : List Rp) : Prop := L = [] ∨ ∃ r L', L = r :: L' ∧ YN y P Q r ∧ YF y P Q L'
theorem cx_castings {P : Nat} {mb : Nat → Nat → Bool} {al : Nat → Bool} (hP : P ≤ 5) (hmb : ∀ p i, mb p i = true → i < 7) : ∀ (L : List Rp) (x : Wd) (c fuel : Nat), XF x P mb al L → c + L.length < 1000000 → L.length < fuel → ∃ x', lp (fun _ _ => none) (fun rec => fb_X8_castings_17 rec) fuel (nI c) x = some (nI (c + L.length), x') ∧ FC x x' := by
  intro L
  induction L with
  | nil =>
    intro x c fuel h h1 h2
    obtain ⟨f, rfl⟩ : ∃ f, fuel = f + 1 := ⟨fuel - 1, by omega⟩
    obtain ⟨x', g1, g2, -⟩ := x_goesOn hP hmb h
    have e0 : bI (!([] : List Rp).isEmpty) = 0 := rfl
    rw [e0] at g1
    refine ⟨x', ?_, g2⟩
    rw [lp_s]
    generalize lp _ _ f = u
    show fb_X8_castings_17 u (nI c) x = _
    unfold fb_X8_castings_17
    rw [List.length_nil] at h1
    rw [show (1000000:Int32) = nI 1000000 from rfl, if_neg (nI_ge (by omega) (by omega)), g1, bd_s, if_pos rfl]
    rfl
  | cons r L ih =>
    intro x c fuel h h1 h2
    obtain ⟨f, rfl⟩ : ∃ f, fuel = f + 1 := ⟨fuel - 1, by omega⟩
    rw [List.length_cons] at h1 h2
    obtain ⟨x1, g1, g2, g3⟩ := x_goesOn hP hmb h
    rcases g3 with z | ⟨r', L', e, g4, g5⟩
    · exact absurd z (by simp)
    · obtain ⟨rfl, rfl⟩ := List.cons.inj e
      obtain ⟨x', k1, k2⟩ := ih x1 (c + 1) f g5 (by omega) (by omega)
      refine ⟨x', ?_, FC_trans g2 k2⟩
      rw [lp_s]
      have e1 : ∀ u, fb_X8_castings_17 u (nI c) x = u (nI (c + 1)) x1 := fun u => by
        unfold fb_X8_castings_17
        rw [show (1000000:Int32) = nI 1000000 from rfl, if_neg (nI_ge (by omega) (by omega)), g1, bd_s, nI_1]
        rfl
      refine (e1 _).trans (k1.trans ?_)
      rw [List.length_cons, show c + 1 + L.length = c + (L.length + 1) by omega]
theorem cy_castings {P Q : Nat} : ∀ (L : List Rp) (y : Wd) (c fuel : Nat), WF (y 101) P Q → YP y P Q L → L.length < fuel → ∃ y', lp (fun _ _ _ => none) (fun rec => fb_X9_castings_7 rec) fuel (nI c) (bI (!L.isEmpty)) y = some (nI (c + L.length), y') ∧ FY y y' := by
  intro L
  induction L with
  | nil =>
    intro y c fuel hW h h2
    obtain ⟨f, rfl⟩ : ∃ f, fuel = f + 1 := ⟨fuel - 1, by omega⟩
    refine ⟨y, ?_, fun _ _ => rfl⟩
    rw [lp_s]
    generalize lp _ _ f = u
    show fb_X9_castings_7 u (nI c) (bI false) y = _
    unfold fb_X9_castings_7
    rw [if_pos bI_f]
    rfl
  | cons r L ih =>
    intro y c fuel hW h h2
    obtain ⟨f, rfl⟩ : ∃ f, fuel = f + 1 := ⟨fuel - 1, by omega⟩
    rw [List.length_cons] at h2
    rcases h with z | ⟨r', L', e, g4, g5⟩
    · exact absurd z (by simp)
    · obtain ⟨rfl, rfl⟩ := List.cons.inj e
      obtain ⟨y1, k1, k2, k3⟩ := y_isNext hW g5
      obtain ⟨y', j1, j2⟩ := ih y1 (c + 1) f (by rw [k2 101 (by omega)]; exact hW) k3 (by omega)
      refine ⟨y', ?_, FY_trans k2 j2⟩
      rw [lp_s]
      have e1 : ∀ u, fb_X9_castings_7 u (nI c) (bI true) y = u (nI (c + 1)) (bI (!L.isEmpty)) y1 := fun u => by
        unfold fb_X9_castings_7
        rw [if_neg (by decide), k1, bd_s, nI_1]
      refine (e1 _).trans (j1.trans ?_)
      rw [List.length_cons, show c + 1 + L.length = c + (L.length + 1) by omega]
theorem comp_lenP {ok : Rp → Nat → Bool} {P : Nat} (hP : P ≤ 5) : (comp ok P []).length ≤ 22409 := by
  refine Nat.le_trans (comp_len P []) ?_
  rcases (by omega : P = 0 ∨ P = 1 ∨ P = 2 ∨ P = 3 ∨ P = 4 ∨ P = 5) with rfl | rfl | rfl | rfl | rfl | rfl <;> decide
theorem st_castings : St_castings Rel := by
  intro n x y hn h
  obtain ⟨P, Q, n', hn', hS⟩ := SR_of h
  have hS0 := hS
  obtain ⟨hR, hW, hl0, hl1, h0⟩ := hS
  obtain ⟨xa, a1, a2, a3⟩ := x_begin (Or.inl rfl) hR hW 0
  have hlen := comp_lenP (ok := okY y Q) hW.1
  obtain ⟨x1, b1, b2⟩ := cx_castings hW.1 (mbE_7 hW.2.1) (comp (okY y Q) P []) xa 0 FU a3 (by omega) (FU_lt (by omega))
  obtain ⟨y1, c1, c2, c3⟩ := y_isFirst hW
  obtain ⟨y2, d1, d2⟩ := cy_castings _ y1 0 FU (by rw [c2 101 (by omega)]; exact hW) c3 (FU_lt (by omega))
  have hFY := FY_trans c2 d2
  refine ⟨nI (0 + (comp (okY y Q) P []).length), x1, y2, ?_, ?_, Rel_mono _ _ _ (Rel_live h (SR_search (Or.inl rfl) hS0 (FC_trans a2 b2) hFY) hn' (FXt_of (FC_trans a2 b2)) (FYk_n (FYn_of hFY)) (fun i _ => by rw [hFY 101 (by omega)]))⟩
  · unfold f_X8_castings
    rw [a1, bd_s]
    exact b1
  · unfold f_X9_castings
    rw [c1, bd_s]
    exact d1
end TK
