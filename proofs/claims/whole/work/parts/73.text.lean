section TT
theorem RT_skip2 {x : Wd} {t P Q : Nat} {r r' : Rw} (hP : P ≤ 5) (hQ : Q ≤ 6) (hr : ∀ i, i < 59 → i ≠ 2 → i ≠ 4 → i ≠ 5 → i ≠ 6 → i ≠ 7 → r' i = r i) (h : RT x t r P Q) : RT x t r' P Q := by
  obtain ⟨⟨a1, a2, a3, a4⟩, b1, b2, b3, b4, b5⟩ := h
  refine ⟨⟨a1, a2, by rw [hr 1 (by omega) (by omega) (by omega) (by omega) (by omega) (by omega)]; exact a3, by rw [hr 0 (by omega) (by omega) (by omega) (by omega) (by omega) (by omega)]; exact a4⟩, fun p hp => ?_, fun q hq => ?_, fun i hi => ?_, b4, b5⟩
  · rw [hr (9 + 4 * p) (by omega) (by omega) (by omega) (by omega) (by omega) (by omega), hr (10 + 4 * p) (by omega) (by omega) (by omega) (by omega) (by omega) (by omega), hr (11 + 4 * p) (by omega) (by omega) (by omega) (by omega) (by omega) (by omega), hr (12 + 4 * p) (by omega) (by omega) (by omega) (by omega) (by omega) (by omega)]; exact b1 p hp
  · rw [hr (29 + 5 * q) (by omega) (by omega) (by omega) (by omega) (by omega) (by omega), hr (30 + 5 * q) (by omega) (by omega) (by omega) (by omega) (by omega) (by omega), hr (31 + 5 * q) (by omega) (by omega) (by omega) (by omega) (by omega) (by omega), hr (32 + 5 * q) (by omega) (by omega) (by omega) (by omega) (by omega) (by omega)]; exact b2 q hq
  · rw [b3 i hi]
    by_cases e : i < Q
    · rw [hr (33 + 5 * i) (by omega) (by omega) (by omega) (by omega) (by omega) (by omega)]
    · rw [decide_eq_false e]; rfl
theorem WF_skip2 {r r' : Rw} {P Q : Nat} (hr : ∀ i, i < 59 → i ≠ 2 → i ≠ 4 → i ≠ 5 → i ≠ 6 → i ≠ 7 → r' i = r i) (h : WF r P Q) : WF r' P Q := by
  obtain ⟨h1, h2, h3, h4, h5, h6, h7, h8⟩ := h
  refine ⟨h1, h2, by rw [hr 3 (by omega) (by omega) (by omega) (by omega) (by omega) (by omega)]; exact h3, by rw [hr 8 (by omega) (by omega) (by omega) (by omega) (by omega) (by omega)]; exact h4, by rw [hr 0 (by omega) (by omega) (by omega) (by omega) (by omega) (by omega)]; exact h5, by rw [hr 1 (by omega) (by omega) (by omega) (by omega) (by omega) (by omega)]; exact h6, fun p hp => ?_, fun q hq => ?_⟩
  · rw [hr (9 + 4 * p) (by omega) (by omega) (by omega) (by omega) (by omega) (by omega), hr (10 + 4 * p) (by omega) (by omega) (by omega) (by omega) (by omega) (by omega), hr (11 + 4 * p) (by omega) (by omega) (by omega) (by omega) (by omega) (by omega), hr (12 + 4 * p) (by omega) (by omega) (by omega) (by omega) (by omega) (by omega)]
    exact h7 p hp
  · rw [hr (29 + 5 * q) (by omega) (by omega) (by omega) (by omega) (by omega) (by omega), hr (30 + 5 * q) (by omega) (by omega) (by omega) (by omega) (by omega) (by omega), hr (31 + 5 * q) (by omega) (by omega) (by omega) (by omega) (by omega) (by omega), hr (32 + 5 * q) (by omega) (by omega) (by omega) (by omega) (by omega) (by omega), hr (33 + 5 * q) (by omega) (by omega) (by omega) (by omega) (by omega) (by omega)]
    exact h8 q hq
theorem in_01 {p1 : Int32} (c : (0:Int32) ≤ p1 ∧ p1 ≤ 1) : ∃ u, u ≤ 1 ∧ p1 = nI u := (in_nI (N := 1) (by omega)).mp c
theorem x_lawAt {x : Wd} {u : Nat} (hu : u ≤ 1) : f_X0_lawOf 1 x (nI u) = some (11 + 5 * u) ∧ isLa (11 + 5 * u) = true := by
  unfold f_X0_lawOf
  rcases (by omega : u = 0 ∨ u = 1) with rfl | rfl
  · exact ⟨by rw [if_neg (by decide)], rfl⟩
  · exact ⟨by rw [if_pos (by decide)], rfl⟩
theorem st_law : St_law Rel := by
  intro n x y p1 p2 p3 p4 hn h
  unfold f_X8_law f_X9_law
  rw [x_within, m_in, bd_s, bd_s, bI_ite1, bI_ite0]
  by_cases c1 : (0:Int32) ≤ p1 ∧ p1 ≤ 1
  · rw [dT c1, dT c1]
    obtain ⟨u, hu, rfl⟩ := in_01 c1
    obtain ⟨e1, e2⟩ := x_lawAt (x := x) hu
    have hL : RLw x (11 + 5 * u) (y 101) u := by
      rcases (by omega : u = 0 ∨ u = 1) with rfl | rfl
      · exact h.1.2.2.1
      · exact h.1.2.2.2.1
    obtain ⟨x', g1, g2⟩ := x_gives (L := 11 + 5 * u) (u := u) (by omega) hL p2 p3 p4
    obtain ⟨y', k1, k2, k3⟩ := m_lawOf hu hL p2 p3 p4
    rw [e1, bd_s, e2, gd_s, g1, bd_s, k1, bd_s]
    have hRel : Rel n x' y' := Rel_thought h (fun c z1 z2 z3 z4 z5 z6 => g2 c (by omega) (by omega)) ⟨fun k a b => k2 k b, k3⟩ (fun i => by rw [k2 101 (by omega)])
    exact Rel_same hRel rfl rfl
  · rw [dF c1, dF c1]
    exact st_fail h 1 _ _ (by omega) rfl (by decide)
/-- the tape copied to its use's place -/
theorem m_tape {y : Wd} {u : Nat} (hu : u ≤ 1) : ∃ y', f_X9_text_30 (nI u) 0 y = f_X9_text_66 (nI u) y' ∧ (∀ k, k ≠ 101 → y' k = y k) ∧ ∀ i, y' 101 i = if 129 + 50 * u ≤ i ∧ i < 179 + 50 * u then y 101 (59 + (i - (129 + 50 * u))) else y 101 i := by
  unfold f_X9_text_30
  obtain ⟨s, ⟨h1, h2⟩, h4⟩ := lp_run (z := fun _ _ _ => none) (F := fun rec => fb_X9_text_30 rec) (fun g (s : Wd) i => g (nI u) (nI i) s) 50 (fun s => f_X9_text_66 (nI u) s) (fun i s => (∀ k, k ≠ 101 → s k = y k) ∧ ∀ j, s 101 j = if 129 + 50 * u ≤ j ∧ j < 129 + 50 * u + i then y 101 (59 + (j - (129 + 50 * u))) else y 101 j) (fun g i s hi hI => by
    obtain ⟨i1, i2⟩ := hI
    refine ⟨updW s 101 (129 + 50 * u + i) (y 101 (59 + i)), ⟨fun k hk => by rw [updW_cell hk]; exact i1 k hk, fun j => ?_⟩, ?_⟩
    · rw [updW_get]
      by_cases e : j = 129 + 50 * u + i
      · rw [if_pos ⟨rfl, e⟩, if_pos (by omega), show j - (129 + 50 * u) = i by omega]
      · rw [if_neg (fun z => e z.2), i2 j]
        by_cases e2 : 129 + 50 * u ≤ j ∧ j < 129 + 50 * u + i
        · rw [if_pos e2, if_pos (by omega)]
        · rw [if_neg e2, if_neg (by omega)]
    · unfold fb_X9_text_30
      have e59 : (59:Int32) + nI i = nI (59 + i) := ix_59 i
      have e129 : (129:Int32) + (50:Int32) * nI u + nI i = nI (129 + 50 * u + i) := by
        rw [show (50:Int32) = nI 50 from rfl, nI_mul, show (129:Int32) = nI 129 from rfl, nI_add, nI_add]
      rw [if_neg (show ¬ (50:Int32) ≤ nI i from nI_ge (b := 50) hi (by omega)), e59, ald_nI (by omega) (by omega), e129, ast_nI (by omega) (by omega), nI_1, i2 (59 + i), if_neg (by omega)]) (fun g s hI => by
    unfold fb_X9_text_30
    rw [if_pos (by decide)]) (by omega) y ⟨fun _ _ => rfl, fun j => by rw [if_neg (by omega)]⟩
  exact ⟨s, h4, h1, fun i => by
    rw [h2 i]
    by_cases e : 129 + 50 * u ≤ i ∧ i < 179 + 50 * u
    · rw [if_pos (by omega), if_pos e]
    · rw [if_neg (by omega), if_neg e]⟩
theorem Rel_rd {n : Nat} {x1 y1 x' y' : Wd} (h : Rel n x1 y1) (hx : ∀ k, k ≠ 64 → k ≠ 65 → k ≠ 66 → k ≠ 81 → k ≠ 82 → x' k = x1 k) (h101 : y' 101 = y1 101) (hk : FYk y1 y') : Rel n x' y' := by
  refine Rel_of0 h ?_ (fun k hk => hx k (by unfold keepX at hk; omega) (by unfold keepX at hk; omega) (by unfold keepX at hk; omega) (by unfold keepX at hk; omega) (by unfold keepX at hk; omega)) hk.1 (hk.2 4 (by omega)) (hk.2 5 (by omega)) (hk.2 24 (by omega))
  rw [h101]
  exact RB_congr (fun k k1 k2 => hx k (by omega) (by omega) (by omega) (by omega) (by omega)) h.1
theorem st_text : St_text Rel := by
  intro n x y p1 hn h
  unfold f_X8_text f_X9_text
  rw [x_within, m_in, bd_s, bd_s, bI_ite1, bI_ite1]
  by_cases c1 : (0:Int32) ≤ p1 ∧ p1 ≤ 1
  · rw [dT c1, dT c1]
    obtain ⟨u, hu, rfl⟩ := in_01 c1
    obtain ⟨hTr, hNi, hLa, hLb, hZ, ⟨t, t1, t2, t3, t4⟩, ⟨v, v1, v2, v3, v4⟩⟩ := h.1
    obtain ⟨P, Q, hW, hR⟩ := hTr
    have hP := hW.1
    have hQ := hW.2.1
    have hB : ∀ i, i < t → ∃ k, k < 256 ∧ y 101 (59 + i) = nI k := fun i hi => byB_nI (t4 i hi).2
    obtain ⟨x1, a1, a2, a3, a4⟩ := x_reads (x := x) (B := fun i => y 101 (59 + i)) hu t1 hB t3 (fun i hi => (t4 i hi).1)
    -- the reference
    obtain ⟨y1, b1, b2, b2', b3⟩ := m_moveAll (y := y) (a := 101) (b := 104) rfl rfl (by omega)
    have e1 : y1 101 = y 101 := b3 101 (by omega)
    obtain ⟨y2, d1, d2, d3⟩ := m_tape (y := y1) hu
    rw [e1] at d3
    have e24 : y2 101 4 = nI t := by rw [d3, if_neg (by omega)]; exact t2
    have hsz : (6:Int32) + nI u = nI (6 + u) := by rw [show (6:Int32) = nI 6 from rfl, nI_add]
    obtain ⟨w, y3, g1, g2, g3, g4, g5, g6⟩ := m_walks (y := updW y2 101 (6 + u) (nI t)) (a := 1) (b := 1) (c := 1) hu t1 (updW_self _ _ _ _)
    have e3 : ∀ i, updW y2 101 (6 + u) (nI t) 101 i = if i = 6 + u then nI t else if 129 + 50 * u ≤ i ∧ i < 179 + 50 * u then y 101 (59 + (i - (129 + 50 * u))) else y 101 i := fun i => by
      rw [updW_get]
      by_cases z : i = 6 + u
      · rw [if_pos ⟨rfl, z⟩, if_pos z]
      · rw [if_neg (fun q => z q.2), if_neg z, d3]
    have epS : pS u (BR (updW y2 101 (6 + u) (nI t) 101) u) t 60 0 0 0 = pS u (fun i => y 101 (59 + i)) t 60 0 0 0 := by
      apply pS_congr
      intro p
      unfold sgB
      by_cases hp : p < t
      · rw [if_pos hp, if_pos hp]
        show updW y2 101 (6 + u) (nI t) 101 (129 + 50 * u + p) = y 101 (59 + p)
        rw [e3, if_neg (by omega), if_pos (by omega), show 129 + 50 * u + p - (129 + 50 * u) = p by omega]
      · rw [if_neg hp, if_neg hp]
    rw [epS] at g4 g5
    have g6' := g6
    rw [epS] at g6'
    obtain ⟨s1, s2, s3⟩ := pS_ok (u := u) (B := fun i => y 101 (59 + i)) 60 0 0 0 (by omega : 0 ≤ t)
    dsimp only at s2 s3
    have hy3 : ∀ k, k ≠ 100 → k ≠ 101 → k ≠ 104 → y3 k = y k := fun k z1 z2 z3 => by
      rw [g2 k z1, updW_cell z2, d2 k z2, b3 k z3]
    have hy3p : ∀ i, (i < 7 ∨ 14 < i) → y3 100 i = y 100 i := fun i hi => by
      rw [g3 i hi, updW_cell (by omega), d2 100 (by omega), b3 100 (by omega)]
    have h3row : y3 101 = updW y2 101 (6 + u) (nI t) 101 := g2 101 (by omega)
    have h3bef : y3 104 = y1 104 := by rw [g2 104 (by omega), updW_cell (by omega), d2 104 (by omega)]
    have eX : f_X3_reads 21 (nI u) x = some (bI ((pS u (fun i => y 101 (59 + i)) t 60 0 0 0).1 && decide ((pS u (fun i => y 101 (59 + i)) t 60 0 0 0).2.1 = t)), x1) := a1
    have eclr : f_X4_clear 21 x1 = some (updW x1 21 1 0) := by
      unfold f_X4_clear
      rw [wl_s]
    have eY : f_X9_text_30 (nI u) 0 y1 = (if y3 100 14 = 0 then f_X9_text_106 y3 else f_X9_text_107 1 y3) := by
      rw [d1]
      unfold f_X9_text_66
      rw [show (4:Int32) = nI 4 from rfl, m_rowN (by omega), e24, hsz, ast_nI (by omega) (by omega), show (1:Int32) = nI 1 from rfl] at *
      have g1' : f_X9_walks (nI u) (nI 1) (nI 1) (nI 1) (updW y2 101 (6 + u) (nI t)) = some (w, y3) := g1
      rw [g1', bd_s, if_neg (show ¬ ¬ w = w from fun z => z rfl)]
    rw [eX, bd_s]
    dsimp only
    rw [eclr, bd_s, b1, bd_s, eY]
    generalize hR' : pS u (fun i => y 101 (59 + i)) t 60 0 0 0 = Rr at *
    rcases bI_ne (Rr.1 && decide (Rr.2.1 = t)) with hb | hb
    · -- a fault
      rw [hb] at g5
      rw [hb, if_neg (fun z => z bI_f), if_pos (show y3 100 14 = 0 from g5)]
      obtain ⟨y4, m1, m2, m3, m4⟩ := m_moveAll (y := y3) (a := 104) (b := 101) rfl rfl (by omega)
      have e4 : ∀ i, y4 101 i = y 101 i := fun i => by
        rcases Nat.lt_or_ge i 229 with z | z
        · rw [m2 i z, h3bef, b2 i z]
        · rw [m3 i z, h3row, e3, if_neg (by omega), if_neg (by omega)]
      have hf : f_X9_text_106 y3 = some ((-10:Int32) - nI Rr.2.1, updW y4 101 4 0) := by
        unfold f_X9_text_106 f_X9_text_107 f_X9_text_130
        rw [lv_s, g4, if_neg (fun z => z rfl), m1, bd_s, m_s4, if_pos rfl]
      rw [hf]
      have h64 : updW x1 21 1 0 64 1 = nI Rr.2.1 := by rw [updW_cell (by omega)]; exact a3
      have hx0 : ∀ k, k ≠ 64 → k ≠ 65 → k ≠ 66 → k ≠ 81 → k ≠ 82 → updW x1 21 1 0 k = updW x 21 1 0 k := fun k z1 z2 z3 z4 z5 => by
        by_cases z : k = 21
        · subst z
          funext i
          rw [updW_get, updW_get, a2 21 (by omega) (by omega) (by omega) (by omega) (by omega)]
        · rw [updW_cell z, updW_cell z, a2 k z1 z2 z3 z4 z5]
      have hrow0 : ∀ i, updW y 101 4 0 101 i = if i = 4 then 0 else y 101 i := fun i => by
        rw [updW_get]
        by_cases z : i = 4
        · rw [if_pos ⟨rfl, z⟩, if_pos z]
        · rw [if_neg (fun q => z q.2), if_neg z]
      have hR0 : Rel (n + 1) (updW x 21 1 0) (updW y 101 4 0) := by
        refine Rel_rows h (fun k hk => updW_cell (by omega)) (fun k hk => updW_cell hk) (fun i z _ _ => by rw [hrow0, if_neg z]) ⟨0, by omega, by rw [hrow0, if_pos rfl]; rfl, by rw [updW_self]; rfl, fun i hi => by omega⟩ ⟨v, v1, by rw [hrow0, if_neg (by omega)]; exact v2, by rw [updW_cell (by omega)]; exact v3, fun i hi => by rw [updW_cell (by omega), hrow0, if_neg (by omega)]; exact v4 i hi⟩
      have hRel : Rel (n + 1) (updW x1 21 1 0) (updW y4 101 4 0) := by
        refine Rel_rd hR0 hx0 (funext fun i => ?_) ⟨fun k z1 z2 => ?_, fun i hi => ?_⟩
        · rw [hrow0, updW_get]
          by_cases z : i = 4
          · rw [if_pos ⟨rfl, z⟩, if_pos z]
          · rw [if_neg (fun q => z q.2), if_neg z, e4]
        · unfold keepM at z1
          rw [updW_cell (by omega), updW_cell (by omega), m4 k (by omega), hy3 k z2 (by omega) (by omega)]
        · rw [updW_cell (by omega), updW_cell (by omega), m4 100 (by omega), hy3p i hi]
      exact ⟨_, _, _, rfl, by rw [h64], hRel⟩
    · -- a text
      rw [hb] at g5
      obtain ⟨hok, hend⟩ := (Bool.and_eq_true _ _).mp hb
      rw [decide_eq_true_eq] at hend
      obtain ⟨s4, s5⟩ := s3 hok
      rw [hb, if_pos (show ¬ bI true = 0 by decide), if_neg (show ¬ y3 100 14 = 0 by rw [g5]; decide)]
      have hCL := a4 hok
      obtain ⟨la1, la2⟩ := x_lawAt (x := updW x1 21 1 0) hu
      rw [la1, bd_s, la2, gd_s]
      have hrl : rlen 65 = 50 ∧ rlen (11 + 5 * u + 1) = 50 := by
        rcases (by omega : u = 0 ∨ u = 1) with rfl | rfl <;> exact ⟨rfl, rfl⟩
      obtain ⟨x2, k1, k2, k3, k4⟩ := x_copyRow (x := updW x1 21 1 0) (d := 11 + 5 * u + 1) (s := 65) (c := Rr.2.2.length) (by omega) (by rw [updW_cell (by omega)]; exact hCL.1) (by omega) (by omega) (by omega)
      have hwr : f_X2_write (11 + 5 * u) 65 (updW x1 21 1 0) = some x2 := by
        unfold f_X2_write
        rw [k1, bd_s]
      have hf : f_X9_text_107 1 y3 = some (1, updW y3 101 4 0) := by
        unfold f_X9_text_107 f_X9_text_130
        rw [lv_s, if_pos (by decide), m_s4, if_neg (by decide)]
      rw [hwr, bd_s, hf]
      have hx2 : ∀ k, k ≠ 21 → k ≠ 64 → k ≠ 65 → k ≠ 66 → k ≠ 12 + 5 * u → k ≠ 13 + 5 * u → k < 81 → x2 k = x k := fun k z1 z2 z3 z4 z5 z6 z7 => by
        rw [k4 k (by omega) (by omega), updW_cell z1, a2 k z2 z3 z4 (by omega) (by omega)]
      have hrow : ∀ i, updW y3 101 4 0 101 i = if i = 4 then 0 else if i = 6 + u then nI t else if 129 + 50 * u ≤ i ∧ i < 179 + 50 * u then y 101 (59 + (i - (129 + 50 * u))) else y 101 i := fun i => by
        rw [updW_get]
        by_cases z : i = 4
        · rw [if_pos ⟨rfl, z⟩, if_pos z]
        · rw [if_neg (fun q => z q.2), if_neg z, h3row, e3]
      have hoth : ∀ i, i ≠ 4 → i ≠ 6 + u → ¬ (129 + 50 * u ≤ i ∧ i < 179 + 50 * u) → updW y3 101 4 0 101 i = y 101 i := fun i z1 z2 z3 => by
        rw [hrow, if_neg z1, if_neg z2, if_neg z3]
      have hsk : ∀ i, i < 59 → i ≠ 2 → i ≠ 4 → i ≠ 5 → i ≠ 6 → i ≠ 7 → updW y3 101 4 0 101 i = y 101 i := fun i z0 _ z1 _ z2 z3 => hoth i z1 (by omega) (by omega)
      have hT : TXT (updW y3 101 4 0 101) u t Rr.2.2 := by
        unfold TXT
        have : pS u (fun i => updW y3 101 4 0 101 (129 + 50 * u + i)) t 60 0 0 0 = Rr := by
          rw [← hR']
          apply pS_congr
          intro p
          unfold sgB
          by_cases hp : p < t
          · rw [if_pos hp, if_pos hp]
            show updW y3 101 4 0 101 (129 + 50 * u + p) = y 101 (59 + p)
            rw [hrow, if_neg (by omega), if_neg (by omega), if_pos (by omega), show 129 + 50 * u + p - (129 + 50 * u) = p by omega]
          · rw [if_neg hp, if_neg hp]
        rw [this]
        obtain ⟨r1, r2, r3⟩ := Rr
        dsimp only at hok hend ⊢
        rw [hok, hend]
      have hLn : RLw x2 (11 + 5 * u) (updW y3 101 4 0 101) u := by
        refine ⟨?_, Or.inr ⟨t, Rr.2.2, by omega, t1, ?_, hT, s5, by omega, k2, fun i hi => ?_⟩⟩
        · rw [hx2 _ (by omega) (by omega) (by omega) (by omega) (by omega) (by omega) (by omega)]
          rcases (by omega : u = 0 ∨ u = 1) with rfl | rfl
          · exact hLa.1
          · exact hLb.1
        · rw [hrow, if_neg (by omega), if_pos rfl]
        · have := k3 i hi
          rw [show 11 + 5 * u + 1 + 1 = 11 + 5 * u + 2 by omega] at this
          rw [this, updW_cell (by omega)]
          exact hCL.2 i hi
      have hold : ∀ u', u' ≤ 1 → u' ≠ u → RLw x (11 + 5 * u') (y 101) u' → RLw x2 (11 + 5 * u') (updW y3 101 4 0 101) u' := fun u' z1 z2 hl => RLw_congr (hx2 _ (by omega) (by omega) (by omega) (by omega) (by omega) (by omega) (by omega)) (hx2 _ (by omega) (by omega) (by omega) (by omega) (by omega) (by omega) (by omega)) (hx2 _ (by omega) (by omega) (by omega) (by omega) (by omega) (by omega) (by omega)) (hoth _ (by omega) (by omega) (by omega)) (fun i hi => hoth _ (by omega) (by omega) (by omega)) hl
      have hRB : RB x2 1 (updW y3 101 4 0 101) := by
        refine ⟨⟨P, Q, WF_skip2 hsk hW, RT_skip2 hP hQ hsk (T_cells (fun k q1 q2 => hx2 k (by omega) (by omega) (by omega) (by omega) (by omega) (by omega) (by omega)) hR hP hQ)⟩, by rw [hoth 0 (by omega) (by omega) (by omega)]; exact hNi, ?_, ?_, ?_, ⟨0, by omega, by rw [hrow, if_pos rfl]; rfl, ?_, fun i hi => by omega⟩, ⟨v, v1, by rw [hoth 5 (by omega) (by omega) (by omega)]; exact v2, ?_, fun i hi => ?_⟩⟩
        · rcases (by omega : u = 0 ∨ u = 1) with rfl | rfl
          · exact hLn
          · exact hold 0 (by omega) (by omega) hLa
        · rcases (by omega : u = 0 ∨ u = 1) with rfl | rfl
          · exact hold 1 (by omega) (by omega) hLb
          · exact hLn
        · rw [hx2 1 (by omega) (by omega) (by omega) (by omega) (by omega) (by omega) (by omega), hoth 2 (by omega) (by omega) (by omega)]; exact hZ
        · show x2 21 1 = nI 0
          rw [k4 21 (by omega) (by omega), updW_self]; rfl
        · show x2 23 1 = nI v
          rw [hx2 23 (by omega) (by omega) (by omega) (by omega) (by omega) (by omega) (by omega)]; exact v3
        · show x2 24 i = _
          rw [hx2 24 (by omega) (by omega) (by omega) (by omega) (by omega) (by omega) (by omega), hoth _ (by omega) (by omega) (by omega)]; exact v4 i hi
      have hRel : Rel n x2 (updW y3 101 4 0) := Rel_of0 h hRB (fun k hk => by unfold keepX at hk; exact hx2 k (by omega) (by omega) (by omega) (by omega) (by omega) (by omega) (by omega)) (fun k z1 z2 => by unfold keepM at z1; rw [updW_cell (by omega)]; exact hy3 k z2 (by omega) (by omega)) (by rw [updW_cell (by omega)]; exact hy3p 4 (by omega)) (by rw [updW_cell (by omega)]; exact hy3p 5 (by omega)) (by rw [updW_cell (by omega)]; exact hy3p 24 (by omega))
      exact Rel_same hRel rfl rfl
  · rw [dF c1, dF c1]
    exact st_fail h 1 _ _ (by omega) rfl (by decide)
end TT
