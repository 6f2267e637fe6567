section SL
theorem RLw_cnt {x : Wd} {L u : Nat} {r : Rw} (h : RLw x L r u) : ∃ c, c ≤ 50 ∧ x (L + 1) 1 = nI c := by
  rcases h.2 with ⟨-, b⟩ | ⟨e, cl, -, -, -, -, -, c6, c7, -⟩
  · exact ⟨0, by omega, b⟩
  · exact ⟨cl.length, c6, c7⟩
theorem RLw_copy {x x' : Wd} {L L' u c : Nat} {r r' : Rw} (h0 : x' L' 0 = nI u) (hc : x (L + 1) 1 = nI c) (hc5 : c ≤ 50) (h1 : x' (L' + 1) 1 = nI c) (h2 : ∀ i, i < c → x' (L' + 2) i = x (L + 2) i) (hu : u < 2) (hr : ∀ i, i < 229 → r' i = r i) (h : RLw x L r u) : RLw x' L' r' u := by
  obtain ⟨a, b⟩ := h
  refine ⟨h0, ?_⟩
  rcases b with ⟨b1, b2⟩ | ⟨e, cl, c1, c2, c3, c4, c5, c6, c7, c8⟩
  · exact Or.inl ⟨by rw [hr _ (by omega)]; exact b1, by rw [h1, ← hc]; exact b2⟩
  · have ec : cl.length = c := by rw [hc, nI_eq (by omega) (by omega)] at c7; exact c7.symm
    refine Or.inr ⟨e, cl, c1, c2, by rw [hr _ (by omega)]; exact c3, TXT_congr c2 (fun i hi => hr _ (by omega)) c4, c5, c6, by rw [h1, ec], fun i hi => by rw [h2 i (by omega)]; exact c8 i hi⟩
theorem RB_copy {x : Wd} {d s : Nat} {r r' : Rw} (hds : (d = 25 ∧ s = 1) ∨ (d = 1 ∧ s = 25)) (h : RB x s r) (hr : ∀ i, i < 229 → r' i = r i) (hu0 : x (d + 10) 0 = nI 0) (hu1 : x (d + 15) 0 = nI 1) : ∃ x', f_X0_copyFrom d s x = some x' ∧ RB x' d r' ∧ (∀ k, ¬ (d ≤ k ∧ k ≤ d + 23) → x' k = x k) ∧ x' (d + 10) = x (d + 10) ∧ x' (d + 15) = x (d + 15) := by
  obtain ⟨⟨P, Q, hW, hR⟩, h2, h3, h4, h5, ⟨t, t1, t2, t3, t4⟩, ⟨v, v1, v2, v3, v4⟩⟩ := h
  obtain ⟨c1, c1l, c1e⟩ := RLw_cnt h3
  obtain ⟨c2, c2l, c2e⟩ := RLw_cnt h4
  have rl : rlen (d + 11) = 50 ∧ rlen (s + 11) = 50 ∧ rlen (d + 16) = 50 ∧ rlen (s + 16) = 50 ∧ rlen (d + 20) = 50 ∧ rlen (s + 20) = 50 ∧ rlen (d + 22) = 20 ∧ rlen (s + 22) = 20 := by
    rcases hds with ⟨rfl, rfl⟩ | ⟨rfl, rfl⟩ <;> exact ⟨rfl, rfl, rfl, rfl, rfl, rfl, rfl, rfl⟩
  obtain ⟨l1, l2, l3, l4, l5, l6, l7, l8⟩ := rl
  obtain ⟨q1, e1, A1, A2, A3, A4⟩ := x_copyTr (x := x) (d := d + 1) (s := s + 1) (by omega)
  obtain ⟨q2, e2, B1, B2, B3⟩ := x_copyRow (x := q1) (d := d + 11) (s := s + 11) (c := c1) (by omega) (by rw [A4 _ (by omega)]; exact c1e) (by omega) (by omega) (by omega)
  obtain ⟨q3, e3, C1, C2, C3⟩ := x_copyRow (x := q2) (d := d + 16) (s := s + 16) (c := c2) (by omega) (by rw [B3 _ (by omega) (by omega), A4 _ (by omega)]; exact c2e) (by omega) (by omega) (by omega)
  obtain ⟨q4, e4, D1, D2, D3⟩ := x_copyRow (x := q3) (d := d + 20) (s := s + 20) (c := t) (by omega) (by rw [C3 _ (by omega) (by omega), B3 _ (by omega) (by omega), A4 _ (by omega)]; exact t3) (by omega) (by omega) (by omega)
  obtain ⟨q5, e5, E1, E2, E3⟩ := x_copyRow (x := q4) (d := d + 22) (s := s + 22) (c := v) (by omega) (by rw [D3 _ (by omega) (by omega), C3 _ (by omega) (by omega), B3 _ (by omega) (by omega), A4 _ (by omega)]; exact v3) (by omega) (by omega) (by omega)
  have F1 : ∀ k, d + 1 ≤ k → k ≤ d + 9 → updW q5 d 5 (q5 s 5) k = q1 k := fun k k1 k2 => by
    rw [updW_cell (by omega), E3 _ (by omega) (by omega), D3 _ (by omega) (by omega), C3 _ (by omega) (by omega), B3 _ (by omega) (by omega)]
  refine ⟨updW q5 d 5 (q5 s 5), ?_, ⟨⟨P, Q, WF_congr (fun i hi => hr i (by omega)) hW, ?_⟩, by rw [hr 0 (by omega)]; exact h2, ?_, ?_, ?_, ⟨t, t1, by rw [hr 4 (by omega)]; exact t2, ?_, fun i hi => ?_⟩, ⟨v, v1, by rw [hr 5 (by omega)]; exact v2, ?_, fun i hi => ?_⟩⟩, fun k hk => ?_, ?_, ?_⟩
  · unfold f_X0_copyFrom f_X2_copyFrom
    rw [e1, bd_s, show d + 10 + 1 = d + 11 by omega, show s + 10 + 1 = s + 11 by omega, e2, bd_s, bd_s, show d + 15 + 1 = d + 16 by omega, show s + 15 + 1 = s + 16 by omega, e3, bd_s, bd_s, e4, bd_s, e5, bd_s, wl_s]
  · have w1 := hW.1
    have w2 := hW.2.1
    obtain ⟨⟨a1, a2, a3, a4⟩, b1, b2, b3, b4, b5⟩ := hR
    refine ⟨⟨?_, ?_, ?_, ?_⟩, fun p hp => ?_, fun q hq => ?_, fun i hi => ?_, fun p q1 q2 => ?_, fun q q1 q2 => ?_⟩
    · rw [F1 _ (by omega) (by omega), A1 _ (by omega)]; exact a1
    · rw [F1 _ (by omega) (by omega), A1 _ (by omega)]; exact a2
    · rw [F1 _ (by omega) (by omega), A1 _ (by omega), hr 1 (by omega)]; exact a3
    · rw [F1 _ (by omega) (by omega), A1 _ (by omega), hr 0 (by omega)]; exact a4
    · rw [F1 _ (by omega) (by omega), F1 _ (by omega) (by omega), F1 _ (by omega) (by omega), F1 _ (by omega) (by omega), A2 _ (by omega) (by omega) _ (by omega), A2 _ (by omega) (by omega) _ (by omega), A2 _ (by omega) (by omega) _ (by omega), A2 _ (by omega) (by omega) _ (by omega), hr (9 + 4 * p) (by omega), hr (10 + 4 * p) (by omega), hr (11 + 4 * p) (by omega), hr (12 + 4 * p) (by omega)]
      exact b1 p hp
    · rw [F1 _ (by omega) (by omega), F1 _ (by omega) (by omega), F1 _ (by omega) (by omega), F1 _ (by omega) (by omega), A3 _ (by omega) (by omega) _ (by omega), A3 _ (by omega) (by omega) _ (by omega), A3 _ (by omega) (by omega) _ (by omega), A3 _ (by omega) (by omega) _ (by omega), hr (29 + 5 * q) (by omega), hr (30 + 5 * q) (by omega), hr (31 + 5 * q) (by omega), hr (32 + 5 * q) (by omega)]
      exact b2 q hq
    · rw [F1 _ (by omega) (by omega), A1 _ (by omega), b3 i hi]
      by_cases hq : i < Q
      · rw [hr (33 + 5 * i) (by omega)]
      · simp [hq]
    · rw [F1 _ (by omega) (by omega), A2 _ (by omega) (by omega) _ (by omega)]; exact b4 p q1 q2
    · rw [F1 _ (by omega) (by omega), F1 _ (by omega) (by omega), A3 _ (by omega) (by omega) _ (by omega), A3 _ (by omega) (by omega) _ (by omega)]; exact b5 q q1 q2
  · refine RLw_copy (x := x) (L := s + 10) (c := c1) ?_ c1e c1l ?_ (fun i hi => ?_) (by omega) hr h3
    · rw [updW_cell (by omega), E3 _ (by omega) (by omega), D3 _ (by omega) (by omega), C3 _ (by omega) (by omega), B3 _ (by omega) (by omega), A4 _ (by omega)]; exact hu0
    · rw [updW_cell (by omega), E3 _ (by omega) (by omega), D3 _ (by omega) (by omega), C3 _ (by omega) (by omega)]; exact B1
    · rw [updW_cell (by omega), E3 _ (by omega) (by omega), D3 _ (by omega) (by omega), C3 _ (by omega) (by omega)]
      exact (B2 i hi).trans (by rw [A4 _ (by omega)])
  · refine RLw_copy (x := x) (L := s + 15) (c := c2) ?_ c2e c2l ?_ (fun i hi => ?_) (by omega) hr h4
    · rw [updW_cell (by omega), E3 _ (by omega) (by omega), D3 _ (by omega) (by omega), C3 _ (by omega) (by omega), B3 _ (by omega) (by omega), A4 _ (by omega)]; exact hu1
    · rw [updW_cell (by omega), E3 _ (by omega) (by omega), D3 _ (by omega) (by omega)]; exact C1
    · rw [updW_cell (by omega), E3 _ (by omega) (by omega), D3 _ (by omega) (by omega)]
      exact (C2 i hi).trans (by rw [B3 _ (by omega) (by omega), A4 _ (by omega)])
  · rw [updW_self, hr 2 (by omega), E3 _ (by omega) (by omega), D3 _ (by omega) (by omega), C3 _ (by omega) (by omega), B3 _ (by omega) (by omega), A4 _ (by omega)]; exact h5
  · rw [updW_cell (by omega), E3 _ (by omega) (by omega)]; exact D1
  · rw [updW_cell (by omega), E3 _ (by omega) (by omega), hr _ (by omega)]
    refine ⟨(D2 i hi).trans ?_, (t4 i hi).2⟩
    rw [C3 _ (by omega) (by omega), B3 _ (by omega) (by omega), A4 _ (by omega)]
    exact (t4 i hi).1
  · rw [updW_cell (by omega)]; exact E1
  · rw [updW_cell (by omega), hr _ (by omega)]
    refine (E2 i hi).trans ?_
    rw [D3 _ (by omega) (by omega), C3 _ (by omega) (by omega), B3 _ (by omega) (by omega), A4 _ (by omega)]
    exact v4 i hi
  · rw [updW_cell (by omega), E3 _ (by omega) (by omega), D3 _ (by omega) (by omega), C3 _ (by omega) (by omega), B3 _ (by omega) (by omega), A4 _ (by omega)]
  · rw [updW_cell (by omega), E3 _ (by omega) (by omega), D3 _ (by omega) (by omega), C3 _ (by omega) (by omega), B3 _ (by omega) (by omega), A4 _ (by omega)]
  · rw [updW_cell (by omega), E3 _ (by omega) (by omega), D3 _ (by omega) (by omega), C3 _ (by omega) (by omega), B3 _ (by omega) (by omega), A4 _ (by omega)]
theorem st_image : St_image Rel := by
  intro n x y hn h
  obtain ⟨h1, ⟨k, k1, k2, k3, k4, k5, k6, k7⟩, he, hs, ⟨t, t1, t2, t3, t4⟩⟩ := h
  obtain ⟨y', e2, m1, m2, m3⟩ := m_moveAll (y := y) (a := 101) (b := 102) rfl rfl (by omega)
  obtain ⟨X, e1, b1, b2, b3, b4⟩ := RB_copy (x := x) (d := 25) (s := 1) (r := y 101) (r' := y' 102) (Or.inl ⟨rfl, rfl⟩) h1 m1 k6 k7
  unfold f_X8_image f_X9_image
  rw [e1, bd_s, wl_s, e2, bd_s, wl_s, wl_s, b2 0 (by omega), k2, nI_1, updW_place (w := y') (k := 100) (i := 4) (k' := 100) (i' := 5) (by omega), m3 100 (by omega), k3, nI_1, updW_self, updW_self]
  refine ⟨nI (k + 1), _, _, rfl, rfl, ?_, ⟨k + 1, by omega, updW_self _ _ _ _, updW_self _ _ _ _, ?_, fun _ => ?_, ?_, ?_⟩, fun i hi => ?_, fun s hs4 => ?_, ⟨t, t1, ?_, ?_, fun i hi => ?_⟩⟩
  · rw [updW_cell (k' := 101) (by omega), updW_cell (k' := 101) (by omega), m3 101 (by omega)]
    exact RB_congr (fun k j1 j2 => by rw [updW_cell (by omega), b2 k (by omega)]) h1
  · rw [updW_place (by omega), updW_self, if_neg (by omega)]
  · rw [updW_cell (k' := 102) (by omega), updW_cell (k' := 102) (by omega)]
    exact RB_congr (fun k j1 j2 => updW_cell (by omega)) b1
  · rw [updW_cell (by omega), b3]; exact k6
  · rw [updW_cell (by omega), b4]; exact k7
  · rw [updW_cell (by omega), b2 _ (by omega), updW_cell (by omega), updW_cell (by omega), m3 _ (by omega)]; exact he i hi
  · rw [updW_cell (k' := 71 + 2 * s) (by omega), updW_cell (k' := 72 + 2 * s) (by omega), b2 (71 + 2 * s) (by omega), b2 (72 + 2 * s) (by omega), updW_cell (k' := 110) (by omega), updW_cell (k' := 110) (by omega), m3 110 (by omega), updW_cell (k' := 111) (by omega), updW_cell (k' := 111) (by omega), m3 111 (by omega), updW_cell (k' := 112) (by omega), updW_cell (k' := 112) (by omega), m3 112 (by omega)]; exact hs s hs4
  · rw [updW_cell (by omega), b2 _ (by omega)]; exact t2
  · rw [updW_place (by omega), updW_place (by omega), m3 _ (by omega)]; exact t3
  · rw [updW_cell (by omega), b2 _ (by omega), updW_cell (by omega), updW_cell (by omega), m3 _ (by omega)]; exact t4 i hi
theorem st_restore : St_restore Rel := by
  intro n x y hn h
  have h0 := h
  obtain ⟨h1, ⟨k, k1, k2, k3, k4, k5, k6, k7⟩, he, hs, ⟨t, t1, t2, t3, t4⟩⟩ := h
  unfold f_X8_restore f_X9_restore
  rw [k2, k4]
  by_cases c : k = 0
  · subst c
    rw [if_neg (fun q => q rfl), if_pos rfl, if_neg (fun q => q rfl)]
    exact st_fail h0 2 _ _ (by omega) rfl (by decide)
  · have e0 : ¬ nI k = 0 := by rw [show (0:Int32) = nI 0 from rfl, nI_eq (by omega) (by omega)]; exact c
    rw [if_pos e0, if_neg c, if_pos (by decide)]
    obtain ⟨y', e2, m1, m2, m3⟩ := m_moveAll (y := y) (a := 102) (b := 101) rfl rfl (by omega)
    obtain ⟨X, e1, b1, b2, b3, b4⟩ := RB_copy (x := x) (d := 1) (s := 25) (r := y 102) (r' := y' 101) (Or.inr ⟨rfl, rfl⟩) (k5 c) m1 h1.2.2.1.1 h1.2.2.2.1.1
    rw [e1, bd_s, e2, bd_s, m_r0]
    obtain ⟨⟨P, Q, -, hR⟩, -⟩ := id b1
    rw [show X 2 12 = y' 101 0 from hR.1.2.2.2]
    refine ⟨_, _, _, rfl, rfl, b1, ⟨k, by omega, ?_, ?_, ?_, fun _ => ?_, ?_, ?_⟩, fun i hi => ?_, fun s hs4 => ?_, ⟨t, t1, ?_, ?_, fun i hi => ?_⟩⟩
    · rw [b2 _ (by omega)]; exact k2
    · rw [m3 _ (by omega)]; exact k3
    · rw [m3 _ (by omega)]; exact k4
    · rw [m3 _ (by omega)]
      exact RB_congr (fun k j1 j2 => b2 _ (by omega)) (k5 c)
    · rw [b2 _ (by omega)]; exact k6
    · rw [b2 _ (by omega)]; exact k7
    · rw [b2 _ (by omega), m3 _ (by omega)]; exact he i hi
    · rw [b2 _ (by omega), b2 _ (by omega), m3 _ (by omega), m3 _ (by omega), m3 _ (by omega)]; exact hs s hs4
    · rw [b2 _ (by omega)]; exact t2
    · rw [m3 _ (by omega)]; exact t3
    · rw [b2 _ (by omega), m3 _ (by omega)]; exact t4 i hi
end SL
