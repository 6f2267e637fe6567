section EH
theorem join60 (p q : Int32) : joinV 60 p q = if q ≤ p then 0 else 1 := by
  unfold joinV
  rw [if_neg (show ¬ (60:Int32) = 38 by decide), if_neg (show ¬ (60:Int32) = 42 by decide), if_neg (show ¬ (60:Int32) = 43 by decide), if_neg (show ¬ (60:Int32) = 45 by decide), if_neg (show ¬ (60:Int32) = 47 by decide), if_pos (show (60:Int32) = 60 from rfl)]
theorem join61 (p q : Int32) : joinV 61 p q = if p = q then 1 else 0 := by
  unfold joinV
  rw [if_neg (show ¬ (61:Int32) = 38 by decide), if_neg (show ¬ (61:Int32) = 42 by decide), if_neg (show ¬ (61:Int32) = 43 by decide), if_neg (show ¬ (61:Int32) = 45 by decide), if_neg (show ¬ (61:Int32) = 47 by decide), if_neg (show ¬ (61:Int32) = 60 by decide), if_pos (show (61:Int32) = 61 from rfl)]
theorem join62 (p q : Int32) : joinV 62 p q = if p ≤ q then 0 else 1 := by
  unfold joinV
  rw [if_neg (show ¬ (62:Int32) = 38 by decide), if_neg (show ¬ (62:Int32) = 42 by decide), if_neg (show ¬ (62:Int32) = 43 by decide), if_neg (show ¬ (62:Int32) = 45 by decide), if_neg (show ¬ (62:Int32) = 47 by decide), if_neg (show ¬ (62:Int32) = 60 by decide), if_neg (show ¬ (62:Int32) = 61 by decide), if_pos (show (62:Int32) = 62 from rfl)]
theorem sm_compared {gf gp gs gc gb gw : Wd → Option (Int32 × Wd)} {R : Rw} {u e o f : Nat} {a b c : Int32} (hu : u ≤ 1) (he : e ≤ 50) (hG : Sm gs R u e a b c (fun p => pS u (BR R u) e f 3 p o) o) : Sm (fg_X9_compared gf gp gs gc gb gw) R u e a b c (fun p => pS u (BR R u) e (f + 1) 2 p o) o := by
  intro y pos hC hp h8 h10 h14
  obtain ⟨v, y1, g1, g2, g3, g4, g5, g6⟩ := hG y pos hC hp h8 h10 h14
  dsimp only at g4 g5 g6
  have hpS : pS u (BR R u) e (f + 1) 2 pos o = (if (pS u (BR R u) e f 3 pos o).1 = true then loopS (BR R u) e 2 (fun p => pS u (BR R u) e f 3 p o) 1 (pS u (BR R u) e f 3 pos o).2.1 (pS u (BR R u) e f 3 pos o).2.2 else (false, (pS u (BR R u) e f 3 pos o).2.1, [])) := by
    rw [pS, if_pos (by decide), if_pos rfl]
  show ∃ v y', fg_X9_compared gf gp gs gc gb gw y = some (v, y') ∧ FE y y' ∧ y' 100 10 = nI o ∧ y' 100 8 = nI (pS u (BR R u) e (f + 1) 2 pos o).2.1 ∧ y' 100 14 = bI (pS u (BR R u) e (f + 1) 2 pos o).1 ∧ ((pS u (BR R u) e (f + 1) 2 pos o).1 = true → ∀ st, evL a b c (pS u (BR R u) e (f + 1) 2 pos o).2.2 st = v :: st)
  rw [hpS]
  unfold fg_X9_compared
  rw [g1, bd_s]
  dsimp only
  obtain ⟨s1, s2, s3⟩ := pS_ok (u := u) (B := BR R u) f 3 o pos hp
  dsimp only at s1 s2
  rcases bI_ne (pS u (BR R u) e f 3 pos o).1 with hb | hb
  · rw [if_neg (show ¬ (pS u (BR R u) e f 3 pos o).1 = true by rw [hb]; decide)]
    rw [hb] at g5
    refine ⟨v, y1, ?_, g2, g3, g4, g5, fun z => absurd z Bool.false_ne_true⟩
    unfold f_X9_compared_24
    rw [if_pos (show y1 100 14 = 0 from g5), if_neg (by decide), if_neg (by decide), if_neg (by decide)]
  · rw [if_pos hb]
    rw [hb] at g5
    have hC1 := EC_fe g2 hC
    generalize (pS u (BR R u) e f 3 pos o).2.1 = p1 at *
    generalize hcl : (pS u (BR R u) e f 3 pos o).2.2 = cl at *
    have hev := g6 hb
    rw [if_neg (show ¬ y1 100 14 = 0 by rw [g5]; decide), g4, m_byte hu he s2 hC1, bd_s]
    have h0 : ∀ p cl, loopS (BR R u) e 2 (fun p => pS u (BR R u) e f 3 p o) 0 p cl = (true, p, cl) := fun _ _ => rfl
    unfold loopS
    by_cases hop : opL (sgB (BR R u) e p1) = 2
    · rw [if_pos hop]
      have hpe := op_lt (by omega) hop
      have hF0 : FE y1 (updW y1 100 8 (nI (p1 + 1))) := FE_upd (Or.inl rfl)
      obtain ⟨v2, y2, j1, j2, j3, j4, j5, j6⟩ := hG (updW y1 100 8 (nI (p1 + 1))) (p1 + 1) (EC_fe hF0 hC1) (by omega) (updW_self _ _ _ _) (by rw [updW_place (by omega)]; exact g3) (by rw [updW_place (by omega)]; exact g5)
      dsimp only at j4 j5 j6
      have e45 : f_X9_compared_45 gf gp gs gc gb gw v (sgB (BR R u) e p1) y1 = some (joinV (sgB (BR R u) e p1) v v2, y2) := by
        unfold f_X9_compared_45 f_X9_compared_108
        rw [g4, nI_1, wl_s, j1, bd_s]
        dsimp only
        rcases (op_iff _).2.2.1.mp hop with z | z | z <;> rw [z]
        · rw [if_neg (fun w => w rfl), join60]
          by_cases hq : v2 ≤ v
          · rw [if_pos hq, if_pos hq, if_pos rfl]
          · rw [if_neg hq, if_neg hq, if_neg (by decide)]
        · rw [if_pos (by decide), if_neg (fun w => w rfl), join61]
          by_cases hq : v = v2
          · rw [if_neg (fun w => w hq), if_pos hq, if_neg (by decide)]
          · rw [if_pos hq, if_neg hq, if_pos rfl]
        · rw [if_pos (by decide), if_pos (by decide), join62]
          by_cases hq : v ≤ v2
          · rw [if_pos hq, if_pos hq, if_pos rfl]
          · rw [if_neg hq, if_neg hq, if_neg (by decide)]
      have e24 : f_X9_compared_24 gf gp gs gc gb gw v (sgB (BR R u) e p1) y1 = some (joinV (sgB (BR R u) e p1) v v2, y2) := by
        unfold f_X9_compared_24
        rw [e45]
        rcases (op_iff _).2.2.1.mp hop with z | z | z
        · rw [if_pos z]
        · rw [if_neg (by rw [z]; decide), if_pos z]
        · rw [if_neg (by rw [z]; decide), if_neg (by rw [z]; decide), if_pos z]
      rw [e24]
      rcases bI_ne (pS u (BR R u) e f 3 (p1 + 1) o).1 with hb2 | hb2
      · rw [if_neg (show ¬ (pS u (BR R u) e f 3 (p1 + 1) o).1 = true by rw [hb2]; decide)]
        rw [hb2] at j5
        exact ⟨_, y2, rfl, FE_trans g2 (FE_trans hF0 j2), j3, j4, j5, fun z => absurd z Bool.false_ne_true⟩
      · rw [if_pos hb2, h0]
        rw [hb2] at j5
        exact ⟨_, y2, rfl, FE_trans g2 (FE_trans hF0 j2), j3, j4, j5, fun _ => ev_join (by omega) hop hev (j6 hb2)⟩
    · rw [if_neg hop]
      refine ⟨v, y1, ?_, g2, g3, g4, g5, fun _ => hev⟩
      rw [(op_iff _).2.2.1] at hop
      unfold f_X9_compared_24
      rw [if_neg (fun z => hop (Or.inl z)), if_neg (fun z => hop (Or.inr (Or.inl z))), if_neg (fun z => hop (Or.inr (Or.inr z)))]
theorem sm_factor {gf gp gs gc gb gw : Wd → Option (Int32 × Wd)} {R : Rw} {u e o f : Nat} {a b c : Int32} (hu : u ≤ 1) (he : e ≤ 50) (ho : o ≤ 5) (hF : o < 5 → Sm gf R u e a b c (fun p => pS u (BR R u) e f 5 p (o + 1)) (o + 1)) (hG : o < 5 → Sm gw R u e a b c (fun p => pS u (BR R u) e f 0 p (o + 1)) (o + 1)) : Sm (fg_X9_factor gf gp gs gc gb gw) R u e a b c (fun p => pS u (BR R u) e (f + 1) 5 p o) o := by
  intro y pos hC hp h8 h10 h14
  have hb := m_byte hu he hp hC
  generalize hs : sgB (BR R u) e pos = s at hb
  have hpS : pS u (BR R u) e (f + 1) 5 pos o = (if digB s = true then (true, (numS (BR R u) e 4 pos 0).1, [(numS (BR R u) e 4 pos 0).2])
    else if s = 33 then (if o < 5 then ((pS u (BR R u) e f 5 (pos + 1) (o + 1)).1, (pS u (BR R u) e f 5 (pos + 1) (o + 1)).2.1, (pS u (BR R u) e f 5 (pos + 1) (o + 1)).2.2 ++ [-33]) else (false, pos, []))
    else if s = 40 then (if o < 5 then (if (pS u (BR R u) e f 0 (pos + 1) (o + 1)).1 = true then (if sgB (BR R u) e (pS u (BR R u) e f 0 (pos + 1) (o + 1)).2.1 = 41 then (true, (pS u (BR R u) e f 0 (pos + 1) (o + 1)).2.1 + 1, (pS u (BR R u) e f 0 (pos + 1) (o + 1)).2.2) else (false, (pS u (BR R u) e f 0 (pos + 1) (o + 1)).2.1, [])) else (false, (pS u (BR R u) e f 0 (pos + 1) (o + 1)).2.1, [])) else (false, pos, []))
    else if s = nm1 u then (true, pos + 1, [-1]) else if s = nm2 u then (true, pos + 1, [-2]) else if s = nm3 u then (true, pos + 1, [-3]) else (false, pos, [])) := by
    rw [pS, if_neg (by decide), hs]
  show ∃ v y', fg_X9_factor gf gp gs gc gb gw y = some (v, y') ∧ FE y y' ∧ y' 100 10 = nI o ∧ y' 100 8 = nI (pS u (BR R u) e (f + 1) 5 pos o).2.1 ∧ y' 100 14 = bI (pS u (BR R u) e (f + 1) 5 pos o).1 ∧ ((pS u (BR R u) e (f + 1) 5 pos o).1 = true → ∀ st, evL a b c (pS u (BR R u) e (f + 1) 5 pos o).2.2 st = v :: st)
  rw [hpS]
  unfold fg_X9_factor
  rw [h8, hb, bd_s, m_isDigit, bd_s]
  rcases bI_ne (digB s) with hd | hd
  · rw [hd, if_pos bI_f, if_neg Bool.false_ne_true]
    -- opening
    have h39 : s = 33 ∨ s = 40 → (¬ o < 5 → f_X9_factor_39 gf gp gs gc gb gw s y = some (0, updW y 100 14 0)) ∧ (o < 5 → f_X9_factor_39 gf gp gs gc gb gw s y = (if ¬ s = 33 then bd (gw (updW (updW y 100 10 (nI (o + 1))) 100 8 (nI (pos + 1)))) (fun q3 => f_X9_factor_89 gf gp gs gc gb gw s q3.1 q3.2) else bd (gf (updW (updW y 100 10 (nI (o + 1))) 100 8 (nI (pos + 1)))) (fun q4 => f_X9_factor_89 gf gp gs gc gb gw s q4.1 q4.2))) := fun _ => by
      unfold f_X9_factor_39 f_X9_fails
      rw [h10, wl_s, wl_s, nI_1, updW_place (by omega), h8, nI_1, wl_s]
      constructor
      · intro z
        rw [if_neg (fun w => w (show nI o = 5 by rw [show o = 5 by omega]; rfl)), bd_s]
      · intro z
        rw [if_pos (show ¬ nI o = 5 from fun w => by rw [show (5:Int32) = nI 5 from rfl, nI_eq (by omega) (by omega)] at w; omega)]
    have hF0 : FE y (updW (updW y 100 10 (nI (o + 1))) 100 8 (nI (pos + 1))) := FE_trans (FE_upd (Or.inr (Or.inl rfl))) (FE_upd (Or.inl rfl))
    have hFs : FE y (updW y 100 14 0) := FE_upd (Or.inr (Or.inr rfl))
    by_cases c2 : s = 33
    · rw [if_pos c2, if_pos c2]
      have hp1 : pos < e := sg_lt (by rw [hs, c2]; decide)
      by_cases z : o < 5
      · rw [if_pos z, (h39 (Or.inl c2)).2 z, if_neg (fun w => w c2)]
        obtain ⟨v, y1, g1, g2, g3, g4, g5, g6⟩ := hF z (updW (updW y 100 10 (nI (o + 1))) 100 8 (nI (pos + 1))) (pos + 1) (EC_fe hF0 hC) (by omega) (updW_self _ _ _ _) (by rw [updW_place (by omega), updW_self]) (by rw [updW_place (by omega), updW_place (by omega)]; exact h14)
        dsimp only at g4 g5 g6
        rw [g1, bd_s]
        dsimp only
        unfold f_X9_factor_89
        rw [g3, nI_pred, wl_s, if_neg (fun w => w c2)]
        have hF1 : FE y (updW y1 100 10 (nI o)) := FE_trans hF0 (FE_trans g2 (FE_upd (Or.inr (Or.inl rfl))))
        refine ⟨if v = 0 then 1 else 0, updW y1 100 10 (nI o), ?_, hF1, updW_self _ _ _ _, by rw [updW_place (by omega)]; exact g4, by rw [updW_place (by omega)]; exact g5, fun w st => ?_⟩
        · by_cases hv : v = 0
          · rw [if_neg (fun w => w hv), if_pos hv]
          · rw [if_pos hv, if_neg hv]
        · show evL a b c ((pS u (BR R u) e f 5 (pos + 1) (o + 1)).2.2 ++ [-33]) st = _
          rw [evL_app, g6 w]
          show evI a b c (-33) (v :: st) = _
          unfold evI
          rw [if_neg (by decide), if_neg (by decide), if_neg (by decide), if_neg (by decide), if_pos rfl]
      · rw [if_neg z, (h39 (Or.inl c2)).1 z]
        exact ⟨0, _, rfl, hFs, by rw [updW_place (by omega)]; exact h10, by rw [updW_place (by omega)]; exact h8, updW_self _ _ _ _, fun w => absurd w Bool.false_ne_true⟩
    rw [if_neg c2, if_neg c2]
    by_cases c3 : s = 40
    · rw [if_pos c3, if_pos c3]
      have hp1 : pos < e := sg_lt (by rw [hs, c3]; decide)
      by_cases z : o < 5
      · rw [if_pos z, (h39 (Or.inr c3)).2 z, if_pos c2]
        obtain ⟨v, y1, g1, g2, g3, g4, g5, g6⟩ := hG z (updW (updW y 100 10 (nI (o + 1))) 100 8 (nI (pos + 1))) (pos + 1) (EC_fe hF0 hC) (by omega) (updW_self _ _ _ _) (by rw [updW_place (by omega), updW_self]) (by rw [updW_place (by omega), updW_place (by omega)]; exact h14)
        dsimp only at g4 g5 g6
        obtain ⟨s1, s2, s3⟩ := pS_ok (u := u) (B := BR R u) f 0 (o + 1) (pos + 1) (by omega : pos + 1 ≤ e)
        dsimp only at s1 s2
        rw [g1, bd_s]
        dsimp only
        have hF1 : FE y (updW y1 100 10 (nI o)) := FE_trans hF0 (FE_trans g2 (FE_upd (Or.inr (Or.inl rfl))))
        have hC1 := EC_fe hF1 hC
        have q10 : updW y1 100 10 (nI o) 100 10 = nI o := updW_self _ _ _ _
        have q8 : updW y1 100 10 (nI o) 100 8 = nI (pS u (BR R u) e f 0 (pos + 1) (o + 1)).2.1 := by rw [updW_place (by omega)]; exact g4
        have q14 : updW y1 100 10 (nI o) 100 14 = bI (pS u (BR R u) e f 0 (pos + 1) (o + 1)).1 := by rw [updW_place (by omega)]; exact g5
        unfold f_X9_factor_89
        rw [g3, nI_pred, wl_s, if_pos c2]
        generalize updW y1 100 10 (nI o) = y2 at hF1 hC1 q10 q8 q14
        have e148 : f_X9_factor_148 gf gp gs gc gb gw y2 = some (0, updW y2 100 14 0) := by
          unfold f_X9_factor_148 f_X9_fails
          rw [wl_s, bd_s]
        have hFf : FE y (updW y2 100 14 0) := FE_trans hF1 (FE_upd (Or.inr (Or.inr rfl)))
        rw [e148, q14]
        rcases bI_ne (pS u (BR R u) e f 0 (pos + 1) (o + 1)).1 with hk | hk
        · rw [hk, if_pos bI_f, if_neg Bool.false_ne_true]
          exact ⟨0, _, rfl, hFf, by rw [updW_place (by omega)]; exact q10, by rw [updW_place (by omega)]; exact q8, updW_self _ _ _ _, fun w => absurd w Bool.false_ne_true⟩
        · rw [hk, if_neg (show ¬ bI true = 0 by decide), if_pos rfl, q8, m_byte hu he s2 hC1, bd_s]
          by_cases hc : sgB (BR R u) e (pS u (BR R u) e f 0 (pos + 1) (o + 1)).2.1 = 41
          · rw [if_neg (fun w => w hc), if_pos hc, wl_s, nI_1]
            exact ⟨v, _, rfl, FE_trans hF1 (FE_upd (Or.inl rfl)), by rw [updW_place (by omega)]; exact q10, updW_self _ _ _ _, by rw [updW_place (by omega), q14, hk], fun _ => g6 hk⟩
          · rw [if_pos hc, if_neg hc]
            exact ⟨0, _, rfl, hFf, by rw [updW_place (by omega)]; exact q10, by rw [updW_place (by omega)]; exact q8, updW_self _ _ _ _, fun w => absurd w Bool.false_ne_true⟩
      · rw [if_neg z, (h39 (Or.inr c3)).1 z]
        exact ⟨0, _, rfl, hFs, by rw [updW_place (by omega)]; exact h10, by rw [updW_place (by omega)]; exact h8, updW_self _ _ _ _, fun w => absurd w Bool.false_ne_true⟩
    rw [if_neg c3, if_neg c3, m_named hu hC h8]
    have hFn : FE y (updW y 100 8 (nI (pos + 1))) := FE_upd (Or.inl rfl)
    by_cases c4 : s = nm1 u
    · rw [if_pos c4, if_pos c4, bd_s]
      exact ⟨a, updW y 100 8 (nI (pos + 1)), rfl, hFn, by rw [updW_place (by omega)]; exact h10, updW_self _ _ _ _, by rw [updW_place (by omega)]; exact h14, fun _ st => rfl⟩
    rw [if_neg c4, if_neg c4]
    by_cases c5 : s = nm2 u
    · rw [if_pos c5, if_pos c5, bd_s]
      exact ⟨b, updW y 100 8 (nI (pos + 1)), rfl, hFn, by rw [updW_place (by omega)]; exact h10, updW_self _ _ _ _, by rw [updW_place (by omega)]; exact h14, fun _ st => rfl⟩
    rw [if_neg c5, if_neg c5]
    by_cases c6 : s = nm3 u
    · rw [if_pos c6, if_pos c6, bd_s]
      exact ⟨c, updW y 100 8 (nI (pos + 1)), rfl, hFn, by rw [updW_place (by omega)]; exact h10, updW_self _ _ _ _, by rw [updW_place (by omega)]; exact h14, fun _ st => rfl⟩
    rw [if_neg c6, if_neg c6, bd_s]
    exact ⟨0, updW y 100 14 0, rfl, hFs, by rw [updW_place (by omega)]; exact h10, by rw [updW_place (by omega)]; exact h8, updW_self _ _ _ _, fun w => absurd w Bool.false_ne_true⟩
  · rw [hd, if_neg (show ¬ bI true = 0 by decide), if_pos rfl]
    obtain ⟨y', j1, j2, j3, j4, j5⟩ := m_number hu he 4 0 pos 0 y FU (by omega) (FU_lt (by omega)) hC hp h8
    have e1 : f_X9_number y = some ((numS (BR R u) e 4 pos 0).2, y') := j1
    rw [e1, bd_s]
    refine ⟨_, y', rfl, j2, by rw [j4]; exact h10, j3, by rw [j5]; exact h14, fun _ st => ?_⟩
    obtain ⟨n, hn, en⟩ := num_val (B := BR R u) (e := e) 4 pos 0 1 (by omega) (by decide)
    have en' : (numS (BR R u) e 4 pos 0).2 = nI n := en
    show evI a b c (numS (BR R u) e 4 pos 0).2 st = _
    unfold evI
    rw [en', if_pos (nI_pos' (by omega))]
theorem m_grp {R : Rw} {u e : Nat} {a b c : Int32} (hu : u ≤ 1) (he : e ≤ 50) : ∀ (f d k o : Nat), k ≤ 5 → o ≤ 5 → 6 - k + 6 * (5 - o) ≤ f → 6 - k + 6 * (5 - o) ≤ d → Sm (selG k (grp_X9_factor d)) R u e a b c (fun p => pS u (BR R u) e f k p o) o := by
  intro f
  induction f with
  | zero => intro d k o h1 h2 h3 h4; omega
  | succ f ih =>
    intro d k o h1 h2 h3 h4
    obtain ⟨d, rfl⟩ : ∃ g, d = g + 1 := ⟨d - 1, by omega⟩
    rcases (by omega : k = 0 ∨ k = 1 ∨ k = 2 ∨ k = 3 ∨ k = 4 ∨ k = 5) with rfl | rfl | rfl | rfl | rfl | rfl
    · exact sm_whole hu he (ih d 1 o (by omega) h2 (by omega) (by omega))
    · exact sm_both hu he (ih d 2 o (by omega) h2 (by omega) (by omega))
    · exact sm_compared hu he (ih d 3 o (by omega) h2 (by omega) (by omega))
    · exact sm_sum hu he (ih d 4 o (by omega) h2 (by omega) (by omega))
    · exact sm_product hu he (ih d 5 o (by omega) h2 (by omega) (by omega))
    · exact sm_factor hu he h2 (fun z => ih d 5 (o + 1) (by omega) (by omega) (by omega) (by omega)) (fun z => ih d 0 (o + 1) (by omega) (by omega) (by omega) (by omega))
/-- the reference reads and works out a text -/
theorem m_walks {y : Wd} {u e : Nat} {a b c : Int32} (hu : u ≤ 1) (he : e ≤ 50) (hs : y 101 (6 + u) = nI e) : ∃ v y', f_X9_walks (nI u) a b c y = some (v, y') ∧ (∀ k, k ≠ 100 → y' k = y k) ∧ (∀ i, (i < 7 ∨ 14 < i) → y' 100 i = y 100 i) ∧ y' 100 8 = nI (pS u (BR (y 101) u) e 60 0 0 0).2.1 ∧ y' 100 14 = bI ((pS u (BR (y 101) u) e 60 0 0 0).1 && decide ((pS u (BR (y 101) u) e 60 0 0 0).2.1 = e)) ∧ ((pS u (BR (y 101) u) e 60 0 0 0).1 = true → ∀ st, evL a b c (pS u (BR (y 101) u) e 60 0 0 0).2.2 st = v :: st) := by
  unfold f_X9_walks
  rw [wl_s, wl_s, show (6:Int32) + nI u = nI (6 + u) by rw [show (6:Int32) = nI 6 from rfl, nI_add], ald_nI (by omega) (by omega), updW_cell (k' := 101) (by omega), updW_cell (k' := 101) (by omega), hs, wl_s, wl_s, wl_s, wl_s, wl_s, wl_s]
  generalize hy0 : updW (updW (updW (updW (updW (updW (updW (updW y 100 7 (nI u)) 100 8 0) 100 9 (nI e)) 100 10 0) 100 14 1) 100 11 a) 100 12 b) 100 13 c = y0
  have hcell : ∀ k, k ≠ 100 → y0 k = y k := fun k hk => by
    rw [← hy0, updW_cell hk, updW_cell hk, updW_cell hk, updW_cell hk, updW_cell hk, updW_cell hk, updW_cell hk, updW_cell hk]
  have hplace : ∀ i, (i < 7 ∨ 14 < i) → y0 100 i = y 100 i := fun i hi => by
    rw [← hy0, updW_place (by omega), updW_place (by omega), updW_place (by omega), updW_place (by omega), updW_place (by omega), updW_place (by omega), updW_place (by omega), updW_place (by omega)]
  have hC : EC y0 (y 101) u e a b c := by
    refine ⟨hcell 101 (by omega), ?_, ?_, ?_, ?_, ?_⟩ <;> rw [← hy0] <;> rfl
  have h8 : y0 100 8 = nI 0 := by rw [← hy0]; rfl
  have h10 : y0 100 10 = nI 0 := by rw [← hy0]; rfl
  have h14 : y0 100 14 = 1 := by rw [← hy0]; rfl
  obtain ⟨v, y1, g1, g2, g3, g4, g5, g6⟩ := m_grp hu he 60 100 0 0 (by omega) (by omega) (by omega) (by omega) y0 0 hC (by omega) h8 h10 h14
  dsimp only at g4 g5 g6
  have g1' : f_X9_whole y0 = some (v, y1) := g1
  have hC1 := EC_fe g2 hC
  rw [g1', bd_s]
  dsimp only
  have e79 : ∀ t0 : Bool, f_X9_walks_79 v (bI t0) y1 = some (v, updW y1 100 14 (bI t0)) := fun t0 => by
    unfold f_X9_walks_79
    rw [zb_b, wl_s]
  have fin : ∀ t0 : Bool, t0 = ((pS u (BR (y 101) u) e 60 0 0 0).1 && decide ((pS u (BR (y 101) u) e 60 0 0 0).2.1 = e)) → ∃ v' y', (some (v, updW y1 100 14 (bI t0)) : Option (Int32 × Wd)) = some (v', y') ∧ (∀ k, k ≠ 100 → y' k = y k) ∧ (∀ i, (i < 7 ∨ 14 < i) → y' 100 i = y 100 i) ∧ y' 100 8 = nI (pS u (BR (y 101) u) e 60 0 0 0).2.1 ∧ y' 100 14 = bI ((pS u (BR (y 101) u) e 60 0 0 0).1 && decide ((pS u (BR (y 101) u) e 60 0 0 0).2.1 = e)) ∧ ((pS u (BR (y 101) u) e 60 0 0 0).1 = true → ∀ st, evL a b c (pS u (BR (y 101) u) e 60 0 0 0).2.2 st = v' :: st) := fun t0 ht => by
    refine ⟨v, _, rfl, fun k hk => by rw [updW_cell hk, g2.1 k hk]; exact hcell k hk, fun i hi => by rw [updW_place (by omega), g2.2 i (by omega) (by omega) (by omega)]; exact hplace i hi, by rw [updW_place (by omega)]; exact g4, by rw [updW_self, ht], g6⟩
  obtain ⟨s1, s2, s3⟩ := pS_ok (u := u) (B := BR (y 101) u) 60 0 0 0 (by omega : 0 ≤ e)
  dsimp only at s2
  unfold f_X9_walks_78
  rcases bI_ne (pS u (BR (y 101) u) e 60 0 0 0).1 with hk | hk
  · rw [if_pos (show y1 100 14 = 0 by rw [g5, hk]; rfl), show (0:Int32) = bI false from rfl, e79]
    exact fin false (by rw [hk]; rfl)
  · rw [if_neg (show ¬ y1 100 14 = 0 by rw [g5, hk]; decide)]
    by_cases hz : (pS u (BR (y 101) u) e 60 0 0 0).2.1 = e
    · rw [if_neg (show ¬ ¬ y1 100 8 = y1 100 9 from fun w => w (by rw [g4, hC1.2.2.1, hz])), show (1:Int32) = bI true from rfl, e79]
      exact fin true (by rw [hk, decide_eq_true hz]; rfl)
    · rw [if_pos (show ¬ y1 100 8 = y1 100 9 from fun w => hz (by rw [g4, hC1.2.2.1, nI_eq (by omega) (by omega)] at w; exact w)), show (0:Int32) = bI false from rfl, e79]
      exact fin false (by rw [decide_eq_false hz, Bool.and_false])
theorem m_lawOf {x y : Wd} {L u : Nat} (hu : u ≤ 1) (h : RLw x L (y 101) u) (a b c : Int32) : ∃ y', f_X9_lawOf (nI u) a b c y = some (lawV (y 101) u a b c, y') ∧ (∀ k, k ≠ 100 → y' k = y k) ∧ ∀ i, (i < 7 ∨ 14 < i) → y' 100 i = y 100 i := by
  have e12 : ∃ y', f_X9_lawOf_12 (nI u) a b c (if u = 0 then 999 else 99) y = some (lawV (y 101) u a b c, y') ∧ (∀ k, k ≠ 100 → y' k = y k) ∧ ∀ i, (i < 7 ∨ 14 < i) → y' 100 i = y 100 i := by
    unfold f_X9_lawOf_12
    rw [show (6:Int32) + nI u = nI (6 + u) by rw [show (6:Int32) = nI 6 from rfl, nI_add], ald_nI (by omega) (by omega)]
    rcases h.2 with ⟨r1, r2⟩ | ⟨e, cl, c1, c2, c3, c4, c5, c6, c7, c8⟩
    · refine ⟨y, ?_, fun _ _ => rfl, fun _ _ => rfl⟩
      rw [r1, if_pos (show (-1:Int32) < 0 by decide)]
      unfold f_X9_lawOf_59 lawV
      rw [if_pos (show y 101 (6 + u) < 0 by rw [r1]; decide)]
      rcases (by omega : u = 0 ∨ u = 1) with rfl | rfl
      · rw [if_neg (fun z => z rfl), m_held_hel (by omega), bd_s]; rfl
      · rw [if_pos (by decide), nz_s (by decide), m_held_hel (by omega), bd_s]; rfl
    · obtain ⟨v, y', g1, g2, g3, g4, g5, g6⟩ := m_walks (y := y) (a := a) (b := b) (c := c) hu c2 c3
      refine ⟨y', ?_, g2, g3⟩
      have hT : pS u (BR (y 101) u) e 60 0 0 0 = (true, e, cl) := c4
      rw [hT] at g6
      have hv := g6 rfl []
      have ecl : codeOf (y 101) u = cl := by
        unfold codeOf
        rw [c3, nI_ix (by omega), show min e 50 = e by omega]
        exact congrArg (fun z => z.2.2) hT
      rw [c3, if_neg (nI_pos (by omega)), g1, bd_s]
      dsimp only
      rw [m_held_hel hu, bd_s]
      unfold lawV
      rw [c3, if_neg (nI_pos (by omega)), ecl]
      dsimp only at hv
      rw [hv]
      rfl
  unfold f_X9_lawOf
  rcases (by omega : u = 0 ∨ u = 1) with rfl | rfl
  · rw [if_neg (fun z => z rfl)]
    exact e12
  · rw [if_pos (by decide)]
    exact e12
end EH
