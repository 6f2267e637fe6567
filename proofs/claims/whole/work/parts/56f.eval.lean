section EF
abbrev G9 : Type := (Wd → Option (Int32 × Wd)) × (Wd → Option (Int32 × Wd)) × (Wd → Option (Int32 × Wd)) × (Wd → Option (Int32 × Wd)) × (Wd → Option (Int32 × Wd)) × (Wd → Option (Int32 × Wd))
def selG (k : Nat) (g : G9) : Wd → Option (Int32 × Wd) := if k = 0 then g.2.2.2.2.2 else if k = 1 then g.2.2.2.2.1 else if k = 2 then g.2.2.2.1 else if k = 3 then g.2.2.1 else if k = 4 then g.2.1 else g.1
theorem bI_ne (b : Bool) : b = false ∨ b = true := by cases b <;> simp
theorem FU_60 : ∃ f, FU = f + 60 := ⟨1999940, rfl⟩
theorem sm_loop {F G : Wd → Option (Int32 × Wd)} {L : Nat → Int32 → Wd → Option (Int32 × Wd)} {R : Rw} {u e o k f : Nat} {a b c : Int32} (he : e ≤ 50) (hk : k < 5) (hk2 : k ≠ 2) (hG : Sm G R u e a b c (fun p => pS u (BR R u) e f (k + 1) p o) o) (hF : ∀ y, F y = bd (G y) (fun q => L FU q.1 q.2))
    (hstop : ∀ f x1 y, y 100 14 = 0 → L (f + 1) x1 y = some (x1, y))
    (hno : ∀ f x1 y pos, EC y R u e a b c → pos ≤ e → y 100 8 = nI pos → y 100 14 = 1 → ¬ opL (sgB (BR R u) e pos) = k → L (f + 1) x1 y = some (x1, y))
    (hgo : ∀ f x1 y pos, EC y R u e a b c → pos ≤ e → y 100 8 = nI pos → y 100 14 = 1 → opL (sgB (BR R u) e pos) = k → L (f + 1) x1 y = bd (G (updW y 100 8 (nI (pos + 1)))) (fun q => L f (joinV (sgB (BR R u) e pos) x1 q.1) q.2)) :
    Sm F R u e a b c (fun p => pS u (BR R u) e (f + 1) k p o) o := by
  intro y pos hC hp h8 h10 h14
  obtain ⟨v, y1, g1, g2, g3, g4, g5, g6⟩ := hG y pos hC hp h8 h10 h14
  dsimp only at g4 g5 g6
  obtain ⟨f0, hf0⟩ := FU_60
  have hpS : pS u (BR R u) e (f + 1) k pos o = (if (pS u (BR R u) e f (k + 1) pos o).1 = true then loopS (BR R u) e k (fun p => pS u (BR R u) e f (k + 1) p o) 50 (pS u (BR R u) e f (k + 1) pos o).2.1 (pS u (BR R u) e f (k + 1) pos o).2.2 else (false, (pS u (BR R u) e f (k + 1) pos o).2.1, [])) := by
    rw [pS, if_pos hk, if_neg hk2]
  show ∃ v y', F y = some (v, y') ∧ FE y y' ∧ y' 100 10 = nI o ∧ y' 100 8 = nI (pS u (BR R u) e (f + 1) k pos o).2.1 ∧ y' 100 14 = bI (pS u (BR R u) e (f + 1) k pos o).1 ∧ ((pS u (BR R u) e (f + 1) k pos o).1 = true → ∀ st, evL a b c (pS u (BR R u) e (f + 1) k pos o).2.2 st = v :: st)
  rw [hpS, hF, g1, bd_s]
  dsimp only
  obtain ⟨s1, s2, s3⟩ := pS_ok (u := u) (B := BR R u) f (k + 1) o pos hp
  dsimp only at s1 s2
  rcases bI_ne (pS u (BR R u) e f (k + 1) pos o).1 with hb | hb
  · rw [if_neg (by rw [hb]; decide)]
    rw [hb] at g5
    rw [hf0]
    exact ⟨v, y1, hstop (f0 + 59) v y1 g5, g2, g3, g4, g5, fun z => absurd z Bool.false_ne_true⟩
  · rw [if_pos hb]
    rw [hb] at g5
    obtain ⟨v', y', j1, j2, j3, j4, j5, j6⟩ := lp_ev (L := L) he (by omega) hG (pS_ok f (k + 1) o) hstop hno hgo 50 (pS u (BR R u) e f (k + 1) pos o).2.1 (pS u (BR R u) e f (k + 1) pos o).2.2 v y1 (f0 + 60) (by omega) (by omega) (EC_fe g2 hC) s2 g4 g3 g5 (g6 hb)
    rw [← hf0] at j1
    exact ⟨v', y', j1, FE_trans g2 j2, j3, j4, j5, j6⟩
theorem sm_product {gf gp gs gc gb gw : Wd → Option (Int32 × Wd)} {R : Rw} {u e o f : Nat} {a b c : Int32} (hu : u ≤ 1) (he : e ≤ 50) (hG : Sm gf R u e a b c (fun p => pS u (BR R u) e f 5 p o) o) : Sm (fg_X9_product gf gp gs gc gb gw) R u e a b c (fun p => pS u (BR R u) e (f + 1) 4 p o) o := by
  refine sm_loop (L := fun n => lp (fun _ _ => none) (fun rec => fb_X9_product_5 gf gp gs gc gb gw rec) n) he (by omega) (by omega) hG (fun y => rfl) (fun f x1 y h => ?_) (fun f x1 y pos hC hp h8 h14 hop => ?_) (fun f x1 y pos hC hp h8 h14 hop => ?_)
  · show fb_X9_product_5 gf gp gs gc gb gw (lp _ _ f) x1 y = _
    generalize lp (fun _ _ => none) (fun rec => fb_X9_product_5 gf gp gs gc gb gw rec) f = r
    unfold fb_X9_product_5
    rw [if_pos h]
  · show fb_X9_product_5 gf gp gs gc gb gw (lp _ _ f) x1 y = _
    generalize lp (fun _ _ => none) (fun rec => fb_X9_product_5 gf gp gs gc gb gw rec) f = r
    rw [(op_iff _).2.2.2.2] at hop
    unfold fb_X9_product_5
    rw [h14, if_neg (by decide), h8, m_byte hu he hp hC, bd_s, if_neg (fun z => hop (Or.inl z)), bd_s, if_neg (fun z => hop (Or.inr (Or.inl z))), bd_s, if_pos (fun z => hop (Or.inr (Or.inr z)))]
  · show fb_X9_product_5 gf gp gs gc gb gw (lp (fun _ _ => none) (fun rec => fb_X9_product_5 gf gp gs gc gb gw rec) f) x1 y = bd (gf (updW y 100 8 (nI (pos + 1)))) (fun q => lp (fun _ _ => none) (fun rec => fb_X9_product_5 gf gp gs gc gb gw rec) f (joinV (sgB (BR R u) e pos) x1 q.1) q.2)
    generalize lp (fun _ _ => none) (fun rec => fb_X9_product_5 gf gp gs gc gb gw rec) f = r
    have e51 : f_X9_product_51 gf gp gs gc gb gw r x1 y = bd (gf (updW y 100 8 (nI (pos + 1)))) (fun q => r (joinV (sgB (BR R u) e pos) x1 q.1) q.2) := by
      unfold f_X9_product_51 f_X9_product_110
      rw [h8, m_byte hu he hp hC, bd_s, wl_s, nI_1]
      congr 1
      funext q
      rcases (op_iff _).2.2.2.2.mp hop with z | z | z <;> rw [z] <;> unfold joinV
      · rw [if_neg (fun w => w rfl), if_neg (by decide), if_pos rfl]
      · rw [if_pos (by decide), if_neg (show ¬ (47:Int32) = 38 by decide), if_neg (show ¬ (47:Int32) = 42 by decide), if_neg (show ¬ (47:Int32) = 43 by decide), if_neg (show ¬ (47:Int32) = 45 by decide), if_pos rfl]
        by_cases hq : q.1 = 0
        · rw [if_neg (fun w => w hq), if_pos hq]
        · rw [if_pos hq, if_neg (fun w => w rfl), nz_s hq, if_neg hq]
      · rw [if_pos (by decide), if_neg (show ¬ (37:Int32) = 38 by decide), if_neg (show ¬ (37:Int32) = 42 by decide), if_neg (show ¬ (37:Int32) = 43 by decide), if_neg (show ¬ (37:Int32) = 45 by decide), if_neg (show ¬ (37:Int32) = 47 by decide), if_neg (show ¬ (37:Int32) = 60 by decide), if_neg (show ¬ (37:Int32) = 61 by decide), if_neg (show ¬ (37:Int32) = 62 by decide), if_neg (show ¬ (37:Int32) = 124 by decide)]
        by_cases hq : q.1 = 0
        · rw [if_neg (fun w => w hq), if_pos hq]
        · rw [if_pos hq, if_pos (by decide), nz_s hq, if_neg hq]
    have hb := m_byte hu he hp hC
    unfold fb_X9_product_5
    rw [h14, if_neg (by decide), e51, h8, hb, bd_s, bd_s, bd_s]
    rcases (op_iff _).2.2.2.2.mp hop with z | z | z
    · rw [if_pos z]
    · rw [if_neg (by rw [z]; decide), if_pos z]
    · rw [if_neg (by rw [z]; decide), if_neg (by rw [z]; decide), if_neg (fun w => w z)]
theorem sm_sum {gf gp gs gc gb gw : Wd → Option (Int32 × Wd)} {R : Rw} {u e o f : Nat} {a b c : Int32} (hu : u ≤ 1) (he : e ≤ 50) (hG : Sm gp R u e a b c (fun p => pS u (BR R u) e f 4 p o) o) : Sm (fg_X9_sum gf gp gs gc gb gw) R u e a b c (fun p => pS u (BR R u) e (f + 1) 3 p o) o := by
  refine sm_loop (L := fun n => lp (fun _ _ => none) (fun rec => fb_X9_sum_5 gf gp gs gc gb gw rec) n) he (by omega) (by omega) hG (fun y => rfl) (fun f x1 y h => ?_) (fun f x1 y pos hC hp h8 h14 hop => ?_) (fun f x1 y pos hC hp h8 h14 hop => ?_)
  · show fb_X9_sum_5 gf gp gs gc gb gw (lp _ _ f) x1 y = _
    generalize lp (fun _ _ => none) (fun rec => fb_X9_sum_5 gf gp gs gc gb gw rec) f = r
    unfold fb_X9_sum_5
    rw [if_pos h]
  · show fb_X9_sum_5 gf gp gs gc gb gw (lp _ _ f) x1 y = _
    generalize lp (fun _ _ => none) (fun rec => fb_X9_sum_5 gf gp gs gc gb gw rec) f = r
    rw [(op_iff _).2.2.2.1] at hop
    unfold fb_X9_sum_5
    rw [h14, if_neg (by decide), h8, m_byte hu he hp hC, bd_s, if_neg (fun z => hop (Or.inl z)), bd_s, if_pos (fun z => hop (Or.inr z))]
  · show fb_X9_sum_5 gf gp gs gc gb gw (lp (fun _ _ => none) (fun rec => fb_X9_sum_5 gf gp gs gc gb gw rec) f) x1 y = bd (gp (updW y 100 8 (nI (pos + 1)))) (fun q => lp (fun _ _ => none) (fun rec => fb_X9_sum_5 gf gp gs gc gb gw rec) f (joinV (sgB (BR R u) e pos) x1 q.1) q.2)
    generalize lp (fun _ _ => none) (fun rec => fb_X9_sum_5 gf gp gs gc gb gw rec) f = r
    have e38 : f_X9_sum_38 gf gp gs gc gb gw r x1 y = bd (gp (updW y 100 8 (nI (pos + 1)))) (fun q => r (joinV (sgB (BR R u) e pos) x1 q.1) q.2) := by
      unfold f_X9_sum_38 f_X9_sum_77
      rw [h8, m_byte hu he hp hC, bd_s, wl_s, nI_1]
      congr 1
      funext q
      rcases (op_iff _).2.2.2.1.mp hop with z | z <;> rw [z] <;> unfold joinV
      · rw [if_neg (fun w => w rfl), if_neg (by decide), if_neg (by decide), if_pos rfl]
      · rw [if_pos (by decide), if_neg (by decide), if_neg (by decide), if_neg (by decide), if_pos rfl]
    have hb := m_byte hu he hp hC
    unfold fb_X9_sum_5
    rw [h14, if_neg (by decide), e38, h8, hb, bd_s, bd_s]
    rcases (op_iff _).2.2.2.1.mp hop with z | z
    · rw [if_pos z]
    · rw [if_neg (by rw [z]; decide), if_neg (fun w => w z)]
theorem sm_both {gf gp gs gc gb gw : Wd → Option (Int32 × Wd)} {R : Rw} {u e o f : Nat} {a b c : Int32} (hu : u ≤ 1) (he : e ≤ 50) (hG : Sm gc R u e a b c (fun p => pS u (BR R u) e f 2 p o) o) : Sm (fg_X9_both gf gp gs gc gb gw) R u e a b c (fun p => pS u (BR R u) e (f + 1) 1 p o) o := by
  refine sm_loop (L := fun n => lp (fun _ _ => none) (fun rec => fb_X9_both_5 gf gp gs gc gb gw rec) n) he (by omega) (by omega) hG (fun y => rfl) (fun f x1 y h => ?_) (fun f x1 y pos hC hp h8 h14 hop => ?_) (fun f x1 y pos hC hp h8 h14 hop => ?_)
  · show fb_X9_both_5 gf gp gs gc gb gw (lp _ _ f) x1 y = _
    generalize lp (fun _ _ => none) (fun rec => fb_X9_both_5 gf gp gs gc gb gw rec) f = r
    unfold fb_X9_both_5
    rw [if_pos h]
  · show fb_X9_both_5 gf gp gs gc gb gw (lp _ _ f) x1 y = _
    generalize lp (fun _ _ => none) (fun rec => fb_X9_both_5 gf gp gs gc gb gw rec) f = r
    rw [(op_iff _).2.1] at hop
    unfold fb_X9_both_5
    rw [h14, if_neg (by decide), h8, m_byte hu he hp hC, bd_s, if_pos hop]
  · show fb_X9_both_5 gf gp gs gc gb gw (lp (fun _ _ => none) (fun rec => fb_X9_both_5 gf gp gs gc gb gw rec) f) x1 y = bd (gc (updW y 100 8 (nI (pos + 1)))) (fun q => lp (fun _ _ => none) (fun rec => fb_X9_both_5 gf gp gs gc gb gw rec) f (joinV (sgB (BR R u) e pos) x1 q.1) q.2)
    generalize lp (fun _ _ => none) (fun rec => fb_X9_both_5 gf gp gs gc gb gw rec) f = r
    have z := (op_iff _).2.1.mp hop
    unfold fb_X9_both_5 f_X9_both_52 f_X9_both_53
    rw [h14, if_neg (by decide), h8, m_byte hu he hp hC, bd_s, if_neg (fun w => w z), wl_s, nI_1, z]
    congr 1
    funext q
    unfold joinV
    rw [if_pos rfl]
    by_cases hx : x1 = 0
    · rw [if_pos hx, if_pos hx]
    · rw [if_neg hx, if_neg hx]
      by_cases hq : q.1 = 0
      · rw [if_pos hq, if_pos hq]
      · rw [if_neg hq, if_neg hq]
theorem sm_whole {gf gp gs gc gb gw : Wd → Option (Int32 × Wd)} {R : Rw} {u e o f : Nat} {a b c : Int32} (hu : u ≤ 1) (he : e ≤ 50) (hG : Sm gb R u e a b c (fun p => pS u (BR R u) e f 1 p o) o) : Sm (fg_X9_whole gf gp gs gc gb gw) R u e a b c (fun p => pS u (BR R u) e (f + 1) 0 p o) o := by
  refine sm_loop (L := fun n => lp (fun _ _ => none) (fun rec => fb_X9_whole_5 gf gp gs gc gb gw rec) n) he (by omega) (by omega) hG (fun y => rfl) (fun f x1 y h => ?_) (fun f x1 y pos hC hp h8 h14 hop => ?_) (fun f x1 y pos hC hp h8 h14 hop => ?_)
  · show fb_X9_whole_5 gf gp gs gc gb gw (lp _ _ f) x1 y = _
    generalize lp (fun _ _ => none) (fun rec => fb_X9_whole_5 gf gp gs gc gb gw rec) f = r
    unfold fb_X9_whole_5
    rw [if_pos h]
  · show fb_X9_whole_5 gf gp gs gc gb gw (lp _ _ f) x1 y = _
    generalize lp (fun _ _ => none) (fun rec => fb_X9_whole_5 gf gp gs gc gb gw rec) f = r
    rw [(op_iff _).1] at hop
    unfold fb_X9_whole_5
    rw [h14, if_neg (by decide), h8, m_byte hu he hp hC, bd_s, if_pos hop]
  · show fb_X9_whole_5 gf gp gs gc gb gw (lp (fun _ _ => none) (fun rec => fb_X9_whole_5 gf gp gs gc gb gw rec) f) x1 y = bd (gb (updW y 100 8 (nI (pos + 1)))) (fun q => lp (fun _ _ => none) (fun rec => fb_X9_whole_5 gf gp gs gc gb gw rec) f (joinV (sgB (BR R u) e pos) x1 q.1) q.2)
    generalize lp (fun _ _ => none) (fun rec => fb_X9_whole_5 gf gp gs gc gb gw rec) f = r
    have z := (op_iff _).1.mp hop
    unfold fb_X9_whole_5 f_X9_whole_48 f_X9_whole_53
    rw [h14, if_neg (by decide), h8, m_byte hu he hp hC, bd_s, if_neg (fun w => w z), wl_s, nI_1, z]
    congr 1
    funext q
    unfold joinV
    rw [if_neg (show ¬ (124:Int32) = 38 by decide), if_neg (show ¬ (124:Int32) = 42 by decide), if_neg (show ¬ (124:Int32) = 43 by decide), if_neg (show ¬ (124:Int32) = 45 by decide), if_neg (show ¬ (124:Int32) = 47 by decide), if_neg (show ¬ (124:Int32) = 60 by decide), if_neg (show ¬ (124:Int32) = 61 by decide), if_neg (show ¬ (124:Int32) = 62 by decide), if_pos rfl]
    by_cases hx : x1 = 0
    · rw [if_neg (fun w => w hx), if_pos hx]
      by_cases hq : q.1 = 0
      · rw [if_pos hq, if_pos hq]
      · rw [if_neg hq, if_neg hq]
    · rw [if_pos hx, if_neg hx]
end EF
