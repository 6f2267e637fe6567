section RI
theorem x_number {B : Nat → Int32} {u e : Nat} (he : e ≤ 50) : ∀ (n i pos : Nat) (v : Int32) (cl0 : List Int32) (x : Wd) (f : Nat), i + n = 4 → n < f → KRd x B u e → pos ≤ e → x 64 1 = nI pos → CLr x cl0 → cl0.length < 50 → ∃ x', lp (fun _ _ _ => none) (fun rec => fb_X3_readNumber_4 rec) f v (nI i) x = some x' ∧ FK x x' ∧ x' 64 1 = nI (numS B e n pos v).1 ∧ CLr x' (cl0 ++ [(numS B e n pos v).2]) := by
  intro n
  induction n with
  | zero =>
    intro i pos v cl0 x f h1 h2 hK hp h8 hC hl
    obtain ⟨f, rfl⟩ : ∃ g, f = g + 1 := ⟨f - 1, by omega⟩
    have hi : i = 4 := by omega
    subst hi
    obtain ⟨x2, a1, a2, a3, a4⟩ := x_add (v := v) hC hl
    have e1 : ∀ w, fb_X3_readNumber_4 w v (nI 4) x = some x2 := fun w => by
      unfold fb_X3_readNumber_4 f_X3_readNumber_48
      rw [if_pos (by decide), a1, bd_s]
    rw [lp_s]
    exact ⟨x2, e1 _, a3, by rw [a4]; exact h8, a2⟩
  | succ n ih =>
    intro i pos v cl0 x f h1 h2 hK hp h8 hC hl
    obtain ⟨f, rfl⟩ : ∃ g, f = g + 1 := ⟨f - 1, by omega⟩
    rw [lp_s]
    unfold numS
    have hb := x_sign he hp hK h8
    by_cases hd : digB (sgB B e pos) = true
    · rw [if_pos hd]
      have hpe := dig_lt hd
      have e1 : ∀ w, fb_X3_readNumber_4 w v (nI i) x = w (v * 10 + sgB B e pos - 48) (nI (i + 1)) (updW x 64 1 (nI (pos + 1))) := fun w => by
        unfold fb_X3_readNumber_4
        rw [if_neg (show ¬ (4:Int32) ≤ nI i from nI_ge (b := 4) (by omega) (by omega)), hb, bd_s, x_digit, hd, bd_s, if_neg (show ¬ bI true = 0 by decide), bd_s, lv_s, h8, wl_s, nI_1, nI_1]
      obtain ⟨x', j1, j2, j3, j4⟩ := ih (i + 1) (pos + 1) (v * 10 + sgB B e pos - 48) cl0 (updW x 64 1 (nI (pos + 1))) f (by omega) (by omega) (KRd_fk FK_pos hK) hpe (updW_self _ _ _ _) (CLr_congr (updW_cell (by omega)) (updW_cell (by omega)) hC) hl
      exact ⟨x', (e1 _).trans j1, FK_trans FK_pos j2, j3, j4⟩
    · rw [if_neg hd]
      have hd' : digB (sgB B e pos) = false := by
        cases hh : digB (sgB B e pos) with
        | true => exact absurd hh hd
        | false => rfl
      obtain ⟨x2, a1, a2, a3, a4⟩ := x_add (v := v) hC hl
      have e1 : ∀ w, fb_X3_readNumber_4 w v (nI i) x = some x2 := fun w => by
        unfold fb_X3_readNumber_4 f_X3_readNumber_48
        rw [if_neg (show ¬ (4:Int32) ≤ nI i from nI_ge (b := 4) (by omega) (by omega)), hb, bd_s, x_digit, hd', bd_s, if_pos bI_f, a1, bd_s]
      exact ⟨x2, e1 _, a3, by rw [a4]; exact h8, a2⟩
theorem sg_cases {B : Nat → Int32} {e pos : Nat} (hB : ∀ i, i < e → ∃ k, k < 256 ∧ B i = nI k) : sgB B e pos = -1 ∨ (pos < e ∧ ∃ k, k < 256 ∧ sgB B e pos = nI k) := by
  by_cases z : pos < e
  · obtain ⟨k, hk, ek⟩ := hB pos z
    exact Or.inr ⟨z, k, hk, by unfold sgB; rw [if_pos z, ek]⟩
  · exact Or.inl (by unfold sgB; rw [if_neg z])
/-- names -/
theorem x_name {B : Nat → Int32} {u e pos : Nat} {cl0 : List Int32} {x : Wd} (hu : u ≤ 1) (he : e ≤ 50) (hB : ∀ i, i < e → ∃ k, k < 256 ∧ B i = nI k) (hK : KRd x B u e) (hp : pos ≤ e) (h8 : x 64 1 = nI pos) (hC : CLr x cl0) (hl : cl0.length ≤ pos) (R : Pr) (hR : R = (if sgB B e pos = nm1 u then (true, pos + 1, [-1]) else if sgB B e pos = nm2 u then (true, pos + 1, [-2]) else if sgB B e pos = nm3 u then (true, pos + 1, [-3]) else (false, pos, []))) : ∃ x', f_X3_readName (sgB B e pos) x = some (bI R.1, x') ∧ FK x x' ∧ x' 64 1 = nI R.2.1 ∧ (R.1 = true → CLr x' (cl0 ++ R.2.2)) ∧ ∃ c, c ≤ 50 ∧ x' 65 1 = nI c := by
  have hno : f_X3_readName_17 (-1) x = some (0, x) := by
    unfold f_X3_readName_17
    rw [if_neg (by decide)]
  rcases sg_cases (pos := pos) hB with hs | ⟨hpe, k, hk, hs⟩
  · have hRf : R = (false, pos, []) := by
      rw [hR, hs, if_neg (by unfold nm1; decide), if_neg (by unfold nm2; split <;> decide), if_neg (by unfold nm3; split <;> decide)]
    refine ⟨x, ?_, FK_refl x, by rw [hRf]; exact h8, fun z => by rw [hRf] at z; exact absurd z Bool.false_ne_true, CLr_some hC he hp hl⟩
    unfold f_X3_readName
    rw [hs, if_neg (by decide), hno, hRf]; rfl
  · have hgo : ∀ m : Nat, m ≤ 2 → ∃ x', f_X3_readName_17 (nI m) x = some (1, x') ∧ FK x x' ∧ x' 64 1 = nI (pos + 1) ∧ CLr x' (cl0 ++ [(-1) - nI m]) ∧ ∃ c, c ≤ 50 ∧ x' 65 1 = nI c := fun m hm => by
      obtain ⟨x2, a1, a2, a3, a4⟩ := x_add (x := updW x 64 1 (nI (pos + 1))) (v := (-1) - nI m) (CLr_congr (updW_cell (by omega)) (updW_cell (by omega)) hC) (by omega)
      refine ⟨x2, ?_, FK_trans FK_pos a3, by rw [a4]; exact updW_self _ _ _ _, a2, ⟨_, ?_, a2.1⟩⟩
      · unfold f_X3_readName_17
        rw [if_pos (nI_pos' (by omega)), h8, nI_1, wl_s, a1, bd_s]
      · rw [List.length_append, List.length_singleton]; omega
    have e1 : f_X3_readName (sgB B e pos) x = f_X3_readName_17 (idN u (sgB B e pos)) x := by
      unfold f_X3_readName
      rw [hs, if_pos (nI_pos' (by omega)), hK.2.2, idx_ok hu hk, bd_s]
    rw [e1]
    unfold idN
    by_cases c1 : sgB B e pos = nm1 u
    · rw [if_pos c1] at hR ⊢
      obtain ⟨x', g1, g2, g3, g4, g5⟩ := hgo 0 (by omega)
      rw [hR]
      exact ⟨x', g1, g2, g3, fun _ => g4, g5⟩
    rw [if_neg c1] at hR ⊢
    by_cases c2 : sgB B e pos = nm2 u
    · rw [if_pos c2] at hR ⊢
      obtain ⟨x', g1, g2, g3, g4, g5⟩ := hgo 1 (by omega)
      rw [hR]
      exact ⟨x', g1, g2, g3, fun _ => g4, g5⟩
    rw [if_neg c2] at hR ⊢
    by_cases c3 : sgB B e pos = nm3 u
    · rw [if_pos c3] at hR ⊢
      obtain ⟨x', g1, g2, g3, g4, g5⟩ := hgo 2 (by omega)
      rw [hR]
      exact ⟨x', g1, g2, g3, fun _ => g4, g5⟩
    rw [if_neg c3] at hR ⊢
    rw [hno, hR]
    exact ⟨x, rfl, FK_refl x, h8, fun z => absurd z Bool.false_ne_true, CLr_some hC he hp hl⟩
/-- one level -/
theorem sc_level {gl : Int32 → Int32 → Wd → Option (Int32 × Wd)} {gs : Int32 → Wd → Option (Int32 × Wd)} {go : Int32 → Int32 → Wd → Option (Int32 × Wd)} {B : Nat → Int32} {u e k o f : Nat} (he : e ≤ 50) (hk : k < 5) (hS : Sc (gl (nI (k + 1)) (nI o)) B u e (fun p => pS u B e f (k + 1) p o)) : Sc (fg_X3_readLevel gl gs go (nI k) (nI o)) B u e (fun p => pS u B e (f + 1) k p o) := by
  intro x pos cl0 hK hp h8 hC hl
  obtain ⟨x1, g1, g2, g3, g4, g5⟩ := hS x pos cl0 hK hp h8 hC hl
  dsimp only at g1 g3 g4
  have hpS : pS u B e (f + 1) k pos o = (if (pS u B e f (k + 1) pos o).1 = true then loopS B e k (fun p => pS u B e f (k + 1) p o) (if k = 2 then 1 else 50) (pS u B e f (k + 1) pos o).2.1 (pS u B e f (k + 1) pos o).2.2 else (false, (pS u B e f (k + 1) pos o).2.1, [])) := by
    rw [pS, if_pos hk]
  show ∃ x', fg_X3_readLevel gl gs go (nI k) (nI o) x = some (bI (pS u B e (f + 1) k pos o).1, x') ∧ FK x x' ∧ x' 64 1 = nI (pS u B e (f + 1) k pos o).2.1 ∧ ((pS u B e (f + 1) k pos o).1 = true → CLr x' (cl0 ++ (pS u B e (f + 1) k pos o).2.2)) ∧ ∃ c, c ≤ 50 ∧ x' 65 1 = nI c
  rw [hpS]
  obtain ⟨s1, s2, s3⟩ := pS_ok (u := u) (B := B) f (k + 1) o pos hp
  dsimp only at s1 s2 s3
  have e1 : fg_X3_readLevel gl gs go (nI k) (nI o) x = (if ¬ bI (pS u B e f (k + 1) pos o).1 = 0 then f_X3_readLevel_39 gl gs go (nI k) (nI o) (nI (if k = 2 then 1 else 50)) 0 x1 else some (0, x1)) := by
    unfold fg_X3_readLevel f_X3_readLevel_35
    rw [if_pos (show nI k < 5 from nI_lt (b := 5) hk (by omega)), nI_1, g1, bd_s]
    by_cases h2 : k = 2
    · rw [if_neg (show ¬ ¬ nI k = 2 from fun w => w (by rw [h2]; rfl)), if_pos h2]; rfl
    · rw [if_pos (show ¬ nI k = 2 from fun w => by rw [show (2:Int32) = nI 2 from rfl, nI_eq (by omega) (by omega)] at w; exact h2 w), if_neg h2]; rfl
  rw [e1]
  rcases bI_ne (pS u B e f (k + 1) pos o).1 with hb | hb
  · rw [if_neg (show ¬ ¬ bI (pS u B e f (k + 1) pos o).1 = 0 from fun w => w (by rw [hb]; rfl)), if_neg (show ¬ (pS u B e f (k + 1) pos o).1 = true by rw [hb]; decide)]
    exact ⟨x1, rfl, g2, g3, fun z => absurd z Bool.false_ne_true, g5⟩
  · rw [if_pos (show ¬ bI (pS u B e f (k + 1) pos o).1 = 0 by rw [hb]; decide), if_pos hb]
    obtain ⟨s4, s5⟩ := s3 hb
    have hm : (if k = 2 then 1 else 50) ≤ 50 := by split <;> omega
    obtain ⟨x', j1, j2, j3, j4, j5⟩ := x_loop (gl := gl) (gs := gs) (go := go) (m := if k = 2 then 1 else 50) he hk hm hS (pS_ok f (k + 1) o) (if k = 2 then 1 else 50) 0 (pS u B e f (k + 1) pos o).2.1 cl0 (pS u B e f (k + 1) pos o).2.2 x1 FU (by omega) (FU_lt (by omega)) (KRd_fk g2 hK) s2 g3 (g4 hb) (by rw [List.length_append]; omega)
    exact ⟨x', j1, FK_trans g2 j2, j3, j4, j5⟩
/-- what has no operators outside -/
theorem sc_single {gl : Int32 → Int32 → Wd → Option (Int32 × Wd)} {gs : Int32 → Wd → Option (Int32 × Wd)} {go : Int32 → Int32 → Wd → Option (Int32 × Wd)} {gl' : Int32 → Int32 → Wd → Option (Int32 × Wd)} {gs' : Int32 → Wd → Option (Int32 × Wd)} {go' : Int32 → Int32 → Wd → Option (Int32 × Wd)} {B : Nat → Int32} {u e o f : Nat} (hu : u ≤ 1) (he : e ≤ 50) (ho : o ≤ 5) (hB : ∀ i, i < e → ∃ k, k < 256 ∧ B i = nI k) (hgo : o < 5 → ∀ s x, go s (nI (o + 1)) x = fg_X3_readOpened gl' gs' go' s (nI (o + 1)) x) (hS : o < 5 → Sc (gs' (nI (o + 1))) B u e (fun p => pS u B e f 5 p (o + 1))) (hL : o < 5 → Sc (gl' 0 (nI (o + 1))) B u e (fun p => pS u B e f 0 p (o + 1))) : Sc (fg_X3_readSingle gl gs go (nI o)) B u e (fun p => pS u B e (f + 1) 5 p o) := by
  intro x pos cl0 hK hp h8 hC hl
  have hs := x_sign he hp hK h8
  have hpS : pS u B e (f + 1) 5 pos o = (if digB (sgB B e pos) = true then (true, (numS B e 4 pos 0).1, [(numS B e 4 pos 0).2])
    else if sgB B e pos = 33 then (if o < 5 then ((pS u B e f 5 (pos + 1) (o + 1)).1, (pS u B e f 5 (pos + 1) (o + 1)).2.1, (pS u B e f 5 (pos + 1) (o + 1)).2.2 ++ [-33]) else (false, pos, []))
    else if sgB B e pos = 40 then (if o < 5 then (if (pS u B e f 0 (pos + 1) (o + 1)).1 = true then (if sgB B e (pS u B e f 0 (pos + 1) (o + 1)).2.1 = 41 then (true, (pS u B e f 0 (pos + 1) (o + 1)).2.1 + 1, (pS u B e f 0 (pos + 1) (o + 1)).2.2) else (false, (pS u B e f 0 (pos + 1) (o + 1)).2.1, [])) else (false, (pS u B e f 0 (pos + 1) (o + 1)).2.1, [])) else (false, pos, []))
    else if sgB B e pos = nm1 u then (true, pos + 1, [-1]) else if sgB B e pos = nm2 u then (true, pos + 1, [-2]) else if sgB B e pos = nm3 u then (true, pos + 1, [-3]) else (false, pos, [])) := by
    rw [pS, if_neg (by decide)]
  show ∃ x', fg_X3_readSingle gl gs go (nI o) x = some (bI (pS u B e (f + 1) 5 pos o).1, x') ∧ FK x x' ∧ x' 64 1 = nI (pS u B e (f + 1) 5 pos o).2.1 ∧ ((pS u B e (f + 1) 5 pos o).1 = true → CLr x' (cl0 ++ (pS u B e (f + 1) 5 pos o).2.2)) ∧ ∃ c, c ≤ 50 ∧ x' 65 1 = nI c
  rw [hpS]
  unfold fg_X3_readSingle
  rw [hs, bd_s, x_digit, bd_s]
  rcases bI_ne (digB (sgB B e pos)) with hd | hd
  · rw [hd, if_pos bI_f, if_neg Bool.false_ne_true]
    have h30n : ¬ o < 5 → ∀ s, f_X3_readSingle_30 gl gs go (nI o) s x = some (0, x) := fun z s => by
      unfold f_X3_readSingle_30
      rw [if_pos (show (5:Int32) ≤ nI o from nI_le (a := 5) (by omega) (by omega))]
    have h30 : o < 5 → ∀ s (b : Bool) x', fg_X3_readOpened gl' gs' go' s (nI (o + 1)) x = some (bI b, x') → f_X3_readSingle_30 gl gs go (nI o) s x = some (bI b, x') := fun z s b x' h => by
      unfold f_X3_readSingle_30
      rw [if_neg (show ¬ (5:Int32) ≤ nI o from nI_ge (b := 5) z (by omega)), nI_1, hgo z, h, bd_s]
      cases b
      · rw [if_pos bI_f]; rfl
      · rw [if_neg (show ¬ bI true = 0 by decide)]; rfl
    by_cases c2 : sgB B e pos = 33
    · rw [if_pos c2, if_pos c2]
      have hp1 : pos < e := sg_lt (by rw [c2]; decide)
      by_cases z : o < 5
      · rw [if_pos z]
        obtain ⟨x1, g1, g2, g3, g4, ⟨c, g5, g6⟩⟩ := hS z (updW x 64 1 (nI (pos + 1))) (pos + 1) cl0 (KRd_fk FK_pos hK) (by omega) (updW_self _ _ _ _) (CLr_congr (updW_cell (by omega)) (updW_cell (by omega)) hC) (by omega)
        dsimp only at g1 g3 g4
        obtain ⟨s1, s2, s3⟩ := pS_ok (u := u) (B := B) f 5 (o + 1) (pos + 1) (by omega : pos + 1 ≤ e)
        dsimp only at s1 s2 s3
        have hop : ∀ x2, f_X4_add 65 (-33) x1 = some x2 → fg_X3_readOpened gl' gs' go' (sgB B e pos) (nI (o + 1)) x = some (bI (pS u B e f 5 (pos + 1) (o + 1)).1, x2) := fun x2 ha => by
          unfold fg_X3_readOpened
          rw [h8, nI_1, wl_s, c2, if_neg (fun w => w rfl), g1, bd_s]
          dsimp only
          rw [ha, bd_s, zk_b]
        rcases bI_ne (pS u B e f 5 (pos + 1) (o + 1)).1 with hb | hb
        · obtain ⟨x2, a1, a2, a3, a4⟩ := x_add' (v := -33) g6 g5
          exact ⟨x2, h30 z _ _ _ (hop x2 a1), FK_trans FK_pos (FK_trans g2 a2), by rw [a3]; exact g3, fun w => by rw [hb] at w; exact absurd w Bool.false_ne_true, a4⟩
        · obtain ⟨s4, s5⟩ := s3 hb
          obtain ⟨x2, a1, a2, a3, a4⟩ := x_add (v := -33) (g4 hb) (by rw [List.length_append]; omega)
          refine ⟨x2, h30 z _ _ _ (hop x2 a1), FK_trans FK_pos (FK_trans g2 a3), by rw [a4]; exact g3, fun w => ?_, ⟨_, ?_, a2.1⟩⟩
          · rw [← List.append_assoc]; exact a2
          · rw [List.length_append, List.length_append, List.length_singleton]; omega
      · rw [if_neg z, h30n z]
        exact ⟨x, rfl, FK_refl x, h8, fun w => absurd w Bool.false_ne_true, CLr_some hC he hp hl⟩
    rw [if_neg c2, if_neg c2]
    by_cases c3 : sgB B e pos = 40
    · rw [if_neg (fun w => w c3), if_pos c3]
      have hp1 : pos < e := sg_lt (by rw [c3]; decide)
      by_cases z : o < 5
      · rw [if_pos z]
        obtain ⟨x1, g1, g2, g3, g4, g5⟩ := hL z (updW x 64 1 (nI (pos + 1))) (pos + 1) cl0 (KRd_fk FK_pos hK) (by omega) (updW_self _ _ _ _) (CLr_congr (updW_cell (by omega)) (updW_cell (by omega)) hC) (by omega)
        dsimp only at g1 g3 g4
        obtain ⟨s1, s2, s3⟩ := pS_ok (u := u) (B := B) f 0 (o + 1) (pos + 1) (by omega : pos + 1 ≤ e)
        dsimp only at s1 s2 s3
        have hFK1 := FK_trans (FK_pos (x := x) (v := nI (pos + 1))) g2
        have hs1 := x_sign he s2 (KRd_fk hFK1 hK) g3
        have hop : fg_X3_readOpened gl' gs' go' (sgB B e pos) (nI (o + 1)) x = (if bI (pS u B e f 0 (pos + 1) (o + 1)).1 = 0 then some (0, x1) else (if sgB B e (pS u B e f 0 (pos + 1) (o + 1)).2.1 = 41 then some (1, updW x1 64 1 (nI ((pS u B e f 0 (pos + 1) (o + 1)).2.1 + 1))) else some (0, x1))) := by
          unfold fg_X3_readOpened
          rw [h8, nI_1, wl_s, c3, if_pos (by decide), g1, bd_s, hs1, bd_s, wl_s, ← nI_1 (pS u B e f 0 (pos + 1) (o + 1)).2.1, ← g3]
        rcases bI_ne (pS u B e f 0 (pos + 1) (o + 1)).1 with hb | hb
        · rw [if_neg (show ¬ (pS u B e f 0 (pos + 1) (o + 1)).1 = true by rw [hb]; decide)]
          rw [if_pos (show bI (pS u B e f 0 (pos + 1) (o + 1)).1 = 0 by rw [hb]; rfl)] at hop
          exact ⟨x1, h30 z _ false x1 hop, hFK1, g3, fun w => absurd w Bool.false_ne_true, g5⟩
        · rw [if_pos hb]
          rw [if_neg (show ¬ bI (pS u B e f 0 (pos + 1) (o + 1)).1 = 0 by rw [hb]; decide)] at hop
          by_cases hc : sgB B e (pS u B e f 0 (pos + 1) (o + 1)).2.1 = 41
          · rw [if_pos hc] at hop ⊢
            refine ⟨_, h30 z _ true _ hop, FK_trans hFK1 FK_pos, updW_self _ _ _ _, fun _ => CLr_congr (updW_cell (by omega)) (updW_cell (by omega)) (g4 hb), ?_⟩
            rw [updW_cell (by omega)]; exact g5
          · rw [if_neg hc] at hop ⊢
            exact ⟨x1, h30 z _ false x1 hop, hFK1, g3, fun w => absurd w Bool.false_ne_true, g5⟩
      · rw [if_neg z, h30n z]
        exact ⟨x, rfl, FK_refl x, h8, fun w => absurd w Bool.false_ne_true, CLr_some hC he hp hl⟩
    rw [if_pos c3, if_neg c3]
    obtain ⟨x', g1, g2, g3, g4, g5⟩ := x_name hu he hB hK hp h8 hC hl _ rfl
    refine ⟨x', ?_, g2, g3, g4, g5⟩
    rw [g1, bd_s]
    dsimp only
    rw [zk_b]
  · rw [hd, if_neg (show ¬ bI true = 0 by decide), if_pos rfl]
    have hpe := dig_lt hd
    obtain ⟨x', j1, j2, j3, j4⟩ := x_number he 4 0 pos 0 cl0 x FU (by omega) (FU_lt (by omega)) hK hp h8 hC (by omega)
    have e1 : f_X3_readNumber x = some x' := j1
    rw [e1, bd_s]
    refine ⟨x', rfl, j2, j3, fun _ => j4, ⟨_, ?_, j4.1⟩⟩
    rw [List.length_append, List.length_singleton]; omega
theorem x_grp {B : Nat → Int32} {u e : Nat} (hu : u ≤ 1) (he : e ≤ 50) (hB : ∀ i, i < e → ∃ k, k < 256 ∧ B i = nI k) : ∀ f, (∀ (d k o : Nat), k ≤ 4 → o ≤ 5 → 6 - k + 6 * (5 - o) ≤ f → (7 - k) + 8 * (5 - o) ≤ d → Sc ((grp_X3_readLevel d).1 (nI k) (nI o)) B u e (fun p => pS u B e f k p o)) ∧ (∀ (d o : Nat), o ≤ 5 → 1 + 6 * (5 - o) ≤ f → 1 + 8 * (5 - o) ≤ d → Sc ((grp_X3_readLevel d).2.1 (nI o)) B u e (fun p => pS u B e f 5 p o)) := by
  intro f
  induction f with
  | zero => exact ⟨fun d k o h1 h2 h3 h4 => by omega, fun d o h2 h3 h4 => by omega⟩
  | succ f ih =>
    obtain ⟨ihL, ihS⟩ := ih
    constructor
    · intro d k o h1 h2 h3 h4
      obtain ⟨d, rfl⟩ : ∃ g, d = g + 1 := ⟨d - 1, by omega⟩
      refine sc_level (gl := (grp_X3_readLevel d).1) (gs := (grp_X3_readLevel d).2.1) (go := (grp_X3_readLevel d).2.2) he (by omega) ?_
      by_cases hk : k + 1 ≤ 4
      · exact ihL d (k + 1) o hk h2 (by omega) (by omega)
      · have hk4 : k = 4 := by omega
        subst hk4
        obtain ⟨d, rfl⟩ : ∃ g, d = g + 1 := ⟨d - 1, by omega⟩
        have hS := ihS d o h2 (by omega) (by omega)
        intro x pos cl0 a1 a2 a3 a4 a5
        obtain ⟨x', g1, g2⟩ := hS x pos cl0 a1 a2 a3 a4 a5
        refine ⟨x', ?_, g2⟩
        show fg_X3_readLevel (grp_X3_readLevel d).1 (grp_X3_readLevel d).2.1 (grp_X3_readLevel d).2.2 (nI 5) (nI o) x = _
        unfold fg_X3_readLevel
        rw [if_neg (by decide), g1, bd_s]
        dsimp only
        rw [zk_b]
    · intro d o h2 h3 h4
      obtain ⟨d, rfl⟩ : ∃ g, d = g + 1 := ⟨d - 1, by omega⟩
      by_cases ho : o < 5
      · obtain ⟨d, rfl⟩ : ∃ g, d = g + 1 := ⟨d - 1, by omega⟩
        exact sc_single (gl := (grp_X3_readLevel (d + 1)).1) (gs := (grp_X3_readLevel (d + 1)).2.1) (go := (grp_X3_readLevel (d + 1)).2.2) (gl' := (grp_X3_readLevel d).1) (gs' := (grp_X3_readLevel d).2.1) (go' := (grp_X3_readLevel d).2.2) hu he h2 hB (fun _ s x => rfl) (fun _ => ihS d (o + 1) (by omega) (by omega) (by omega)) (fun _ => ihL d 0 (o + 1) (by omega) (by omega) (by omega) (by omega))
      · exact sc_single (gl := (grp_X3_readLevel d).1) (gs := (grp_X3_readLevel d).2.1) (go := (grp_X3_readLevel d).2.2) (gl' := (grp_X3_readLevel d).1) (gs' := (grp_X3_readLevel d).2.1) (go' := (grp_X3_readLevel d).2.2) hu he h2 hB (fun z => absurd z ho) (fun z => absurd z ho) (fun z => absurd z ho)
/-- the class reads the tape as the text of a use -/
theorem x_reads {x : Wd} {B : Nat → Int32} {u e : Nat} (hu : u ≤ 1) (he : e ≤ 50) (hB : ∀ i, i < e → ∃ k, k < 256 ∧ B i = nI k) (h21 : x 21 1 = nI e) (h22 : ∀ i, i < e → x 22 i = B i) : ∃ x', f_X3_reads 21 (nI u) x = some (bI ((pS u B e 60 0 0 0).1 && decide ((pS u B e 60 0 0 0).2.1 = e)), x') ∧ (∀ k, k ≠ 64 → k ≠ 65 → k ≠ 66 → k ≠ 81 → k ≠ 82 → x' k = x k) ∧ x' 64 1 = nI (pS u B e 60 0 0 0).2.1 ∧ ((pS u B e 60 0 0 0).1 = true → CLr x' (pS u B e 60 0 0 0).2.2) := by
  have hrl : rlen 21 = 50 ∧ rlen 81 = 50 := ⟨rfl, rfl⟩
  obtain ⟨xa, k1, k2, k3, k4⟩ := x_copyRow (x := x) (d := 81) (s := 21) (c := e) (by omega) h21 (by omega) (by omega) (by omega)
  have e12 : f_X3_reads 21 (nI u) x = f_X3_reads_20 21 (nI u) xa := by
    unfold f_X3_reads
    rw [k1, bd_s]
    rcases (by omega : u = 0 ∨ u = 1) with rfl | rfl
    · rw [if_neg (by decide)]; rfl
    · rw [if_pos (by decide)]; rfl
  rw [e12]
  unfold f_X3_reads_20 f_X4_clear
  rw [wl_s, wl_s, wl_s, bd_s]
  generalize hx0 : updW (updW (updW xa 64 3 (nI u)) 64 1 0) 65 1 0 = x0
  have hcell : ∀ k, k ≠ 64 → k ≠ 65 → x0 k = xa k := fun k h1 h2 => by rw [← hx0, updW_cell h2, updW_cell h1, updW_cell h1]
  have hK : KRd x0 B u e := ⟨by rw [hcell 81 (by omega) (by omega)]; exact k2, fun i hi => by rw [hcell 82 (by omega) (by omega), ← h22 i hi]; exact k3 i hi, by rw [← hx0]; rfl⟩
  obtain ⟨x1, g1, g2, g3, g4, g5⟩ := (x_grp hu he hB 60).1 100 0 0 (by omega) (by omega) (by omega) (by omega) x0 0 [] hK (by omega) (by rw [← hx0]; rfl) ⟨by rw [← hx0]; rfl, fun i hi => absurd hi (Nat.not_lt_zero _)⟩ (Nat.le_refl _)
  dsimp only at g1 g3 g4
  have g1' : f_X3_readLevel 0 0 x0 = some (bI (pS u B e 60 0 0 0).1, x1) := g1
  have hK1 := KRd_fk g2 hK
  obtain ⟨s1, s2, s3⟩ := pS_ok (u := u) (B := B) 60 0 0 0 (by omega : 0 ≤ e)
  dsimp only at s2
  rw [g1', bd_s]
  refine ⟨x1, ?_, fun k h1 h2 h3 h4 h5 => by rw [g2.1 k h1 h2 h3, hcell k h1 h2]; exact k4 k h4 h5, g3, fun z => g4 z⟩
  rcases bI_ne (pS u B e 60 0 0 0).1 with hk | hk
  · rw [if_pos (show bI (pS u B e 60 0 0 0).1 = 0 by rw [hk]; rfl), hk]; rfl
  · rw [if_neg (show ¬ bI (pS u B e 60 0 0 0).1 = 0 by rw [hk]; decide), hk]
    by_cases hz : (pS u B e 60 0 0 0).2.1 = e
    · rw [if_neg (show ¬ ¬ x1 64 1 = x1 81 1 from fun w => w (by rw [g3, hK1.1, hz])), decide_eq_true hz]; rfl
    · rw [if_pos (show ¬ x1 64 1 = x1 81 1 from fun w => hz (by rw [g3, hK1.1, nI_eq (by omega) (by omega)] at w; exact w)), decide_eq_false hz]; rfl
end RI
