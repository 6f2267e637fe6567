section RD
theorem neg1 {q : Nat} (hq : q ≤ 1000000) : ¬ (-1 : Int32) = nI q := fun h => by
  have := congrArg Int32.toInt h
  rw [nI_toInt (by omega)] at this
  have h2 : (-1 : Int32).toInt = -1 := by decide
  omega
theorem bitsM {v : Int32} {N : Nat} (h : ∀ i, i < 32 → N ≤ i → bt v i = false) : ∃ n, n < 2 ^ N ∧ v = nI n := by
  refine ⟨v.toBitVec.toNat, Nat.lt_pow_two_of_testBit (n := N) _ (fun i hi => ?_), Int32.toBitVec_inj.mp ?_⟩
  · rcases Nat.lt_or_ge i 32 with q | q
    · exact h i q hi
    · exact b_big q
  · show v.toBitVec = BitVec.ofNat 32 v.toBitVec.toNat
    simp
theorem byB_nI {v : Int32} (h : byB v) : ∃ k, k < 256 ∧ v = nI k := bitsM (N := 8) h
theorem byt_eq : ∀ k, k < 256 → ∀ m, m < 128 → (nI m = (nI k).toInt8.toInt32 ↔ k = m) := by decide +kernel
theorem chr_eq : ∀ k, k < 256 → ((nI k).toUInt32 % 65536).toInt32 = nI k := by decide +kernel
def idN (u : Nat) (s : Int32) : Int32 := if s = nm1 u then 0 else if s = nm2 u then 1 else if s = nm3 u then 2 else -1
theorem idx_ok {u k : Nat} (hu : u ≤ 1) (hk : k < 256) : f_J0_indexOf_0f7a4 (nI u) (((nI k).toUInt32 % 65536).toInt32) = some (idN u (nI k)) := by
  rw [chr_eq k hk]
  unfold f_J0_indexOf_0f7a4 f_J0_indexOf_7cf53 f_J0_length_8abf5 f_J1_indexOf_4cfef f_J1_canEncode_9a6ad f_J1_indexOfChar_4cfef f_J1_indexOfChar_4cfef_7
  rw [bd_s, if_neg (nI_pos (by omega)), if_neg (show ¬ (255:Int32) < nI k from nI_nlt (a := 255) (b := k) (by omega) (by omega)), bd_s, if_pos (by decide), lv_s, lv_s, if_pos (by decide), lv_s]
  obtain ⟨f, hf⟩ : ∃ f, FU = f + 4 := ⟨1999996, rfl⟩
  rw [hf]
  show bd (bd (bd (fb_J1_indexOfChar_4cfef_7 (fb_J1_indexOfChar_4cfef_7 (fb_J1_indexOfChar_4cfef_7 (fb_J1_indexOfChar_4cfef_7 (lp (fun _ _ _ _ => none) (fun rec => fb_J1_indexOfChar_4cfef_7 rec) f)))) (nI u) (mmin ((3:Int32) >>> ((0:Int32) &&& 31)) 3) ((nI k).toInt8.toInt32) (mmax 0 0)) _) _) _ = _
  generalize lp (fun _ _ _ _ => none) (fun rec => fb_J1_indexOfChar_4cfef_7 rec) f = g
  rw [show mmin ((3:Int32) >>> ((0:Int32) &&& 31)) 3 = nI 3 by decide, show mmax (0:Int32) 0 = nI 0 by decide]
  have step : ∀ (r : Int32 → Int32 → Int32 → Int32 → Option Int32) (i m : Nat), i < 3 → m < 128 → bytF (nI u) i = nI m → fb_J1_indexOfChar_4cfef_7 r (nI u) (nI 3) ((nI k).toInt8.toInt32) (nI i) = if nI k = nI m then some (nI i) else r (nI u) (nI 3) ((nI k).toInt8.toInt32) (nI (i + 1)) := fun r i m hi hm hb => by
    unfold fb_J1_indexOfChar_4cfef_7
    rw [if_neg (nI_ge hi (by omega)), tld_nI hi (by omega), hb, nI_1]
    by_cases z : k = m
    · rw [if_neg (fun w => w ((byt_eq k hk m hm).mpr z)), if_pos (by rw [z])]
    · rw [if_pos (fun w => z ((byt_eq k hk m hm).mp w)), if_neg (fun w => z (by rw [nI_eq (by omega) (by omega)] at w; exact w))]
  have last : ∀ r : Int32 → Int32 → Int32 → Int32 → Option Int32, fb_J1_indexOfChar_4cfef_7 r (nI u) (nI 3) ((nI k).toInt8.toInt32) (nI 3) = some (-1) := fun r => by
    unfold fb_J1_indexOfChar_4cfef_7
    rw [if_pos (by decide)]
  unfold idN nm1 nm2 nm3
  rcases (by omega : u = 0 ∨ u = 1) with rfl | rfl
  · rw [step _ 0 108 (by omega) (by omega) (by decide), step _ 1 109 (by omega) (by omega) (by decide), step _ 2 107 (by omega) (by omega) (by decide), last, if_pos rfl, if_pos rfl]
    by_cases c1 : nI k = 108
    · rw [if_pos (show nI k = nI 108 from c1), if_pos c1]; rfl
    rw [if_neg (show ¬ nI k = nI 108 from c1), if_neg c1]
    by_cases c2 : nI k = 109
    · rw [if_pos (show nI k = nI 109 from c2), if_pos c2]; rfl
    rw [if_neg (show ¬ nI k = nI 109 from c2), if_neg c2]
    by_cases c3 : nI k = 107
    · rw [if_pos (show nI k = nI 107 from c3), if_pos c3]; rfl
    rw [if_neg (show ¬ nI k = nI 107 from c3), if_neg c3]; rfl
  · rw [step _ 0 108 (by omega) (by omega) (by decide), step _ 1 112 (by omega) (by omega) (by decide), step _ 2 110 (by omega) (by omega) (by decide), last, if_neg (show ¬ (1:Nat) = 0 by decide), if_neg (show ¬ (1:Nat) = 0 by decide)]
    by_cases c1 : nI k = 108
    · rw [if_pos (show nI k = nI 108 from c1), if_pos c1]; rfl
    rw [if_neg (show ¬ nI k = nI 108 from c1), if_neg c1]
    by_cases c2 : nI k = 112
    · rw [if_pos (show nI k = nI 112 from c2), if_pos c2]; rfl
    rw [if_neg (show ¬ nI k = nI 112 from c2), if_neg c2]
    by_cases c3 : nI k = 110
    · rw [if_pos (show nI k = nI 110 from c3), if_pos c3]; rfl
    rw [if_neg (show ¬ nI k = nI 110 from c3), if_neg c3]; rfl
/-! the class reads -/
def KRd (x : Wd) (B : Nat → Int32) (u e : Nat) : Prop := x 81 1 = nI e ∧ (∀ i, i < e → x 82 i = B i) ∧ x 64 3 = nI u
def CLr (x : Wd) (cl : List Int32) : Prop := x 65 1 = nI cl.length ∧ ∀ i, i < cl.length → x 66 i = cl.getD i 0
def FK (x x' : Wd) : Prop := (∀ k, k ≠ 64 → k ≠ 65 → k ≠ 66 → x' k = x k) ∧ ∀ i, i ≠ 1 → x' 64 i = x 64 i
theorem FK_refl (x : Wd) : FK x x := ⟨fun _ _ _ _ => rfl, fun _ _ => rfl⟩
theorem FK_trans {x y z : Wd} (h1 : FK x y) (h2 : FK y z) : FK x z := ⟨fun k a b c => by rw [h2.1 k a b c, h1.1 k a b c], fun i hi => by rw [h2.2 i hi, h1.2 i hi]⟩
theorem FK_pos {x : Wd} {v : Int32} : FK x (updW x 64 1 v) := ⟨fun k a _ _ => updW_cell a, fun i hi => updW_place hi⟩
theorem KRd_fk {x x' : Wd} {B : Nat → Int32} {u e : Nat} (hF : FK x x') (h : KRd x B u e) : KRd x' B u e := ⟨by rw [hF.1 81 (by omega) (by omega) (by omega)]; exact h.1, fun i hi => by rw [hF.1 82 (by omega) (by omega) (by omega)]; exact h.2.1 i hi, by rw [hF.2 3 (by omega)]; exact h.2.2⟩
theorem CLr_congr {x x' : Wd} {cl : List Int32} (h1 : x' 65 = x 65) (h2 : x' 66 = x 66) (h : CLr x cl) : CLr x' cl := ⟨by rw [h1]; exact h.1, fun i hi => by rw [h2]; exact h.2 i hi⟩
theorem x_sign {x : Wd} {B : Nat → Int32} {u e pos : Nat} (he : e ≤ 50) (hp : pos ≤ e) (h : KRd x B u e) (h1 : x 64 1 = nI pos) : f_X3_sign x = some (sgB B e pos) := by
  unfold f_X3_sign sgB
  rw [h.1, h1]
  by_cases z : pos < e
  · rw [if_neg (nI_ge z (by omega)), if_pos z, ald_nI (by omega) (by omega), h.2.1 pos z]
  · rw [if_pos (nI_le (by omega) (by omega)), if_neg z]
theorem x_digit (s : Int32) : f_X3_isDigit s = some (bI (digB s)) := by
  unfold f_X3_isDigit digB
  by_cases h1 : s < 48
  · rw [if_pos h1, decide_eq_false (fun z => Int32.not_le.mpr h1 z.1)]; rfl
  · rw [if_neg h1]
    by_cases h2 : (57:Int32) < s
    · rw [if_pos h2, decide_eq_false (fun z => Int32.not_le.mpr h2 z.2)]; rfl
    · rw [if_neg h2, decide_eq_true ⟨Int32.not_lt.mp h1, Int32.not_lt.mp h2⟩]; rfl
theorem x_level (s : Int32) : f_X3_levelOf s = some (if opL s = 9 then -1 else nI (opL s)) := by
  unfold f_X3_levelOf opL
  by_cases h1 : s = 124
  · subst h1; decide
  by_cases h2 : s = 38
  · subst h2; decide
  by_cases h3 : s = 60
  · subst h3; decide
  by_cases h4 : s = 61
  · subst h4; decide
  by_cases h5 : s = 62
  · subst h5; decide
  by_cases h6 : s = 43
  · subst h6; decide
  by_cases h7 : s = 45
  · subst h7; decide
  by_cases h8 : s = 42
  · subst h8; decide
  by_cases h9 : s = 47
  · subst h9; decide
  by_cases h10 : s = 37
  · subst h10; decide
  simp [h1, h2, h3, h4, h5, h6, h7, h8, h9, h10]
theorem x_add {x : Wd} {cl : List Int32} {v : Int32} (h : CLr x cl) (hl : cl.length < 50) : ∃ x', f_X4_add 65 v x = some x' ∧ CLr x' (cl ++ [v]) ∧ FK x x' ∧ x' 64 = x 64 := by
  refine ⟨updW (updW x 66 cl.length v) 65 1 (nI (cl.length + 1)), ?_, ⟨?_, fun i hi => ?_⟩, ⟨fun k a b c => by rw [updW_cell b, updW_cell c], fun i hi => by rw [updW_cell (by omega), updW_cell (by omega)]⟩, by rw [updW_cell (by omega), updW_cell (by omega)]⟩
  · unfold f_X4_add
    rw [h.1, show rlen 65 = 50 from rfl, if_neg (nI_ge hl (by omega)), ast_nI hl (by omega), wl_s, updW_cell (by omega), h.1, nI_1]
  · rw [updW_self, List.length_append, List.length_singleton]
  · rw [List.length_append, List.length_singleton] at hi
    rw [updW_cell (by omega), updW_get]
    by_cases z : i = cl.length
    · subst z
      rw [if_pos ⟨rfl, rfl⟩, List.getD_eq_getElem?_getD, List.getElem?_append_right (Nat.le_refl _), Nat.sub_self]
      rfl
    · rw [if_neg (fun w => z w.2), h.2 i (by omega), List.getD_eq_getElem?_getD, List.getD_eq_getElem?_getD, List.getElem?_append_left (by omega)]
theorem x_add' {x : Wd} {c : Nat} {v : Int32} (h : x 65 1 = nI c) (hl : c ≤ 50) : ∃ x', f_X4_add 65 v x = some x' ∧ FK x x' ∧ x' 64 = x 64 ∧ ∃ c', c' ≤ 50 ∧ x' 65 1 = nI c' := by
  unfold f_X4_add
  rw [h, show rlen 65 = 50 from rfl]
  by_cases z : c < 50
  · rw [if_neg (nI_ge z (by omega)), ast_nI z (by omega), wl_s, updW_cell (by omega), h, nI_1]
    exact ⟨_, rfl, ⟨fun k a b c => by rw [updW_cell b, updW_cell c], fun i hi => by rw [updW_cell (by omega), updW_cell (by omega)]⟩, by rw [updW_cell (by omega), updW_cell (by omega)], c + 1, by omega, updW_self _ _ _ _⟩
  · rw [if_pos (nI_le (by omega) (by omega))]
    exact ⟨x, rfl, FK_refl x, rfl, c, hl, h⟩
def Sc (F : Wd → Option (Int32 × Wd)) (B : Nat → Int32) (u e : Nat) (sub : Nat → Pr) : Prop := ∀ (x : Wd) (pos : Nat) (cl0 : List Int32), KRd x B u e → pos ≤ e → x 64 1 = nI pos → CLr x cl0 → cl0.length ≤ pos → ∃ x', F x = some (bI (sub pos).1, x') ∧ FK x x' ∧ x' 64 1 = nI (sub pos).2.1 ∧ ((sub pos).1 = true → CLr x' (cl0 ++ (sub pos).2.2)) ∧ ∃ c, c ≤ 50 ∧ x' 65 1 = nI c
theorem CLr_some {x : Wd} {cl : List Int32} {e pos : Nat} (h : CLr x cl) (he : e ≤ 50) (hp : pos ≤ e) (hl : cl.length ≤ pos) : ∃ c, c ≤ 50 ∧ x 65 1 = nI c := ⟨cl.length, by omega, h.1⟩
theorem x_loop {gl : Int32 → Int32 → Wd → Option (Int32 × Wd)} {gs : Int32 → Wd → Option (Int32 × Wd)} {go : Int32 → Int32 → Wd → Option (Int32 × Wd)} {B : Nat → Int32} {u e k o m : Nat} {sub : Nat → Pr} (he : e ≤ 50) (hk : k < 5) (hm : m ≤ 50) (hS : Sc (gl (nI (k + 1)) (nI o)) B u e sub) (hok : okS e sub) : ∀ (n i pos : Nat) (base cl : List Int32) (x : Wd) (f : Nat), i + n = m → n < f → KRd x B u e → pos ≤ e → x 64 1 = nI pos → CLr x (base ++ cl) → (base ++ cl).length ≤ pos → ∃ x', lp (fun _ _ _ _ _ => none) (fun rec => fb_X3_readLevel_39 gl gs go rec) f (nI k) (nI o) (nI m) (nI i) x = some (bI (loopS B e k sub n pos cl).1, x') ∧ FK x x' ∧ x' 64 1 = nI (loopS B e k sub n pos cl).2.1 ∧ ((loopS B e k sub n pos cl).1 = true → CLr x' (base ++ (loopS B e k sub n pos cl).2.2)) ∧ ∃ c, c ≤ 50 ∧ x' 65 1 = nI c := by
  intro n
  induction n with
  | zero =>
    intro i pos base cl x f h1 h2 hK hp h8 hC hl
    obtain ⟨f, rfl⟩ : ∃ g, f = g + 1 := ⟨f - 1, by omega⟩
    have e1 : ∀ r, fb_X3_readLevel_39 gl gs go r (nI k) (nI o) (nI m) (nI i) x = some (1, x) := fun r => by
      unfold fb_X3_readLevel_39
      rw [if_pos (nI_le (by omega) (by omega))]
    rw [lp_s]
    exact ⟨x, e1 _, FK_refl x, h8, fun _ => hC, CLr_some hC he hp hl⟩
  | succ n ih =>
    intro i pos base cl x f h1 h2 hK hp h8 hC hl
    obtain ⟨f, rfl⟩ : ∃ g, f = g + 1 := ⟨f - 1, by omega⟩
    have hs := x_sign he hp hK h8
    rw [lp_s]
    unfold loopS
    by_cases hop : opL (sgB B e pos) = k
    · rw [if_pos hop]
      have hpe := op_lt (by omega) hop
      obtain ⟨x1, g1, g2, g3, g4, ⟨c1, g5, g6⟩⟩ := hS (updW x 64 1 (nI (pos + 1))) (pos + 1) (base ++ cl) (KRd_fk FK_pos hK) (by omega) (updW_self _ _ _ _) (CLr_congr (updW_cell (by omega)) (updW_cell (by omega)) hC) (by omega)
      obtain ⟨s1, s2, s3⟩ := hok (pos + 1) (by omega)
      have e1 : ∀ r, fb_X3_readLevel_39 gl gs go r (nI k) (nI o) (nI m) (nI i) x = (if ¬ bI (sub (pos + 1)).1 = 0 then bd (f_X4_add 65 (-(sgB B e pos)) x1) (fun q6 => r (nI k) (nI o) (nI m) (nI (i + 1)) q6) else some ((0:Int32), x1)) := fun r => by
        unfold fb_X3_readLevel_39
        rw [if_neg (nI_ge (by omega) (by omega)), hs, bd_s, x_level, bd_s, hop, if_neg (show ¬ k = 9 by omega), if_neg (fun w => w rfl), bd_s, wl_s, h8, nI_1, nI_1, g1, bd_s, nI_1]
      by_cases hsub : (sub (pos + 1)).1 = true
      · rw [if_pos hsub]
        obtain ⟨s4, s5⟩ := s3 hsub
        have hlen : (base ++ cl ++ (sub (pos + 1)).2.2).length + 1 ≤ (sub (pos + 1)).2.1 := by
          rw [List.length_append]; omega
        obtain ⟨x2, a1, a2, a3, a4⟩ := x_add (v := -(sgB B e pos)) (g4 hsub) (by omega)
        rw [show base ++ cl ++ (sub (pos + 1)).2.2 ++ [-(sgB B e pos)] = base ++ (cl ++ (sub (pos + 1)).2.2 ++ [-(sgB B e pos)]) by simp [List.append_assoc]] at a2
        obtain ⟨x', j1, j2, j3, j4, j5⟩ := ih (i + 1) (sub (pos + 1)).2.1 base (cl ++ (sub (pos + 1)).2.2 ++ [-(sgB B e pos)]) x2 f (by omega) (by omega) (KRd_fk (FK_trans FK_pos (FK_trans g2 a3)) hK) s2 (by rw [a4]; exact g3) a2 (by
          rw [show base ++ (cl ++ (sub (pos + 1)).2.2 ++ [-(sgB B e pos)]) = base ++ cl ++ (sub (pos + 1)).2.2 ++ [-(sgB B e pos)] by simp [List.append_assoc], List.length_append (bs := [-(sgB B e pos)]), List.length_singleton]
          exact hlen)
        refine ⟨x', (e1 _).trans ?_, FK_trans FK_pos (FK_trans g2 (FK_trans a3 j2)), j3, j4, j5⟩
        rw [hsub, if_pos (by decide), a1, bd_s]
        exact j1
      · rw [if_neg hsub]
        have hf : (sub (pos + 1)).1 = false := by
          cases hh : (sub (pos + 1)).1 with
          | true => exact absurd hh hsub
          | false => rfl
        refine ⟨x1, (e1 _).trans ?_, FK_trans FK_pos g2, g3, fun z => absurd z Bool.false_ne_true, c1, g5, g6⟩
        rw [hf, if_neg (fun w => w bI_f)]
        rfl
    · rw [if_neg hop]
      have e1 : ∀ r, fb_X3_readLevel_39 gl gs go r (nI k) (nI o) (nI m) (nI i) x = some (1, x) := fun r => by
        unfold fb_X3_readLevel_39
        rw [if_neg (nI_ge (by omega) (by omega)), hs, bd_s, x_level, bd_s]
        by_cases h9 : opL (sgB B e pos) = 9
        · rw [if_pos h9, if_pos (show ¬ (-1:Int32) = nI k from neg1 (by omega))]
        · rw [if_neg h9]
          have h5 : opL (sgB B e pos) < 9 := by
            unfold opL at h9 ⊢
            split <;> try omega
            split <;> try omega
            split <;> try omega
            split <;> try omega
            split <;> try omega
            simp_all
          rw [if_pos (fun w => hop (by rw [nI_eq (by omega) (by omega)] at w; exact w))]
      exact ⟨x, e1 _, FK_refl x, h8, fun _ => hC, CLr_some hC he hp hl⟩
end RD
