section SI
theorem x_isMissing {x : Wd} {b : Nat} : f_X5_isMissing b x = some (bI (decide (x b 0 = 0))) := by
  unfold f_X5_isMissing
  by_cases c : x b 0 = 0
  · rw [if_neg (fun q => q c), decide_eq_true c]; rfl
  · rw [if_pos c, decide_eq_false c]; rfl
theorem st_put : St_put Rel := by
  intro n x y p1 p2 p3 hn h
  unfold f_X8_put f_X9_put
  rw [m_isSheet, bd_s, bI_ite1]
  by_cases c : 0 ≤ p1 ∧ p1 ≤ 3
  · obtain ⟨s, hs, rfl⟩ := (in_nI (N := 3) (by omega)).mp c
    obtain ⟨⟨r1, r1'⟩, ⟨l, l1, l2, l3⟩, r3⟩ := h.2.2.2.1 s (by omega)
    rw [dT c, x_sheetAt_ok (by omega), bd_s, oc_sh (by omega), x_isMissing, bd_s, bI_ite0, ald_nI (by omega) (by omega), r1]
    by_cases c0 : y 110 s = 0
    · rw [dT c0, if_neg (fun q => q c0)]
      exact st_fail h 2 _ _ (by omega) rfl (by decide)
    · rw [dF c0, if_pos c0, ald_nI (by omega) (by omega), l2, l3, x_within, m_in, bd_s, bd_s, bI_ite1, bI_ite1]
      by_cases c2 : 0 ≤ p2 ∧ p2 ≤ nI l - 1
      · obtain ⟨a, ha, rfl⟩ := (le_pred (N := l) (by omega)).mp c2
        rw [dT c2, dT c2, ald_nI (by omega) (by omega)]
        have e : f_X5_lowest (71 + 2 * s) x p3 = f_X9_narrow (y 110 s) p3 := by
          unfold f_X5_lowest f_X9_narrow
          rw [r1]
        obtain ⟨v, hv⟩ : ∃ v, f_X9_narrow (y 110 s) p3 = some v := by
          unfold f_X9_narrow
          split
          · split
            · exact ⟨_, rfl⟩
            · exact ⟨_, rfl⟩
          · exact ⟨_, rfl⟩
        rw [e, hv, bd_s, bd_s, ast_nI (by omega) (by omega), ix_40, ast_nI (by omega) (by omega)]
        refine ⟨1, updW x (71 + 2 * s + 1) a v, updW y 112 (40 * s + a) v, rfl, rfl, Rel_sh h (fun k hk => updW_cell (by omega)) (fun k hk => updW_cell (by omega)) (fun u hu => ?_)⟩
        obtain ⟨g1, g2, g3⟩ := h.2.2.2.1 u hu
        rw [updW_cell (k' := 71 + 2 * u) (by omega), updW_cell (k' := 110) (by omega), updW_cell (k' := 111) (by omega)]
        refine ⟨g1, g2, fun i hi => ?_⟩
        rw [updW_get, updW_get]
        by_cases q : u = s ∧ i = a
        · rw [if_pos (by omega), if_pos (by omega)]
        · rw [if_neg (by omega), if_neg (by omega)]
          exact g3 i hi
      · rw [dF c2, dF c2]
        exact st_fail h 1 _ _ (by omega) rfl (by decide)
  · rw [dF c, x_sheetAt_no c, bd_s, oc_n]
    exact st_fail h 1 _ _ (by omega) rfl (by decide)
def hold (l : Nat) (p n : Int32) : Prop := ∃ a m, p = nI a ∧ n = nI m ∧ a + m ≤ l
theorem sub_toInt {l m : Nat} (hl : l ≤ 1000) (hm : m < 2 ^ 31) : (nI l - nI m).toInt = (l : Int) - m := by
  rw [Int32.toInt_sub, nI_toInt (by omega), nI_toInt hm]
  unfold Int.bmod
  dsimp only
  split <;> omega
theorem hold_iff {l : Nat} {p n : Int32} (hl : l ≤ 1000) : hold l p n ↔ (¬ p < 0 ∧ ¬ n < 0 ∧ ¬ (nI l - n) < p ∧ ¬ nI l < n) := by
  constructor
  · rintro ⟨a, m, rfl, rfl, h⟩
    refine ⟨Int32.not_lt.mpr (nI_pos' (by omega)), Int32.not_lt.mpr (nI_pos' (by omega)), fun q => ?_, Int32.not_lt.mpr (nI_le (by omega) (by omega))⟩
    have := Int32.lt_iff_toInt_lt.mp q
    rw [sub_toInt hl (by omega), nI_toInt (by omega)] at this
    omega
  · rintro ⟨h1, h2, h3, h4⟩
    obtain ⟨a, ha, rfl⟩ := nI_of h1
    obtain ⟨m, hm, rfl⟩ := nI_of h2
    refine ⟨a, m, rfl, rfl, ?_⟩
    have k := Int32.le_iff_toInt_le.mp (Int32.not_lt.mp h3)
    rw [sub_toInt hl hm, nI_toInt ha] at k
    omega
theorem x_holds {x : Wd} {b l : Nat} {p n : Int32} (hl : l ≤ 40) (h : x b 1 = nI l) : (hold l p n → f_X5_holds b x p n = some 1) ∧ (¬ hold l p n → f_X5_holds b x p n = some 0) := by
  have hi := hold_iff (l := l) (p := p) (n := n) (by omega)
  unfold f_X5_holds
  rw [h]
  constructor
  · intro q
    obtain ⟨h1, h2, h3, h4⟩ := hi.mp q
    rw [if_neg h1, if_neg h2, if_neg h4, if_neg h3]
  · intro q
    by_cases h1 : p < 0
    · rw [if_pos h1]
    rw [if_neg h1]
    by_cases h2 : n < 0
    · rw [if_pos h2]
    rw [if_neg h2]
    by_cases h4 : nI l < n
    · rw [if_pos h4]
    rw [if_neg h4]
    by_cases h3 : nI l - n < p
    · rw [if_pos h3]
    exact absurd (hi.mpr ⟨h1, h2, h3, h4⟩) q
theorem m_copyOut {y : Wd} {s t a c m : Nat} (hs : 40 * s + a + m ≤ 160) (ht : 40 * t + c + m ≤ 160) (hm : m ≤ 40) : ∃ y', f_X9_move_119 (nI s) (nI a) (nI t) (nI c) (nI m) 0 y = some (nI m, y') ∧ (∀ j, y' 112 j = if 40 * t + c ≤ j ∧ j < 40 * t + c + m then y 112 (40 * s + a + (j - (40 * t + c))) else y 112 j) ∧ ∀ k, k ≠ 112 → k ≠ 113 → y' k = y k := by
  have two : ∀ u : Wd, ∃ y', f_X9_move_156 (nI t) (nI c) (nI m) 0 u = some (nI m, y') ∧ (∀ j, y' 112 j = if 40 * t + c ≤ j ∧ j < 40 * t + c + m then u 113 (j - (40 * t + c)) else u 112 j) ∧ ∀ k, k ≠ 112 → y' k = u k := fun u => by
    unfold f_X9_move_156
    obtain ⟨v, ⟨h1, h2⟩, h4⟩ := lp_run (z := fun _ _ _ _ _ => none) (F := fun rec => fb_X9_move_156 rec) (fun g (v : Wd) i => g (nI t) (nI c) (nI m) (nI i) v) m (fun v => some (nI m, v)) (fun i v => (∀ j, v 112 j = if 40 * t + c ≤ j ∧ j < 40 * t + c + i then u 113 (j - (40 * t + c)) else u 112 j) ∧ ∀ k, k ≠ 112 → v k = u k) (fun g i v hi hI => by
      obtain ⟨i1, i2⟩ := hI
      refine ⟨updW v 112 (40 * t + c + i) (u 113 i), ⟨fun j => ?_, fun k k1 => by rw [updW_cell k1]; exact i2 k k1⟩, ?_⟩
      · rw [updW_get]
        by_cases q : j = 40 * t + c + i
        · rw [if_pos ⟨rfl, q⟩, if_pos (by omega), show j - (40 * t + c) = i by omega]
        · rw [if_neg (fun z => q z.2), i1 j]
          by_cases w : 40 * t + c ≤ j ∧ j < 40 * t + c + i
          · rw [if_pos w, if_pos (by omega)]
          · rw [if_neg w, if_neg (by omega)]
      · unfold fb_X9_move_156
        rw [if_neg (nI_ge hi (by omega)), ald_nI (by omega) (by omega), ix_40, nI_add, ast_nI (by omega) (by omega), nI_1, i2 113 (by omega)]) (fun g v hI => by
      unfold fb_X9_move_156
      rw [if_pos (nI_le (Nat.le_refl _) (by omega))]) (by omega) u ⟨fun j => by rw [if_neg (by omega)], fun k k1 => rfl⟩
    exact ⟨v, h4, h1, h2⟩
  unfold f_X9_move_119
  obtain ⟨v, ⟨h1, h2⟩, h4⟩ := lp_run (z := fun _ _ _ _ _ _ _ => none) (F := fun rec => fb_X9_move_119 rec) (fun g (v : Wd) i => g (nI s) (nI a) (nI t) (nI c) (nI m) (nI i) v) m (fun v => f_X9_move_156 (nI t) (nI c) (nI m) 0 v) (fun i v => (∀ j, j < i → v 113 j = y 112 (40 * s + a + j)) ∧ ∀ k, k ≠ 113 → v k = y k) (fun g i v hi hI => by
    obtain ⟨i1, i2⟩ := hI
    refine ⟨updW v 113 i (y 112 (40 * s + a + i)), ⟨fun j hj => ?_, fun k k1 => by rw [updW_cell k1]; exact i2 k k1⟩, ?_⟩
    · rw [updW_get]
      by_cases q : j = i
      · rw [if_pos ⟨rfl, q⟩, q]
      · rw [if_neg (fun z => q z.2)]; exact i1 j (by omega)
    · unfold fb_X9_move_119
      rw [if_neg (nI_ge hi (by omega)), ix_40, nI_add, ald_nI (by omega) (by omega), ast_nI (by omega) (by omega), nI_1, i2 112 (by omega)]) (fun g v hI => by
    unfold fb_X9_move_119 f_X9_move_153
    rw [if_pos (nI_le (Nat.le_refl _) (by omega))]) (by omega) y ⟨fun j hj => by omega, fun k k1 => rfl⟩
  obtain ⟨y', g1, g2, g3⟩ := two v
  refine ⟨y', h4.trans g1, fun j => ?_, fun k k1 k2 => by rw [g3 k k1, h2 k k2]⟩
  rw [g2 j]
  by_cases w : 40 * t + c ≤ j ∧ j < 40 * t + c + m
  · rw [if_pos w, if_pos w, h1 _ (by omega)]
  · rw [if_neg w, if_neg w, h2 112 (by omega)]
theorem cpy_nI {α : Type} {w : Wd} {k0 n0 a k1 n1 c m : Nat} {K : Wd → Option α} (h0 : a + m ≤ n0) (h1 : c + m ≤ n1) (hn : n0 ≤ 1000) (hn1 : n1 ≤ 1000) : cpy w k0 n0 (nI a) k1 n1 (nI c) (nI m) K = K (setA w k1 (va_cpy (w k0) (w k1) a c m)) := by
  unfold cpy
  rw [nI_ix (by omega), nI_ix (by omega), nI_ix (by omega), if_neg]
  rintro (q | q | q | q | q)
  · exact Int32.not_lt.mpr (nI_pos' (by omega)) q
  · exact Int32.not_lt.mpr (nI_pos' (by omega)) q
  · exact Int32.not_lt.mpr (nI_pos' (by omega)) q
  · omega
  · omega
theorem st_move : St_move Rel := by
  intro n x y p1 p2 p3 p4 p5 hn h
  unfold f_X8_move f_X9_move
  rw [m_isSheet, bd_s, bI_ite0]
  have bad1 : ∃ (r : Int32) (x' y' : Wd), f_X8_move_24 x = some (r, x') ∧ f_X9_move_14 y = some (r, y') ∧ Rel (n + 1) x' y' := st_fail h 1 _ _ (by omega) rfl (by decide)
  have bad2 : ∃ (r : Int32) (x' y' : Wd), f_X8_move_46 x = some (r, x') ∧ f_X9_move_39 y = some (r, y') ∧ Rel (n + 1) x' y' := st_fail h 2 _ _ (by omega) rfl (by decide)
  have bad3 : ∃ (r : Int32) (x' y' : Wd), f_X8_move_94 x = some (r, x') ∧ f_X9_move_109 y = some (r, y') ∧ Rel (n + 1) x' y' := st_fail h 1 _ _ (by omega) rfl (by decide)
  by_cases c : 0 ≤ p1 ∧ p1 ≤ 3
  · obtain ⟨s, hs, rfl⟩ := (in_nI (N := 3) (by omega)).mp c
    rw [dT c, x_sheetAt_ok (by omega), bd_s, oc_sh (by omega), m_isSheet, bd_s, bI_ite1]
    by_cases c' : 0 ≤ p3 ∧ p3 ≤ 3
    · obtain ⟨t, ht, rfl⟩ := (in_nI (N := 3) (by omega)).mp c'
      obtain ⟨⟨r1, r1'⟩, ⟨l, l1, l2, l3⟩, r3⟩ := h.2.2.2.1 s (by omega)
      obtain ⟨⟨q1, q1'⟩, ⟨l', l1', l2', l3'⟩, q3⟩ := h.2.2.2.1 t (by omega)
      rw [dT c', x_sheetAt_ok (by omega), bd_s, oc_sh (by omega), x_isMissing, bd_s, bI_ite1, x_isMissing, bd_s, bI_ite0, ald_nI (by omega) (by omega), ald_nI (by omega) (by omega), ald_nI (by omega) (by omega), ald_nI (by omega) (by omega), ald_nI (by omega) (by omega), ald_nI (by omega) (by omega), r1, q1, l2, l2']
      by_cases c0 : y 110 s = 0
      · rw [dT c0, if_pos c0]; exact bad2
      rw [dF c0, if_neg c0]
      by_cases c1 : y 110 t = 0
      · rw [dT c1, if_neg (fun q => q c1)]; exact bad2
      rw [dF c1, if_pos c1]
      by_cases c2 : y 110 s = y 110 t
      · rw [if_pos c2, if_pos c2]
        have hi1 := hold_iff (l := l) (p := p2) (n := p5) (by omega)
        have hi2 := hold_iff (l := l') (p := p4) (n := p5) (by omega)
        by_cases hA : hold l p2 p5
        · rw [(x_holds l1 l3).1 hA, bd_s, if_neg (by decide)]
          obtain ⟨k1, k2, k3, k4⟩ := hi1.mp hA
          rw [if_neg k2, if_neg k1]
          by_cases hB : hold l' p4 p5
          · rw [(x_holds l1' l3').1 hB, bd_s, if_pos (by decide)]
            obtain ⟨j1, j2, j3, j4⟩ := hi2.mp hB
            rw [if_neg j1, if_neg k3, if_pos (Int32.not_lt.mp j3)]
            obtain ⟨a, m, rfl, rfl, e1⟩ := hA
            obtain ⟨b, m', rfl, e2, e3⟩ := hB
            have : m' = m := by
              rw [nI_eq (by omega) (by omega)] at e2
              exact e2.symm
            subst this
            obtain ⟨y', g1, g2, g3⟩ := m_copyOut (y := y) (s := s) (t := t) (a := a) (c := b) (m := m') (by omega) (by omega) (by omega)
            rw [cpy_nI (by omega) (by omega) (by omega) (by omega), g1]
            refine ⟨nI m', _, y', rfl, rfl, Rel_sh h (fun k hk => setA_cell (by omega)) (fun k hk => g3 k (by omega) (by omega)) (fun u hu => ?_)⟩
            obtain ⟨f1, f2, f3⟩ := h.2.2.2.1 u hu
            rw [setA_cell (k' := 71 + 2 * u) (by omega), g3 110 (by omega) (by omega), g3 111 (by omega) (by omega)]
            refine ⟨f1, f2, fun i hi => ?_⟩
            rw [g2]
            by_cases eu : u = t
            · subst eu
              rw [show 72 + 2 * u = 71 + 2 * u + 1 by omega, setA_self]
              unfold va_cpy
              by_cases w : b ≤ i ∧ i < b + m'
              · rw [if_pos w, if_pos (by omega), show 71 + 2 * s + 1 = 72 + 2 * s by omega, r3 _ (by omega)]
                congr 1
                omega
              · rw [if_neg w, if_neg (by omega), show 71 + 2 * u + 1 = 72 + 2 * u by omega]
                exact f3 i hi
            · rw [setA_cell (by omega), if_neg (by omega)]
              exact f3 i hi
          · rw [(x_holds l1' l3').2 hB, bd_s, if_neg (by decide)]
            by_cases z4 : p4 < 0
            · rw [if_pos z4]; exact bad3
            rw [if_neg z4, if_neg k3]
            obtain ⟨a, m, e1, rfl, e3⟩ := hA
            obtain ⟨b, hb, rfl⟩ := nI_of z4
            rw [if_neg (fun z => hB ⟨b, m, rfl, rfl, by
              have k := Int32.le_iff_toInt_le.mp z
              rw [sub_toInt (by omega) (by omega), nI_toInt hb] at k
              omega⟩)]
            exact bad3
        · rw [(x_holds l1 l3).2 hA, bd_s, if_pos rfl]
          by_cases z5 : p5 < 0
          · rw [if_pos z5]; exact bad3
          rw [if_neg z5]
          by_cases z2 : p2 < 0
          · rw [if_pos z2]; exact bad3
          rw [if_neg z2]
          by_cases z4 : p4 < 0
          · rw [if_pos z4]; exact bad3
          rw [if_neg z4]
          obtain ⟨a, ha, rfl⟩ := nI_of z2
          obtain ⟨m, hm, rfl⟩ := nI_of z5
          by_cases z : nI l - nI m < nI a
          · rw [if_pos z]; exact bad3
          · exfalso
            apply hA
            refine ⟨a, m, rfl, rfl, ?_⟩
            have k := Int32.le_iff_toInt_le.mp (Int32.not_lt.mp z)
            rw [sub_toInt (by omega) hm, nI_toInt ha] at k
            omega
      · rw [if_neg c2, if_neg c2]
        exact st_fail h 5 _ _ (by omega) rfl (by decide)
    · rw [dF c', x_sheetAt_no c', bd_s, oc_n]
      exact bad1
  · rw [dF c, x_sheetAt_no c, bd_s, oc_n]
    by_cases c' : 0 ≤ p3 ∧ p3 ≤ 3
    · obtain ⟨t, ht, rfl⟩ := (in_nI (N := 3) (by omega)).mp c'
      rw [x_sheetAt_ok (by omega), bd_s, oc_sh (by omega)]
      exact bad1
    · rw [x_sheetAt_no c', bd_s, oc_n]
      exact bad1
end SI
