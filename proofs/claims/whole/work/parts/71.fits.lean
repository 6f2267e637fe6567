section FT
theorem FC_refl (x : Wd) : FC x x := fun _ _ _ _ _ _ _ => rfl
def allB (t : Nat → Bool) : Nat → Bool
  | 0 => true
  | q + 1 => allB t q && t q
theorem allB_f {t : Nat → Bool} {q : Nat} (h : t q = false) : ∀ {Q}, q < Q → allB t Q = false
  | Q + 1, hq => by
    rw [allB]
    by_cases e : q = Q
    · subst e; rw [h, Bool.and_false]
    · rw [allB_f h (by omega)]; rfl
theorem allB_congr {t u : Nat → Bool} : ∀ {Q}, (∀ q, q < Q → t q = u q) → allB t Q = allB u Q
  | 0, _ => rfl
  | Q + 1, h => by rw [allB, allB, allB_congr (fun q hq => h q (by omega)), h Q (by omega)]
def suF (r : Rw) (f : Nat → Int32) (q : Nat) : Nat → Int32
  | 0 => r (32 + 5 * q)
  | j + 1 => if f j = nI q then suF r f q j + WGv r j q else suF r f q j
theorem su_pu {r : Rw} {P Q q : Nat} {f : Nat → Int32} (hW : WF r P Q) (hq : q < Q) : ∀ j, ∃ a, a ≤ 9999 + 999 * j ∧ suF r f q j = nI a ∧ puF r f q j = nI (min a 9999)
  | 0 => by
    obtain ⟨k, hk, ek⟩ := (hW.2.2.2.2.2.2.2 q hq).2.2.2.1
    exact ⟨k, by omega, ek, by rw [puF, ek, show min k 9999 = k by omega]⟩
  | j + 1 => by
    obtain ⟨a, ha, e1, e2⟩ := su_pu (f := f) hW hq j
    unfold suF puF
    by_cases h : f j = nI q
    · obtain ⟨m, hm, em⟩ : ∃ m, m ≤ 999 ∧ WGv r j q = nI m := lawV_rng r 1 _ _ _
      rw [if_pos h, if_pos h, e1, e2, em, nI_add, nI_add]
      refine ⟨a + m, by omega, rfl, ?_⟩
      by_cases hb : j ≤ 1000000
      · rw [show (9999:Int32) = nI 9999 from rfl, min_nI (by omega) (by omega)]
        congr 1
        omega
      · rw [show (9999:Int32) = nI 9999 from rfl, min_nI (by omega) (by omega)]
        congr 1
        omega
    · rw [if_neg h, if_neg h]
      exact ⟨a, by omega, e1, e2⟩
theorem su_min {r : Rw} {P Q q j : Nat} {f : Nat → Int32} (hW : WF r P Q) (hq : q < Q) (hj : j ≤ 1000) : mmin (suF r f q j) 9999 = puF r f q j := by
  obtain ⟨a, ha, e1, e2⟩ := su_pu (f := f) hW hq j
  rw [e1, e2, show (9999:Int32) = nI 9999 from rfl, min_nI (by omega) (by omega)]
def puC (r : Rw) (q : Nat) : Rp → Int32
  | [] => r (32 + 5 * q)
  | k :: rest => if k = q + 1 then mmin (puC r q rest + WGv r rest.length q) 9999 else puC r q rest
theorem puC_eq {r : Rw} {q : Nat} {f : Nat → Int32} (hq : q < 900) : ∀ {rp : Rp}, RW f rp → puF r f q rp.length = puC r q rp
  | [], _ => rfl
  | k :: rest, ⟨h1, h2, h3⟩ => by
    show (if f rest.length = nI q then mmin (puF r f q rest.length + WGv r rest.length q) 9999 else puF r f q rest.length) = (if k = q + 1 then mmin (puC r q rest + WGv r rest.length q) 9999 else puC r q rest)
    rw [puC_eq hq h3, h1]
    by_cases e : k = q + 1
    · rw [if_pos e, if_pos (by rw [cd_eq (by omega) (by omega)]; exact e)]
    · rw [if_neg e, if_neg (by rw [cd_eq (by omega) (by omega)]; exact e)]
def pyB (r : Rw) (Q : Nat) (g : Nat → Int32) (rp : Rp) : Bool := allB (fun q => decide (puC r q rp = g q)) Q
theorem ix_6 (p q : Nat) : nI p * (6:Int32) + nI q = nI (p * 6 + q) := by rw [show (6:Int32) = nI 6 from rfl, nI_mul, nI_add]
theorem x_fill {x : Wd} {P Q : Nat} {r : Rw} (hR : RT x 2 r P Q) (hW : WF r P Q) (hl : RLw x 16 r 1) : ∃ x', f_X8_fillWages x = some x' ∧ (∀ c, c ≠ 79 → c ≠ 19 → c ≠ 20 → x' c = x c) ∧ ∀ p, p < P → ∀ q, q < Q → x' 79 (p * 6 + q) = WGv r p q := by
  have hP := hW.1
  have hQ := hW.2.1
  unfold f_X8_fillWages f_X8_fillWages_2
  obtain ⟨s, ⟨i1, i2⟩, h4⟩ := lp_run (z := fun _ _ => none) (F := fun rec => fb_X8_fillWages_2 rec) (fun g (s : Wd) i => g (nI i) s) P some (fun i s => (∀ c, c ≠ 79 → c ≠ 19 → c ≠ 20 → s c = x c) ∧ ∀ p, p < i → ∀ q, q < Q → s 79 (p * 6 + q) = WGv r p q) (fun g i s hi hI => by
    obtain ⟨i1, i2⟩ := hI
    have hin : ∃ u, ((∀ c, c ≠ 79 → c ≠ 19 → c ≠ 20 → u c = x c) ∧ (∀ p, p < i → ∀ q, q < Q → u 79 (p * 6 + q) = WGv r p q) ∧ ∀ q, q < Q → u 79 (i * 6 + q) = WGv r i q) ∧ f_X8_fillWages_18 g (nI i) 0 s = g (nI (i + 1)) u := by
      unfold f_X8_fillWages_18
      obtain ⟨u, h1, h2⟩ := lp_run (z := fun _ _ _ => none) (F := fun rec => fb_X8_fillWages_18 g rec) (fun k (u : Wd) j => k (nI i) (nI j) u) Q (fun u => g (nI (i + 1)) u) (fun j u => (∀ c, c ≠ 79 → c ≠ 19 → c ≠ 20 → u c = x c) ∧ (∀ p, p < i → ∀ q, q < Q → u 79 (p * 6 + q) = WGv r p q) ∧ ∀ q, q < j → u 79 (i * 6 + q) = WGv r i q) (fun k j u hj hI => by
        obtain ⟨j1, j2, j3⟩ := hI
        have c2 : u 2 = x 2 := j1 2 (by omega) (by omega) (by omega)
        obtain ⟨u', g1, g2⟩ := x_wage (s := u) (t := 2) (p := i) (q := j) hQ hW hi hj (by rw [c2]; exact hR.1.2.2.2) (by rw [j1 5 (by omega) (by omega) (by omega)]; exact (hR.2.1 i hi).2.2.1) (by rw [j1 8 (by omega) (by omega) (by omega)]; exact (hR.2.2.1 j hj).2.1) (RLw_frame hl (j1 _ (by omega) (by omega) (by omega)) (j1 _ (by omega) (by omega) (by omega)) (j1 _ (by omega) (by omega) (by omega)))
        refine ⟨updW u' 79 (i * 6 + j) (WGv r i j), ⟨fun c a1 a2 a3 => by rw [updW_cell a1, g2 c a2 a3]; exact j1 c a1 a2 a3, fun p hp q hq => ?_, fun q hq => ?_⟩, ?_⟩
        · rw [updW_place (by omega), g2 79 (by omega) (by omega)]; exact j2 p hp q hq
        · rw [updW_get]
          by_cases e : q = j
          · subst e; rw [if_pos ⟨rfl, rfl⟩]
          · rw [if_neg (fun z => by omega), g2 79 (by omega) (by omega)]; exact j3 q (by omega)
        · unfold fb_X8_fillWages_18
          rw [c2, hR.1.2.1, if_neg (nI_ge hj (by omega)), g1, bd_s]
          dsimp only
          rw [ix_6, ast_nI (by omega) (by omega), nI_1]) (fun k u hI => by
        unfold fb_X8_fillWages_18 f_X8_fillWages_68
        rw [hI.1 2 (by omega) (by omega) (by omega), hR.1.2.1, if_pos (nI_le (Nat.le_refl _) (by omega)), nI_1]) (by omega) s ⟨i1, i2, fun q hq => by omega⟩
      exact ⟨u, h1, h2⟩
    obtain ⟨u, ⟨u1, u2, u3⟩, u4⟩ := hin
    refine ⟨u, ⟨u1, fun p hp q hq => ?_⟩, ?_⟩
    · by_cases e : p = i
      · subst e; exact u3 q hq
      · exact u2 p (by omega) q hq
    · unfold fb_X8_fillWages_2
      rw [i1 2 (by omega) (by omega) (by omega), hR.1.1, if_neg (nI_ge hi (by omega)), u4]) (fun g s hI => by
    unfold fb_X8_fillWages_2
    rw [hI.1 2 (by omega) (by omega) (by omega), hR.1.1, if_pos (nI_le (Nat.le_refl _) (by omega))]) (by omega) x ⟨fun _ _ _ _ => rfl, fun p hp => by omega⟩
  exact ⟨s, h4, i1, i2⟩
theorem x_paysAs {x : Wd} {P Q s : Nat} {r : Rw} {f g : Nat → Int32} (hs : s < 4) (hR : RT x 2 r P Q) (hW : WF r P Q) (hw : ∀ p, p < P → ∀ q, q < Q → x 79 (p * 6 + q) = WGv r p q) (hf : ∀ j, j < P → x 59 j = f j) (hg : ∀ j, j < 40 → x (72 + 2 * s) j = g j) : f_X8_paysAs (71 + 2 * s) x = some (bI (allB (fun q => decide (puF r f q P = g q)) Q)) := by
  have hP := hW.1
  have hQ := hW.2.1
  have hin : ∀ k q, q < Q → f_X8_paysAs_32 (71 + 2 * s) x k (nI q) (x 10 q) 0 = (if puF r f q P = g q then k (nI (q + 1)) else some 0) := fun k q hq => by
    unfold f_X8_paysAs_32
    obtain ⟨v, h1, h2⟩ := lp_run (z := fun _ _ _ => none) (F := fun rec => fb_X8_paysAs_32 (71 + 2 * s) x k rec) (fun u (v : Int32) i => u (nI q) v (nI i)) P (fun v => f_X8_paysAs_82 (71 + 2 * s) x k (nI q) v) (fun i v => v = suF r f q i) (fun u i v hi hI => by
      unfold fb_X8_paysAs_32 f_X8_paysAs_76
      rw [hR.1.1, if_neg (nI_ge hi (by omega)), ald_nI (by omega) (by omega), hf i hi, ix_6, ald_nI (by omega) (by omega), lv_s, nI_1, hw i hi q hq, hI]
      refine ⟨_, rfl, ?_⟩
      rw [suF]
      by_cases e : f i = nI q
      · rw [if_neg (fun z => z e), if_pos e]
      · rw [if_pos e, if_neg e]) (fun u v hI => by
      unfold fb_X8_paysAs_32
      rw [hR.1.1, if_pos (nI_le (Nat.le_refl _) (by omega))]) (by omega) (x 10 q) (hR.2.2.1 q hq).2.2.2
    refine Eq.trans (h2 : _ = _) ?_
    unfold f_X8_paysAs_82
    rw [show 71 + 2 * s + 1 = 72 + 2 * s by omega, ald_nI (by omega) (by omega), h1, su_min hW hq (by omega), hg q (by omega), nI_1]
  unfold f_X8_paysAs f_X8_paysAs_2
  exact lp_ex (z := fun _ => none) (F := fun rec => fb_X8_paysAs_2 (71 + 2 * s) x rec) (fun u (_ : Unit) i => u (nI i)) Q (fun i _ => allB (fun q => decide (puF r f q P = g q)) i = true) (fun res => res = some (bI (allB (fun q => decide (puF r f q P = g q)) Q))) (fun u i _ hi hI => by
    have e : fb_X8_paysAs_2 (71 + 2 * s) x u (nI i) = (if puF r f i P = g i then u (nI (i + 1)) else some 0) := by
      unfold fb_X8_paysAs_2
      rw [hR.1.2.1, if_neg (nI_ge hi (by omega)), ald_nI (by omega) (by omega), hin u i hi]
    by_cases e2 : puF r f i P = g i
    · right
      refine ⟨(), ?_, ?_⟩
      · rw [allB, hI, decide_eq_true e2]; rfl
      · rw [e, if_pos e2]
    · left
      rw [e, if_neg e2, allB_f (q := i) (decide_eq_false e2) hi]; rfl) (fun u _ hI => by
    unfold fb_X8_paysAs_2
    rw [hR.1.2.1, if_pos (nI_le (Nat.le_refl _) (by omega)), hI]; rfl) Q 0 () FU (by omega) (FU_lt (by omega)) rfl
end FT
