section SS
/-- one night of a season, thought on both sides -/
theorem one_both {x y : Wd} {t P Q n : Nat} (ht : t = 2 ∨ t = 49) (h : SR x y t P Q n) (hn : n < 20000) : ∃ k x' y', k ≤ 1 ∧ f_X8_playFirsts t 1 x = some (nI k, x') ∧ f_X9_seasonGoes 1 y = some (nI k, y') ∧ SR x' y' t P Q (n + k) ∧ FXt t x x' ∧ FYn y y' ∧ (k = 0 → y' 101 = y 101) := by
  obtain ⟨k, x', y', a1, a2, a3, a4, a5, a6, a7⟩ := pf_season (m := 1) ht (by omega) h (by omega)
  exact ⟨k, x', y', a3, a1, a2, a4, a5, a6, a7⟩
theorem lr_go {p q P Q : Nat} (hp : p < P) (hq : q < Q) (hP : P ≤ 5) (hQ : Q ≤ 6) : ∀ (d i : Nat) (x y : Wd) (n fx fy : Nat), i + d = 60 → d + 1 < fx → d < fy → SR x y 49 P Q n → n + d + 1 ≤ 20000 →
    ∃ (b : Bool) (k : Nat) (x' y' : Wd), lp (fun _ _ _ _ => none) (fun rec => fb_X9_learns_37 rec) fy (nI q) (nI p) (nI i) y = bd (f_X9_moveAll 103 101 y') (fun q3 => (if bI b = 0 then bd (f_X9_errs (-1000000002:Int32) q3) (fun q4 => some (q4.1, q4.2)) else some (nI k, q3))) ∧ lp (fun _ _ _ _ => none) (fun rec => fb_X8_learns_42 rec) fx (nI q) (nI p) (nI i) x = (if bI b = 0 then bd (f_X8_error (2:Int32) x') (fun q1 => some (q1.1, q1.2)) else some (nI k, x')) ∧ FXt 49 x x' ∧ FYn y y' := by
  intro d
  induction d with
  | zero =>
    intro i x y n fx fy h1 h2 h3 h h4
    obtain ⟨f, rfl⟩ : ∃ f, fx = f + 2 := ⟨fx - 2, by omega⟩
    obtain ⟨g, rfl⟩ : ∃ f, fy = f + 1 := ⟨fy - 1, by omega⟩
    have hi : i = 60 := by omega
    subst hi
    have hk : x 54 q = y 101 (29 + 5 * q) := (h.1.2.2.1 q hq).1
    obtain ⟨k, x1, y1, -, a1, -, a3, a4, a5, -⟩ := one_both (Or.inr rfl) h (by omega)
    have eY : ∀ u, fb_X9_learns_37 u (nI q) (nI p) (nI 60) y = bd (f_X9_moveAll 103 101 y) (fun q3 => (if bI (bt (y 101 (29 + 5 * q)) p) = 0 then bd (f_X9_errs (-1000000002:Int32) q3) (fun q4 => some (q4.1, q4.2)) else some (nI 60, q3))) := fun u => by
      unfold fb_X9_learns_37 f_X9_learns_71
      rw [if_pos (show (60:Int32) ≤ nI 60 by decide), m_of0 (by omega), bd_s, m_has (by omega), bd_s]
    have eX2 : ∀ u w, fb_X8_learns_42 u (nI q) (nI p) (nI 61) w = bd (f_X8_error (2:Int32) w) (fun q1 => some (q1.1, q1.2)) := fun u w => by
      unfold fb_X8_learns_42 f_X8_learns_87
      rw [if_pos (by decide)]
    have eX : ∀ u, fb_X8_learns_42 u (nI q) (nI p) (nI 60) x = (if ¬ bI (bt (x 54 q) p) = 1 then bd (f_X8_playFirsts 49 (1:Int32) x) (fun q2 => (if ¬ q2.1 = 0 then u (nI q) (nI p) (nI 61) q2.2 else bd (f_X8_error (2:Int32) q2.2) (fun q1 => some (q1.1, q1.2)))) else some (nI 60, x)) := fun u => by
      unfold fb_X8_learns_42 f_X8_learns_75
      rw [if_neg (by decide), ald_nI (by omega) (by omega), and1_bI (by omega), nI_1]
    rw [lp_s, lp_s]
    cases hb : bt (y 101 (29 + 5 * q)) p with
    | true =>
      refine ⟨true, 60, x, y, (eY _).trans ?_, (eX _).trans ?_, FXt_refl _ _, FYn_refl _⟩
      · rw [hb]
      · rw [hk, hb, if_neg (fun z => z rfl), if_neg (by decide)]
    | false =>
      refine ⟨false, 60, x1, y, (eY _).trans ?_, (eX _).trans ?_, a4, FYn_refl _⟩
      · rw [hb]
      · rw [hk, hb, if_pos (by decide), a1, bd_s, if_pos bI_f]
        by_cases hz : nI k = 0
        · rw [if_neg (fun z => z hz)]
        · rw [if_pos hz, lp_s]
          exact eX2 _ _
  | succ d ih =>
    intro i x y n fx fy h1 h2 h3 h h4
    obtain ⟨f, rfl⟩ : ∃ f, fx = f + 1 := ⟨fx - 1, by omega⟩
    obtain ⟨g, rfl⟩ : ∃ f, fy = f + 1 := ⟨fy - 1, by omega⟩
    have hk : x 54 q = y 101 (29 + 5 * q) := (h.1.2.2.1 q hq).1
    obtain ⟨k, x1, y1, hk1, a1, a2, a3, a4, a5, a6⟩ := one_both (Or.inr rfl) h (by omega)
    have hk2 : x1 54 q = y1 101 (29 + 5 * q) := (a3.1.2.2.1 q hq).1
    have eY : ∀ u, fb_X9_learns_37 u (nI q) (nI p) (nI i) y = (if ¬ bI (bt (y 101 (29 + 5 * q)) p) = 0 then f_X9_learns_71 (nI q) (nI p) (nI i) y else (if ¬ nI k = 1 then f_X9_learns_71 (nI q) (nI p) (nI i) y1 else u (nI q) (nI p) (nI (i + 1)) y1)) := fun u => by
      unfold fb_X9_learns_37
      rw [if_neg (show ¬ (60:Int32) ≤ nI i from nI_ge (a := i) (b := 60) (by omega) (by omega)), m_of0 (by omega), bd_s, m_has (by omega), bd_s, a2, bd_s, nI_1]
    have e71 : ∀ w, f_X9_learns_71 (nI q) (nI p) (nI i) w = bd (f_X9_moveAll 103 101 w) (fun q3 => (if bI (bt (w 101 (29 + 5 * q)) p) = 0 then bd (f_X9_errs (-1000000002:Int32) q3) (fun q4 => some (q4.1, q4.2)) else some (nI i, q3))) := fun w => by
      unfold f_X9_learns_71
      rw [m_of0 (by omega), bd_s, m_has (by omega), bd_s]
    have eX : ∀ u, fb_X8_learns_42 u (nI q) (nI p) (nI i) x = (if ¬ bI (bt (x 54 q) p) = 1 then (if ¬ nI k = 0 then u (nI q) (nI p) (nI (i + 1)) x1 else bd (f_X8_error (2:Int32) x1) (fun q1 => some (q1.1, q1.2))) else some (nI i, x)) := fun u => by
      unfold fb_X8_learns_42 f_X8_learns_75
      rw [if_neg (show ¬ (60:Int32) < nI i from nI_nlt (a := 60) (b := i) (by omega) (by omega)), ald_nI (by omega) (by omega), and1_bI (by omega), a1, bd_s, nI_1]
    rw [lp_s, lp_s]
    cases hb : bt (y 101 (29 + 5 * q)) p with
    | true =>
      refine ⟨true, i, x, y, (eY _).trans ?_, (eX _).trans ?_, FXt_refl _ _, FYn_refl _⟩
      · rw [hb, if_pos (by decide), e71, hb]
      · rw [hk, hb, if_neg (fun z => z rfl), if_neg (by decide)]
    | false =>
      rcases (by omega : k = 0 ∨ k = 1) with rfl | rfl
      · refine ⟨false, i, x1, y1, (eY _).trans ?_, (eX _).trans ?_, a4, a5⟩
        · rw [hb, if_neg (fun z => z bI_f), if_pos (by decide), e71, a6 rfl, hb]
        · rw [hk, hb, if_pos (by decide), if_neg (fun z => z rfl), if_pos bI_f]
      · obtain ⟨b, k', x', y', c1, c2, c3, c4⟩ := ih (i + 1) x1 y1 (n + 1) f g (by omega) (by omega) (by omega) a3 (by omega)
        refine ⟨b, k', x', y', (eY _).trans ?_, (eX _).trans ?_, FXt_trans a4 c3, FYn_trans a5 c4⟩
        · rw [hb, if_neg (fun z => z bI_f), if_neg (fun z => z rfl)]; exact c1
        · rw [hk, hb, if_pos (by decide), if_pos (by decide)]; exact c2
theorem st_learns : St_learns Rel := by
  intro n x y p1 p2 hn h
  obtain ⟨P, Q, n', x1, y1, a1, a2, a3, a4, a5, a6, a7, a8, a9⟩ := th_start h
  have hP := a4.1
  have hQ := a4.2.1
  unfold f_X8_learns f_X9_learns f_X8_learns_28 f_X9_learns_16
  rw [x_hasPlayer a5.1.2.1 a4.2.1, m_isPlayer a4.2.1 a4.2.2.2.1, bd_s, bd_s, bI_ite0, bI_ite0]
  by_cases d1 : 0 ≤ p1 ∧ p1 ≤ nI Q - 1
  · rw [dT d1, dT d1, x_hasPart a5.1.1 a4.1, m_isPart a4.1 a4.2.2.1, bd_s, bd_s, bI_ite1, bI_ite1]
    by_cases d2 : 0 ≤ p2 ∧ p2 ≤ nI P - 1
    · rw [dT d2, dT d2]
      obtain ⟨q, hq, rfl⟩ := (le_pred (N := Q) (by omega)).mp d1
      obtain ⟨p, hp, rfl⟩ := (le_pred (N := P) (by omega)).mp d2
      rw [a1, bd_s, a2, bd_s]
      obtain ⟨b, k, x2, y2, c1, c2, c3, c4⟩ := lr_go (p := p) (q := q) hp hq hP hQ 60 0 x1 y1 n' FU FU (by omega) (FU_lt (by omega)) (FU_lt (by omega)) a6 (by omega)
      obtain ⟨y3, e1, e2, e3, e4⟩ := th_end h (FXt_trans (fun c z1 _ _ _ _ _ => a9 c (by omega)) c3) (FYk_trans (FYk_c (Or.inr (Or.inl rfl)) a8) (FYk_n c4)) (fun i hi => by rw [c4.1 103 (by omega) (by omega) (by omega) (by omega) (by omega)]; exact a7 i hi) (fun i hi => by rw [c4.2.2 i (by omega), a8 101 (by omega)])
      have eX : f_X8_learns_42 (nI q) (nI p) 0 x1 = _ := c2
      have eY : f_X9_learns_37 (nI q) (nI p) 0 y1 = _ := c1
      rw [eX, eY, e1, bd_s]
      cases b with
      | false =>
        rw [if_pos bI_f, if_pos bI_f]
        exact st_fail e2 2 _ _ (by omega) rfl (by decide)
      | true =>
        rw [if_neg (by decide), if_neg (by decide)]
        exact ⟨nI k, x2, y3, rfl, rfl, Rel_mono _ _ _ e2⟩
    · rw [dF d2, dF d2]
      exact st_fail h 1 _ _ (by omega) rfl (by decide)
  · rw [dF d1, dF d1]
    exact st_fail h 1 _ _ (by omega) rfl (by decide)
end SS
