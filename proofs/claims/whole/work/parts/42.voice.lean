section SQ
def VC (x0 y0 : Wd) (K : Nat) : Prop := K < 7 ∧ x0 67 1 = nI K ∧ y0 100 25 = nI K ∧ x0 67 2 = y0 100 26 ∧ x0 67 3 = y0 100 27
theorem VS_x {x0 y0 x y : Wd} (h : VS x0 y0 x y) (i : Nat) : x 67 i = x0 67 i := by rw [h.1 67 (by omega) (by omega)]
theorem VS_y {x0 y0 x y : Wd} (h : VS x0 y0 x y) {i : Nat} (hi : i ≠ 24) : y 100 i = y0 100 i := h.2.2.1 i hi
theorem d40 {d : Nat} (h : d ≤ 40) : nI d ≤ 40 := nI_le (a := d) (b := 40) h (by omega)
theorem s_sp0 {x0 y0 : Wd} {K f g d : Nat} {p : Int32} (hc : VC x0 y0 K) (hd : d ≤ 39) : Sim x0 y0 (FR (f + 2) (nI 0) (nI 0) p (nI d)) (grp_X9_speaksIn (g + 1) (nI 0) p) := by
  intro x y h
  obtain ⟨x', y', e1, e2, h'⟩ := VS_push (c := 10) h
  rw [FR_step (by omega) (by omega), sp_s]
  unfold fg_X7_begun fg_X9_speaksIn
  rw [if_pos (d40 (by omega)), show nI (vcode 0 0) = 10 from rfl, show nI (vhold 0 0) = nI 0 from rfl, e1, bd_s, tld_nI (by omega) (by omega), if_pos rfl, if_neg (fun q => q rfl), e2, bd_s, VS_x h', VS_y h' (by omega), hc.2.2.2.1]
  exact ⟨_, x', y', rfl, rfl, h'⟩
theorem s_sp2 {x0 y0 : Wd} {K f g d : Nat} {p : Int32} (hc : VC x0 y0 K) (hd : d ≤ 38) : Sim x0 y0 (FR (f + 4) (nI 2) (nI 0) p (nI d)) (grp_X9_speaksIn (g + 2) (nI 2) p) := by
  intro x y h
  obtain ⟨x', y', e1, e2, h'⟩ := VS_push (c := 30) h
  obtain ⟨r, x'', y'', e3, e4, h''⟩ := s_sp0 (f := f) (g := g) (d := d + 1) (p := p) hc (by omega) x' y' h'
  rw [show f + 4 = (f + 2) + 2 from rfl, FR_step (by omega) (by omega), sp_s]
  unfold fg_X7_begun fg_X9_speaksIn
  rw [if_pos (d40 (by omega)), show nI (vcode 0 2) = 30 from rfl, show nI (vhold 0 2) = nI 2 from rfl, e1, bd_s, tld_nI (by omega) (by omega), if_neg (by decide), if_neg (by decide), if_neg (by decide), if_neg (by decide), if_neg (by decide), if_pos rfl, show tblA 2 = nI 0 from rfl, show (0:Int32) = nI 0 from rfl, e3, bd_s, if_pos (by decide), if_neg (fun q => q rfl), e2, bd_s, e4, bd_s]
  exact ⟨_, x'', y'', rfl, rfl, h''⟩
theorem s_sp {x0 y0 : Wd} {K f g d k : Nat} {p : Int32} (hc : VC x0 y0 K) (hk : k < 7) (hd : d ≤ 38) : Sim x0 y0 (FR (f + 4) (nI k) (nI 0) p (nI d)) (grp_X9_speaksIn (g + 4) (nI k) p) := by
  intro x y h
  rcases (by omega : k = 0 ∨ k = 1 ∨ k = 2 ∨ k = 3 ∨ k = 4 ∨ k = 5 ∨ k = 6) with rfl | rfl | rfl | rfl | rfl | rfl | rfl
  · exact s_sp0 hc (by omega) x y h
  · have := s_sp0 (f := f + 2) (g := g + 2) (p := p) hc (show d ≤ 39 by omega) x y h
    rw [show f + 4 = (f + 2) + 2 from rfl, FR_step (by omega) (by omega)] at this ⊢
    rw [sp_up (by omega) (by omega) (by omega)]
    exact this
  · exact s_sp2 hc (by omega) x y h
  · have := s_sp0 (f := f + 2) (g := g + 2) (p := p) hc (show d ≤ 39 by omega) x y h
    rw [show f + 4 = (f + 2) + 2 from rfl, FR_step (by omega) (by omega)] at this ⊢
    rw [sp_up (by omega) (by omega) (by omega)]
    exact this
  · have := s_sp0 (f := f + 2) (g := g + 1) (p := p) hc (show d ≤ 39 by omega) x y h
    rw [show f + 4 = (f + 2) + 2 from rfl, FR_step (by omega) (by omega)] at this ⊢
    rw [sp_up (by omega) (by omega) (by omega), show vabove 4 = 1 from rfl, sp_up (by omega) (by omega) (by omega)]
    exact this
  · have := s_sp2 (f := f) (g := g + 1) (p := p) hc (show d ≤ 38 by omega) x y h
    rw [show f + 4 = (f + 2) + 2 from rfl, FR_step (by omega) (by omega)] at this ⊢
    rw [sp_up (by omega) (by omega) (by omega)]
    exact this
  · have := s_sp0 (f := f + 2) (g := g + 1) (p := p) hc (show d ≤ 39 by omega) x y h
    rw [show f + 4 = (f + 2) + 2 from rfl, FR_step (by omega) (by omega)] at this ⊢
    rw [sp_up (by omega) (by omega) (by omega), show vabove 6 = 3 from rfl, sp_up (by omega) (by omega) (by omega)]
    exact this
end SQ
