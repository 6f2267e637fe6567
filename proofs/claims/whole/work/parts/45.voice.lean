section ST
theorem s_en {x0 y0 : Wd} {K f g d k : Nat} {p : Int32} (hc : VC x0 y0 K) (hk : k < 7) (hd : d ≤ 35) : Sim x0 y0 (FR (f + 11) (nI k) (nI 1) p (nI d)) (grp_X9_entersIn (g + 4) (nI k) p) := by
  intro x y h
  rcases (by omega : k = 0 ∨ k = 1 ∨ k = 2 ∨ k = 3 ∨ k = 4 ∨ k = 5 ∨ k = 6) with rfl | rfl | rfl | rfl | rfl | rfl | rfl
  · exact s_en0 (f := f + 4) hc (by omega) x y h
  · exact s_en1 (f := f + 2) hc (by omega) x y h
  · have := s_en0 (f := f + 4) (g := g + 2) (p := p) hc (show d ≤ 37 by omega) x y h
    rw [show f + 4 + 7 = (f + 9) + 2 from rfl, FR_step (by omega) (by omega)] at this
    rw [show f + 11 = (f + 9) + 2 from rfl, FR_step (by omega) (by omega), en_up (by omega) (by omega) (by omega) (by omega)]
    exact this
  · have := s_en0 (f := f + 4) (g := g + 2) (p := p) hc (show d ≤ 37 by omega) x y h
    rw [show f + 4 + 7 = (f + 9) + 2 from rfl, FR_step (by omega) (by omega)] at this
    rw [show f + 11 = (f + 9) + 2 from rfl, FR_step (by omega) (by omega), en_up (by omega) (by omega) (by omega) (by omega)]
    exact this
  · exact s_en4 hc (by omega) x y h
  · have := s_en0 (f := f + 4) (g := g + 1) (p := p) hc (show d ≤ 37 by omega) x y h
    rw [show f + 4 + 7 = (f + 9) + 2 from rfl, FR_step (by omega) (by omega)] at this
    rw [show f + 11 = (f + 9) + 2 from rfl, FR_step (by omega) (by omega), en_up (by omega) (by omega) (by omega) (by omega), show vabove 5 = 2 from rfl, en_up (by omega) (by omega) (by omega) (by omega)]
    exact this
  · have := s_en0 (f := f + 4) (g := g + 1) (p := p) hc (show d ≤ 37 by omega) x y h
    rw [show f + 4 + 7 = (f + 9) + 2 from rfl, FR_step (by omega) (by omega)] at this
    rw [show f + 11 = (f + 9) + 2 from rfl, FR_step (by omega) (by omega), en_up (by omega) (by omega) (by omega) (by omega), show vabove 6 = 3 from rfl, en_up (by omega) (by omega) (by omega) (by omega)]
    exact this
theorem s_te0 {x0 y0 : Wd} {K f g d : Nat} {p : Int32} (hc : VC x0 y0 K) (hd : d ≤ 34) : Sim x0 y0 (FR (f + 14) (nI 0) (nI 3) p (nI d)) (grp_X9_tellsIn (g + 1) (nI 0) p) := by
  intro x y h
  obtain ⟨x', y', e1, e2, h'⟩ := VS_push (c := 13) h
  obtain ⟨r, x2, y2, e3, e4, h2⟩ := s_en (f := f) (g := 96) (d := d + 1) (k := K) (p := p) hc hc.1 (by omega) x' y' h'
  obtain ⟨s, x3, y3, e5, e6, h3⟩ := s_fa (f := f + 5) (g := 96) (d := d + 1) (k := K) (p := p) hc hc.1 (by omega) x2 y2 h2
  rw [show f + 14 = (f + 12) + 2 from rfl, FR_step (by omega) (by omega), te_s]
  unfold fg_X7_begun fg_X9_tellsIn f_X9_entersIn f_X9_fallsIn
  rw [if_pos (d40 (by omega)), show nI (vcode 3 0) = 13 from rfl, show nI (vhold 3 0) = nI 0 from rfl, e1, bd_s, tld_nI (by omega) (by omega), if_neg (by decide), if_neg (by decide), if_neg (by decide), if_pos rfl, show OW (f + 12) (1:Int32) p (nI (d + 1)) x' = FR (f + 11) (nI K) (nI 1) p (nI (d + 1)) x' from OW_step (a := 1) (by rw [VS_x h']; exact hc.2.1), e3, bd_s, show OW (f + 12) (2:Int32) p (nI (d + 1)) x2 = FR (f + 11) (nI K) (nI 2) p (nI (d + 1)) x2 from OW_step (a := 2) (by rw [VS_x h2]; exact hc.2.1), e5, bd_s, if_neg (fun q => q rfl), e2, bd_s, VS_y h' (by omega), hc.2.2.1, e4, bd_s, show grp_X9_fallsIn 100 ((r, y2).snd 100 25) p (r, y2).snd = grp_X9_fallsIn 100 (y2 100 25) p y2 from rfl, VS_y h2 (by omega), hc.2.2.1, e6, bd_s]
  exact ⟨_, x3, y3, rfl, rfl, h3⟩
end ST
