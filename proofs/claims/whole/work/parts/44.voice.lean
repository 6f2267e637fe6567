section SS
theorem s_en0 {x0 y0 : Wd} {K f g d : Nat} {p : Int32} (hc : VC x0 y0 K) (hd : d ≤ 37) : Sim x0 y0 (FR (f + 7) (nI 0) (nI 1) p (nI d)) (grp_X9_entersIn (g + 1) (nI 0) p) := by
  intro x y h
  obtain ⟨x', y', e1, e2, h'⟩ := VS_push (c := 11) h
  obtain ⟨r, x'', y'', e3, e4, h''⟩ := s_sp (f := f) (g := 96) (d := d + 1) (k := K) (p := p) hc hc.1 (by omega) x' y' h'
  rw [show f + 7 = (f + 5) + 2 from rfl, FR_step (by omega) (by omega), en_s]
  unfold fg_X7_begun fg_X9_entersIn f_X9_speaksIn
  rw [if_pos (d40 (by omega)), show nI (vcode 1 0) = 11 from rfl, show nI (vhold 1 0) = nI 0 from rfl, e1, bd_s, tld_nI (by omega) (by omega), if_neg (by decide), if_pos rfl, show OW (f + 5) (0:Int32) p (nI (d + 1)) x' = FR (f + 4) (nI K) (nI 0) p (nI (d + 1)) x' from OW_step (a := 0) (by rw [VS_x h']; exact hc.2.1), e3, bd_s, if_neg (fun q => q rfl), e2, bd_s, VS_y h' (by omega), hc.2.2.1, e4, bd_s]
  exact ⟨_, x'', y'', rfl, rfl, h''⟩
theorem s_en1 {x0 y0 : Wd} {K f g d : Nat} {p : Int32} (hc : VC x0 y0 K) (hd : d ≤ 36) : Sim x0 y0 (FR (f + 9) (nI 1) (nI 1) p (nI d)) (grp_X9_entersIn (g + 2) (nI 1) p) := by
  intro x y h
  obtain ⟨x', y', e1, e2, h'⟩ := VS_push (c := 20) h
  obtain ⟨r, x2, y2, e3, e4, h2⟩ := s_en0 (f := f) (g := g) (d := d + 1) (p := p) hc (by omega) x' y' h'
  obtain ⟨s, x3, y3, e5, e6, h3⟩ := s_fa (f := f) (g := 96) (d := d + 1) (k := K) (p := 1) hc hc.1 (by omega) x2 y2 h2
  rw [show f + 9 = (f + 7) + 2 from rfl, FR_step (by omega) (by omega), en_s]
  unfold fg_X7_begun fg_X9_entersIn f_X9_fallsIn
  rw [if_pos (d40 (by omega)), show nI (vcode 1 1) = 20 from rfl, show nI (vhold 1 1) = nI 1 from rfl, e1, bd_s, tld_nI (by omega) (by omega), if_neg (by decide), if_neg (by decide), if_neg (by decide), if_neg (by decide), if_pos rfl, show FR (f + 7) (tblA 1) (1:Int32) p (nI (d + 1)) x' = some (r, x2) from e3, bd_s, show OW (f + 7) (2:Int32) (1:Int32) (nI (d + 1)) x2 = FR (f + 6) (nI K) (nI 2) 1 (nI (d + 1)) x2 from OW_step (a := 2) (by rw [VS_x h2]; exact hc.2.1), e5, bd_s, if_pos (by decide), if_neg (fun q => q rfl), e2, bd_s, show grp_X9_entersIn (g + 1) (0:Int32) p y' = some (r, y2) from e4, bd_s, show grp_X9_fallsIn 100 ((r, y2).snd 100 25) 1 (r, y2).snd = grp_X9_fallsIn 100 (y2 100 25) 1 y2 from rfl, VS_y h2 (by omega), hc.2.2.1, e6, bd_s]
  exact ⟨_, x3, y3, rfl, rfl, h3⟩
theorem s_en4 {x0 y0 : Wd} {K f g d : Nat} {p : Int32} (hc : VC x0 y0 K) (hd : d ≤ 35) : Sim x0 y0 (FR (f + 11) (nI 4) (nI 1) p (nI d)) (grp_X9_entersIn (g + 3) (nI 4) p) := by
  intro x y h
  obtain ⟨x', y', e1, e2, h'⟩ := VS_push (c := 50) h
  obtain ⟨r, x2, y2, e3, e4, h2⟩ := s_en1 (f := f) (g := g) (d := d + 1) (p := p + 1) hc (by omega) x' y' h'
  rw [show f + 11 = (f + 9) + 2 from rfl, FR_step (by omega) (by omega), en_s]
  unfold fg_X7_begun fg_X9_entersIn
  rw [if_pos (d40 (by omega)), show nI (vcode 1 4) = 50 from rfl, show nI (vhold 1 4) = nI 4 from rfl, e1, bd_s, tld_nI (by omega) (by omega), if_neg (by decide), if_neg (by decide), if_neg (by decide), if_neg (by decide), if_neg (by decide), if_neg (by decide), if_neg (by decide), if_pos rfl, show FR (f + 9) (tblA 4) (1:Int32) (p + 1) (nI (d + 1)) x' = some (r, x2) from e3, bd_s, if_pos (by decide), if_pos (by decide), if_neg (fun q => q rfl), e2, bd_s, show grp_X9_entersIn (g + 2) (1:Int32) (p + 1) y' = some (r, y2) from e4, bd_s]
  exact ⟨_, x2, y2, rfl, rfl, h2⟩
end SS
