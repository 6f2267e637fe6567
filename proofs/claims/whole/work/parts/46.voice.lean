section SU
theorem s_teA {x0 y0 : Wd} {K f g d k : Nat} {p : Int32} (hc : VC x0 y0 K) (hk : k < 7) (hk1 : k = 1 ∨ k = 2 ∨ k = 3) (hd : d ≤ 34) : Sim x0 y0 (FR (f + 14) (nI k) (nI 3) p (nI d)) (grp_X9_tellsIn (g + 2) (nI k) p) := by
  intro x y h
  have := s_te0 (f := f) (g := g) (p := p) hc hd x y h
  rw [show f + 14 = (f + 12) + 2 from rfl, FR_step (by omega) (by omega)] at this ⊢
  rw [te_up hk (by omega) (by omega) (by omega)]
  rcases hk1 with rfl | rfl | rfl <;> exact this
theorem s_te5 {x0 y0 : Wd} {K f g d : Nat} {p : Int32} (hc : VC x0 y0 K) (hd : d ≤ 33) : Sim x0 y0 (FR (f + 16) (nI 5) (nI 3) p (nI d)) (grp_X9_tellsIn (g + 3) (nI 5) p) := by
  intro x y h
  obtain ⟨x', y', e1, e2, h'⟩ := VS_push (c := 60) h
  obtain ⟨r, x2, y2, e3, e4, h2⟩ := s_teA (f := f) (g := g) (d := d + 1) (k := 2) (p := p) hc (by omega) (by omega) (by omega) x' y' h'
  obtain ⟨s, x3, y3, e5, e6, h3⟩ := s_sp (f := f + 9) (g := 96) (d := d + 1) (k := K) (p := 2) hc hc.1 (by omega) x2 y2 h2
  rw [show f + 16 = (f + 14) + 2 from rfl, FR_step (by omega) (by omega), te_s]
  unfold fg_X7_begun fg_X9_tellsIn f_X9_speaksIn
  rw [if_pos (d40 (by omega)), show nI (vcode 3 5) = 60 from rfl, show nI (vhold 3 5) = nI 5 from rfl, e1, bd_s, tld_nI (by omega) (by omega), if_neg (by decide), if_neg (by decide), if_neg (by decide), if_neg (by decide), if_neg (by decide), if_neg (by decide), if_neg (by decide), if_neg (by decide), if_pos rfl, show FR (f + 14) (tblA 5) (3:Int32) p (nI (d + 1)) x' = some (r, x2) from e3, bd_s, show OW (f + 14) (0:Int32) (2:Int32) (nI (d + 1)) x2 = FR (f + 13) (nI K) (nI 0) 2 (nI (d + 1)) x2 from OW_step (a := 0) (by rw [VS_x h2]; exact hc.2.1), e5, bd_s, if_pos (by decide), if_neg (fun q => q rfl), e2, bd_s, show grp_X9_tellsIn (g + 2) (2:Int32) p y' = some (r, y2) from e4, bd_s, show grp_X9_speaksIn 100 ((r, y2).snd 100 25) 2 (r, y2).snd = grp_X9_speaksIn 100 (y2 100 25) 2 y2 from rfl, VS_y h2 (by omega), hc.2.2.1, e6, bd_s]
  exact ⟨_, x3, y3, rfl, rfl, h3⟩
theorem s_te6 {x0 y0 : Wd} {K f g d : Nat} {p : Int32} (hc : VC x0 y0 K) (hd : d ≤ 33) : Sim x0 y0 (FR (f + 16) (nI 6) (nI 3) p (nI d)) (grp_X9_tellsIn (g + 3) (nI 6) p) := by
  intro x y h
  obtain ⟨x', y', e1, e2, h'⟩ := VS_push (c := 71) h
  obtain ⟨r, x2, y2, e3, e4, h2⟩ := s_en (f := f + 2) (g := 96) (d := d + 1) (k := K) (p := p) hc hc.1 (by omega) x' y' h'
  obtain ⟨s, x3, y3, e5, e6, h3⟩ := s_teA (f := f) (g := g) (d := d + 1) (k := 3) (p := p) hc (by omega) (by omega) (by omega) x2 y2 h2
  rw [show f + 16 = (f + 14) + 2 from rfl, FR_step (by omega) (by omega), te_s]
  unfold fg_X7_begun fg_X9_tellsIn f_X9_entersIn
  rw [if_pos (d40 (by omega)), show nI (vcode 3 6) = 71 from rfl, show nI (vhold 3 6) = nI 6 from rfl, e1, bd_s, tld_nI (by omega) (by omega), if_neg (by decide), if_neg (by decide), if_neg (by decide), if_neg (by decide), if_neg (by decide), if_neg (by decide), if_neg (by decide), if_neg (by decide), if_neg (by decide), if_neg (by decide), if_pos rfl, show OW (f + 14) (1:Int32) p (nI (d + 1)) x' = FR (f + 13) (nI K) (nI 1) p (nI (d + 1)) x' from OW_step (a := 1) (by rw [VS_x h']; exact hc.2.1), e3, bd_s, show FR (f + 14) (tblA 6) (3:Int32) p (nI (d + 1)) x2 = some (s, x3) from e5, bd_s, if_pos (by decide), if_pos (by decide), if_neg (fun q => q rfl), e2, bd_s, VS_y h' (by omega), hc.2.2.1, e4, bd_s, show grp_X9_tellsIn (g + 2) (3:Int32) p y2 = some (s, y3) from e6, bd_s]
  exact ⟨_, x3, y3, rfl, rfl, h3⟩
end SU
