/-! every call keeps what holds -/
def Post {α : Type} (s : xS) (fc fm : xS → Option (xS × α)) : Prop := ok (fc s) (fun r1 => ok (fm r1.1) (fun r2 => r2.2 = r1.2 ∧ Inv r2.1))
theorem bI (p : Int32) : -2147483648 ≤ p.toInt ∧ p.toInt ≤ 2147483647 := by
  have h1 := Int32.le_toInt p
  have h2 := Int32.toInt_lt p
  omega
section IV
variable {s s' : xS}
theorem Inv_z (hI : Inv s) (hf : fr Fz s s') : Inv s' := by
  obtain ⟨b, n, pl, red, slip, x, W, S, st, rc, Rs, m, G, hC, hO, hB, hW⟩ := hI
  exact ⟨b, n, pl, red, slip, x, W, S, st, rc, Rs, m, G, Core_scr hC hf, Oth_Fz hO hf, Be_Fz hB hf, Wl_Fz hW hf⟩
theorem P_RO {α : Type} {fc fm : xS → Option (xS × α)} (hI : Inv s) (h : RO s fc fm) : Post s fc fm := h.mono (fun r1 ⟨f1, h2⟩ => h2.mono (fun r2 ⟨f2, e⟩ => ⟨e, Inv_z hI (f1.tr f2)⟩))
theorem P_same {α : Type} {fc fm : xS → Option (xS × α)} (hI : Inv s) (h : ∃ v, fc s = some (s, v) ∧ fm s = some (s, v)) : Post s fc fm := by
  obtain ⟨v, h1, h2⟩ := h
  exact ⟨_, h1, _, h2, rfl, hI⟩
theorem i_height (hI : Inv s) (a0 a1 : Int32) : Post s (f129 0 a0 a1) (f200 101 a0 a1) := by
  have hI' := hI
  obtain ⟨b, n, pl, red, slip, x, W, S, st, rc, Rs, m, G, hC, hO, hB, hW⟩ := hI
  have h := (c_height hC (p := a0.toInt) (c := a1.toInt)  (bI a0).1 (bI a0).2 (bI a1).1 (bI a1).2)
  simp only [iz_self] at h
  exact P_RO hI' h
theorem i_seems (hI : Inv s) (a0 a1 : Int32) : Post s (f130 0 a0 a1) (f201 101 a0 a1) := by
  have hI' := hI
  obtain ⟨b, n, pl, red, slip, x, W, S, st, rc, Rs, m, G, hC, hO, hB, hW⟩ := hI
  have h := (c_seems hC (p := a0.toInt) (c := a1.toInt)  (bI a0).1 (bI a0).2 (bI a1).1 (bI a1).2)
  simp only [iz_self] at h
  exact P_RO hI' h
theorem i_air (hI : Inv s) (a0 a1 a2 a3 a4 a5 : Int32) : Post s (f133 0 a0 a1 a2 a3 a4 a5) (f224 101 a0 a1 a2 a3 a4 a5) := by
  have hI' := hI
  obtain ⟨b, n, pl, red, slip, x, W, S, st, rc, Rs, m, G, hC, hO, hB, hW⟩ := hI
  have h := (c_air hC (a := a0.toInt) (c := a1.toInt) (t := a2.toInt) (u := a3.toInt) (v := a4.toInt) (w := a5.toInt)  (bI a0).1 (bI a0).2 (bI a1).1 (bI a1).2 (bI a2).1 (bI a2).2 (bI a3).1 (bI a3).2 (bI a4).1 (bI a4).2 (bI a5).1 (bI a5).2)
  simp only [iz_self] at h
  exact P_RO hI' h
theorem i_lift (hI : Inv s) (a0 a1 a2 a3 a4 a5 : Int32) : Post s (f134 0 a0 a1 a2 a3 a4 a5) (f225 101 a0 a1 a2 a3 a4 a5) := by
  have hI' := hI
  obtain ⟨b, n, pl, red, slip, x, W, S, st, rc, Rs, m, G, hC, hO, hB, hW⟩ := hI
  have h := (c_lift hC (a := a0.toInt) (c := a1.toInt) (t := a2.toInt) (u := a3.toInt) (v := a4.toInt) (w := a5.toInt)  (bI a0).1 (bI a0).2 (bI a1).1 (bI a1).2 (bI a2).1 (bI a2).2 (bI a3).1 (bI a3).2 (bI a4).1 (bI a4).2 (bI a5).1 (bI a5).2)
  simp only [iz_self] at h
  exact P_RO hI' h
theorem i_gap (hI : Inv s) (a0 a1 a2 a3 a4 a5 a6 : Int32) : Post s (f132 0 a0 a1 a2 a3 a4 a5 a6) (f221 101 a0 a1 a2 a3 a4 a5 a6) := by
  have hI' := hI
  obtain ⟨b, n, pl, red, slip, x, W, S, st, rc, Rs, m, G, hC, hO, hB, hW⟩ := hI
  have h := (c_gap hC (a := a0.toInt) (c := a1.toInt) (t := a2.toInt) (u := a3.toInt) (v := a4.toInt) (e := a5.toInt) (w := a6.toInt)  (bI a0).1 (bI a0).2 (bI a1).1 (bI a1).2 (bI a2).1 (bI a2).2 (bI a3).1 (bI a3).2 (bI a4).1 (bI a4).2 (bI a5).1 (bI a5).2 (bI a6).1 (bI a6).2)
  simp only [iz_self] at h
  exact P_RO hI' h
theorem i_off (hI : Inv s) (a0 a1 : Int32) : Post s (f137 0 a0 a1) (f233 101 a0 a1) := by
  have hI' := hI
  obtain ⟨b, n, pl, red, slip, x, W, S, st, rc, Rs, m, G, hC, hO, hB, hW⟩ := hI
  have h := (c_off hC (a := a0.toInt) (w := a1.toInt)  (bI a0).1 (bI a0).2 (bI a1).1 (bI a1).2)
  simp only [iz_self] at h
  exact P_RO hI' h
theorem i_hole (hI : Inv s) (a0 a1 : Int32) : Post s (f146 0 a0 a1) (f256 101 a0 a1) := by
  have hI' := hI
  obtain ⟨b, n, pl, red, slip, x, W, S, st, rc, Rs, m, G, hC, hO, hB, hW⟩ := hI
  have h := (c_hole hC (a := a0.toInt) (w := a1.toInt)  (bI a0).1 (bI a0).2 (bI a1).1 (bI a1).2)
  simp only [iz_self] at h
  exact P_RO hI' h
theorem i_flat (hI : Inv s) (a0 : Int32) : Post s (f138 0 a0) (f235 101 a0) := by
  have hI' := hI
  obtain ⟨b, n, pl, red, slip, x, W, S, st, rc, Rs, m, G, hC, hO, hB, hW⟩ := hI
  have h := (c_flat hC (k := a0.toInt)  (bI a0).1 (bI a0).2)
  simp only [iz_self] at h
  exact P_RO hI' h
theorem i_hides (hI : Inv s) : Post s (f142 0) (f244 101) := by
  have hI' := hI
  obtain ⟨b, n, pl, red, slip, x, W, S, st, rc, Rs, m, G, hC, hO, hB, hW⟩ := hI
  have h := (c_hides hC   )
  exact P_RO hI' h
theorem i_lay (hI : Inv s) (a0 a1 a2 a3 a4 a5 : Int32) : Post s (f131 0 a0 a1 a2 a3 a4 a5) (f220 101 a0 a1 a2 a3 a4 a5) := by
  have hI' := hI
  obtain ⟨b, n, pl, red, slip, x, W, S, st, rc, Rs, m, G, hC, hO, hB, hW⟩ := hI
  have h := (c_lay hC (a := a0.toInt) (c := a1.toInt) (t := a2.toInt) (u := a3.toInt) (v := a4.toInt) (w := a5.toInt)  (bI a0).1 (bI a0).2 (bI a1).1 (bI a1).2 (bI a2).1 (bI a2).2 (bI a3).1 (bI a3).2 (bI a4).1 (bI a4).2 (bI a5).1 (bI a5).2)
  simp only [iz_self] at h
  exact P_RO hI' h
theorem i_hidden (hI : Inv s) : Post s (f141 0) (f243 101) := by
  have hI' := hI
  obtain ⟨b, n, pl, red, slip, x, W, S, st, rc, Rs, m, G, hC, hO, hB, hW⟩ := hI
  have h := (c_hidden hC   )
  exact P_RO hI' h
theorem i_edge (hI : Inv s) (a0 a1 a2 a3 : Int32) : Post s (f147 0 a0 a1 a2 a3) (f260 101 a0 a1 a2 a3) := by
  have hI' := hI
  obtain ⟨b, n, pl, red, slip, x, W, S, st, rc, Rs, m, G, hC, hO, hB, hW⟩ := hI
  have h := (c_edge hC (a := a0.toInt) (l := a2.toInt) (w := a3.toInt) a1 (bI a0).1 (bI a0).2 (bI a2).1 (bI a2).2 (bI a3).1 (bI a3).2)
  simp only [iz_self] at h
  exact P_RO hI' h
theorem i_fits (hI : Inv s) : Post s (f151 0) (f276 101) := by
  have hI' := hI
  obtain ⟨b, n, pl, red, slip, x, W, S, st, rc, Rs, m, G, hC, hO, hB, hW⟩ := hI
  have h := c_fits hO.2.2.2.2.2.1   
  exact P_same hI' h
theorem i_tight (hI : Inv s) (a0 : Int32) : Post s (f152 0 a0) (f277 101 a0) := by
  have hI' := hI
  obtain ⟨b, n, pl, red, slip, x, W, S, st, rc, Rs, m, G, hC, hO, hB, hW⟩ := hI
  have h := c_tight hO.2.2.2.2.2.1 (w := a0.toInt)  (bI a0).1 (bI a0).2
  simp only [iz_self] at h
  exact P_same hI' h
theorem i_fault (hI : Inv s) (a0 : Int32) : Post s (f128 0 a0) (f191 101 a0) := by
  have hI' := hI
  obtain ⟨b, n, pl, red, slip, x, W, S, st, rc, Rs, m, G, hC, hO, hB, hW⟩ := hI
  have h := c_fault hO.1  a0 
  exact P_same hI' h
theorem i_about (hI : Inv s) (a0 : Int32) : Post s (f163 0 a0) (f281 101 a0) := by
  have hI' := hI
  obtain ⟨b, n, pl, red, slip, x, W, S, st, rc, Rs, m, G, hC, hO, hB, hW⟩ := hI
  have h := c_about hC hO.1 hO.2.2.2.2.2.1 hO.2.2.2.2.2.2  a0 
  exact P_same hI' h
theorem i_square (hI : Inv s) (a0 a1 a2 a3 a4 : Int32) : Post s (f148 0 a0 a1 a2 a3 a4) (f262 101 a0 a1 a2 a3 a4) := by
  have hI' := hI
  obtain ⟨b, n, pl, red, slip, x, W, S, st, rc, Rs, m, G, hC, hO, hB, hW⟩ := hI
  have h := c_square  (s := s) (a := a0.toInt) (c := a1.toInt) (d := a2.toInt) (w := a3.toInt) (p := a4.toInt)  (bI a0).1 (bI a0).2 (bI a1).1 (bI a1).2 (bI a2).1 (bI a2).2 (bI a3).1 (bI a3).2 (bI a4).1 (bI a4).2
  simp only [iz_self] at h
  exact P_same hI' h
theorem Inv_ch {b n pl : Nat} {red slip : Int} {x : sS} {W S : Nat → Int} {st : Int32} {rc : Nat} {Rs : Nat → Rn} {m : Nat} {G : Nat → Sg} (hC : Core s b n pl red slip x W S st rc Rs) (hO : Oth s b n pl m G) (hB : BeI s n pl red slip W S rc Rs x) (hW : WlI s n pl red x.1 W S m G) (h : ChP s s' b n pl red slip rc Rs) : Inv s' := by
  rcases h with h | ⟨h1, h2, x', W', S', st', h3⟩
  · exact Inv_z ⟨b, n, pl, red, slip, x, W, S, st, rc, Rs, m, G, hC, hO, hB, hW⟩ h
  · exact ⟨b, n, pl, red, slip, x', W', S', st', rc, Rs, m, G, h3, Oth_FA hO h1, Be_chg h2, Wl_chg h2⟩
theorem Inv_rd {b n pl : Nat} {red slip : Int} {x : sS} {W S : Nat → Int} {st : Int32} {rc : Nat} {Rs : Nat → Rn} {m : Nat} {G : Nat → Sg} (hC : Core s b n pl red slip x W S st rc Rs) (hO : Oth s b n pl m G) (hB : BeI s n pl red slip W S rc Rs x) (hW : WlI s n pl red x.1 W S m G) (h : RdP s s' b n pl red slip W S rc Rs) : Inv s' := by
  rcases h with h | ⟨h1, h2, x', st', h3⟩
  · exact Inv_z ⟨b, n, pl, red, slip, x, W, S, st, rc, Rs, m, G, hC, hO, hB, hW⟩ h
  · exact ⟨b, n, pl, red, slip, x', W, S, st', rc, Rs, m, G, h3, Oth_FRc hO h1, Be_chg h2, Wl_chg h2⟩
theorem i_round (hI : Inv s) (a0 : Int32) : Post s (f135 0 a0) (f230 101 a0) := by
  obtain ⟨b, n, pl, red, slip, x, W, S, st, rc, Rs, m, G, hC, hO, hB, hW⟩ := hI
  have h := (c_round hC (i := a0.toInt)  (bI a0).1 (bI a0).2)
  simp only [iz_self] at h
  exact h.mono (fun r1 h1 => h1.mono (fun r2 ⟨e, h2⟩ => ⟨e, Inv_rd hC hO hB hW h2⟩))
theorem i_run (hI : Inv s) (a0 : Int32) : Post s (f136 0 a0) (f231 101 a0) := by
  obtain ⟨b, n, pl, red, slip, x, W, S, st, rc, Rs, m, G, hC, hO, hB, hW⟩ := hI
  have h := (c_run hC (i := a0.toInt)  (bI a0).1 (bI a0).2)
  simp only [iz_self] at h
  exact h.mono (fun r1 h1 => h1.mono (fun r2 ⟨e, h2⟩ => ⟨e, Inv_rd hC hO hB hW h2⟩))
theorem i_warm (hI : Inv s) (a0 a1 a2 : Int32) : Post s (f139 0 a0 a1 a2) (f237 101 a0 a1 a2) := by
  obtain ⟨b, n, pl, red, slip, x, W, S, st, rc, Rs, m, G, hC, hO, hB, hW⟩ := hI
  have h := (c_warm hC (p := a0.toInt) (c := a1.toInt) (m := a2.toInt)  (bI a0).1 (bI a0).2 (bI a1).1 (bI a1).2 (bI a2).1 (bI a2).2)
  simp only [iz_self] at h
  exact h.mono (fun r1 h1 => h1.mono (fun r2 ⟨e, h2⟩ => ⟨e, Inv_ch hC hO hB hW h2⟩))
theorem i_rest (hI : Inv s) (a0 : Int32) : Post s (f140 0 a0) (f238 101 a0) := by
  obtain ⟨b, n, pl, red, slip, x, W, S, st, rc, Rs, m, G, hC, hO, hB, hW⟩ := hI
  have h := (c_rest hC (m := a0.toInt)  (bI a0).1 (bI a0).2)
  simp only [iz_self] at h
  exact h.mono (fun r1 h1 => h1.mono (fun r2 ⟨e, h2⟩ => ⟨e, Inv_ch hC hO hB hW h2⟩))
theorem i_seed (hI : Inv s) (a0 : Int32) : Post s (f160 0 a0) (f278 101 a0) := by
  obtain ⟨b, n, pl, red, slip, x, W, S, st, rc, Rs, m, G, hC, hO, hB, hW⟩ := hI
  have h := (c_seed hC  a0 )
  exact h.mono (fun r1 h1 => h1.mono (fun r2 ⟨e, h2⟩ => ⟨e, Inv_ch hC hO hB hW h2⟩))
theorem i_stand (hI : Inv s) (a0 a1 a2 a3 a4 : Int32) : Post s (f153 0 a0 a1 a2 a3 a4) (f204 101 a0 a1 a2 a3 a4) := by
  obtain ⟨b, n, pl, red, slip, x, W, S, st, rc, Rs, m, G, hC, hO, hB, hW⟩ := hI
  have h := (c_stand hC (p := a0.toInt) (a := a1.toInt) (e := a2.toInt) (c := a3.toInt) (so := a4.toInt)  (bI a0).1 (bI a0).2 (bI a1).1 (bI a1).2 (bI a2).1 (bI a2).2 (bI a3).1 (bI a3).2 (bI a4).1 (bI a4).2)
  simp only [iz_self] at h
  exact h.mono (fun r1 h1 => h1.mono (fun r2 ⟨e, h2⟩ => ⟨e, Inv_ch hC hO hB hW h2⟩))
theorem i_back (hI : Inv s) (a0 : Int32) : Post s (f162 0 a0) (f280 101 a0) := by
  obtain ⟨b, n, pl, red, slip, x, W, S, st, rc, Rs, m, G, hC, hO, hB, hW⟩ := hI
  have h := (c_back hC hO.2.2.2.2.1 (q := a0.toInt)  (bI a0).1 (bI a0).2)
  simp only [iz_self] at h
  exact h.mono (fun r1 h1 => h1.mono (fun r2 ⟨e, h2⟩ => ⟨e, Inv_ch hC hO hB hW h2⟩))
theorem i_until (hI : Inv s) (a0 : Int32) : Post s (f143 0 a0) (f247 101 a0) := by
  obtain ⟨b, n, pl, red, slip, x, W, S, st, rc, Rs, m, G, hC, hO, hB, hW⟩ := hI
  have h := (c_until hC (k := a0.toInt)  (bI a0).1 (bI a0).2)
  simp only [iz_self] at h
  exact h.mono (fun r1 h1 => h1.mono (fun r2 ⟨e, f, c⟩ => ⟨e, b, n, pl, red, slip, x, W, S, st, rc, Rs, m, G, c, Oth_FU hO f, Be_FU hB f, Wl_FU hW f⟩))
theorem i_deepest (hI : Inv s) (a0 a1 : Int32) : Post s (f154 0 a0 a1) (f249 101 a0 a1) := by
  obtain ⟨b, n, pl, red, slip, x, W, S, st, rc, Rs, m, G, hC, hO, hB, hW⟩ := hI
  have h := (c_deepest hC (i := a0.toInt) (w := a1.toInt)  (bI a0).1 (bI a0).2 (bI a1).1 (bI a1).2)
  simp only [iz_self] at h
  exact h.mono (fun r1 h1 => h1.mono (fun r2 ⟨e, f, c⟩ => ⟨e, b, n, pl, red, slip, x, W, S, st, rc, Rs, m, G, c, Oth_FU hO f, Be_FU hB f, Wl_FU hW f⟩))
theorem i_image (hI : Inv s) (a0 : Int32) : Post s (f161 0 a0) (f279 101 a0) := by
  obtain ⟨b, n, pl, red, slip, x, W, S, st, rc, Rs, m, G, hC, hO, hB, hW⟩ := hI
  have h := (c_image hC hO.2.2.2.2.1 (q := a0.toInt)  (bI a0).1 (bI a0).2)
  simp only [iz_self] at h
  exact h.mono (fun r1 h1 => h1.mono (fun r2 ⟨e, c, bx, f⟩ => ⟨e, b, n, pl, red, slip, x, W, S, st, rc, Rs, m, G, c, ⟨(Oth_FI hO f).1, (Oth_FI hO f).2.1, (Oth_FI hO f).2.2.1, (Oth_FI hO f).2.2.2.1, bx, (Oth_FI hO f).2.2.2.2.1, (Oth_FI hO f).2.2.2.2.2⟩, Be_FI hB f, Wl_FI hW f⟩))
theorem i_clear (hI : Inv s) : Post s (f150 0) (f274 101) := by
  obtain ⟨b, n, pl, red, slip, x, W, S, st, rc, Rs, m, G, hC, hO, hB, hW⟩ := hI
  have h := c_clear hO.2.2.2.2.2.1  
  exact h.mono (fun r1 h1 => h1.mono (fun r2 ⟨e, hn, f⟩ => ⟨e, b, n, pl, red, slip, x, W, S, st, rc, Rs, m, G, Core_FHn hC f, ⟨(Oth_FHn hO f).1, (Oth_FHn hO f).2.1, (Oth_FHn hO f).2.2.1, (Oth_FHn hO f).2.2.2.1, (Oth_FHn hO f).2.2.2.2.1, hn, (Oth_FHn hO f).2.2.2.2.2⟩, Be_FHn hB f, Wl_FHn hW f⟩))
theorem i_cut (hI : Inv s) (a0 a1 : Int32) : Post s (f149 0 a0 a1) (f273 101 a0 a1) := by
  obtain ⟨b, n, pl, red, slip, x, W, S, st, rc, Rs, m, G, hC, hO, hB, hW⟩ := hI
  have h := c_cut hO.2.2.2.2.2.1 (a := a0.toInt) (t := a1.toInt) (bI a0).1 (bI a0).2 (bI a1).1 (bI a1).2
  simp only [iz_self] at h
  exact h.mono (fun r1 h1 => h1.mono (fun r2 ⟨e, hn, f⟩ => ⟨e, b, n, pl, red, slip, x, W, S, st, rc, Rs, m, G, Core_FHn hC f, ⟨(Oth_FHn hO f).1, (Oth_FHn hO f).2.1, (Oth_FHn hO f).2.2.1, (Oth_FHn hO f).2.2.2.1, (Oth_FHn hO f).2.2.2.2.1, hn, (Oth_FHn hO f).2.2.2.2.2⟩, Be_FHn hB f, Wl_FHn hW f⟩))
theorem i_feed (hI : Inv s) (a0 a1 a2 a3 a4 : Int32) : Post s (f124 0 a0 a1 a2 a3 a4) (f282 101 a0 a1 a2 a3 a4) := by
  obtain ⟨b, n, pl, red, slip, x, W, S, st, rc, Rs, m, G, hC, hO, hB, hW⟩ := hI
  have h := (c_feed hO.1 a0 a1 a2 a3 a4).and (c_feedB hO.1 hO.2.1 a0 a1 a2 a3 a4)
  refine h.mono (fun r1 ⟨h1, tb, h2⟩ => (h1.and h2).mono (fun r2 ⟨⟨e, t, f⟩, f2⟩ => ⟨e, b, n, pl, red, slip, x, W, S, st, rc, Rs, m, G, Core_FTT hC f, ⟨t, tb.fr f2 rfl (fun _ => rfl), Oth_FTT hO f⟩, Be_FTT hB f, Wl_FTT hW f⟩))
theorem i_end (hI : Inv s) (a0 : Int32) : Post s (f125 0 a0) (f283 101 a0) := by
  obtain ⟨b, n, pl, red, slip, x, W, S, st, rc, Rs, m, G, hC, hO, hB, hW⟩ := hI
  have h := (c_end hO.1 (k := a0.toInt) (bI a0).1 (bI a0).2).and (c_endB hO.1 hO.2.1 (k := a0.toInt) (bI a0).1 (bI a0).2)
  simp only [iz_self] at h
  refine h.mono (fun r1 ⟨h1, tb, h2⟩ => (h1.and h2).mono (fun r2 ⟨⟨e, t, f⟩, f2⟩ => ⟨e, b, n, pl, red, slip, x, W, S, st, rc, Rs, m, G, Core_FTT hC f, ⟨t, tb.fr f2 rfl (fun _ => rfl), Oth_FTT hO f⟩, Be_FTT hB f, Wl_FTT hW f⟩))
theorem i_sight (hI : Inv s) (a0 a1 a2 a3 a4 : Int32) : Post s (f155 0 a0 a1 a2 a3 a4) (f263 101 a0 a1 a2 a3 a4) := by
  have hI' := hI
  obtain ⟨b, n, pl, red, slip, x, W, S, st, rc, Rs, m, G, hC, hO, hB, hW⟩ := hI
  have h := (c_sight hC hO.2.2.2.2.2.2 (p := a0.toInt) (t := a1.toInt) (u := a2.toInt) (v := a3.toInt) (r := a4.toInt)  (bI a0).1 (bI a0).2 (bI a1).1 (bI a1).2 (bI a2).1 (bI a2).2 (bI a3).1 (bI a3).2 (bI a4).1 (bI a4).2)
  simp only [iz_self] at h
  refine h.mono (fun r1 h1 => h1.mono (fun r2 ⟨e, h2⟩ => ⟨e, ?_⟩))
  rcases h2 with h2 | ⟨f, z1, z2, z3, G', sg⟩
  · rw [h2]; exact hI'
  · have o := Oth_FSg hO f
    exact ⟨b, n, pl, red, slip, x, W, S, st, rc, Rs, m + 1, G', Core_FSg hC f, ⟨o.1, o.2.1, o.2.2.1, o.2.2.2.1, o.2.2.2.2.1, o.2.2.2.2.2, sg⟩, Be_FSg hB f, ⟨Or.inl z1, Or.inl z3, Or.inl z2⟩⟩
theorem i_best (hI : Inv s) (a0 a1 : Int32) : Post s (f144 0 a0 a1) (f254 101 a0 a1) := by
  obtain ⟨b, n, pl, red, slip, x, W, S, st, rc, Rs, m, G, hC, hO, hB, hW⟩ := hI
  have h := (c_best hC hB (m := a0.toInt) (k := a1.toInt)  (bI a0).1 (bI a0).2 (bI a1).1 (bI a1).2)
  simp only [iz_self] at h
  exact h.mono (fun r1 h1 => h1.mono (fun r2 ⟨e, f, c, be⟩ => ⟨e, b, n, pl, red, slip, x, W, S, st, rc, Rs, m, G, c, Oth_FUB hO f, be, Wl_FUB hW f⟩))
theorem i_bestRound (hI : Inv s) (a0 a1 a2 : Int32) : Post s (f145 0 a0 a1 a2) (f255 101 a0 a1 a2) := by
  obtain ⟨b, n, pl, red, slip, x, W, S, st, rc, Rs, m, G, hC, hO, hB, hW⟩ := hI
  have h := (c_bestRound hC hB (m := a0.toInt) (k := a1.toInt) (j := a2.toInt)  (bI a0).1 (bI a0).2 (bI a1).1 (bI a1).2 (bI a2).1 (bI a2).2)
  simp only [iz_self] at h
  exact h.mono (fun r1 h1 => h1.mono (fun r2 ⟨e, f, c, be⟩ => ⟨e, b, n, pl, red, slip, x, W, S, st, rc, Rs, m, G, c, Oth_FUB hO f, be, Wl_FUB hW f⟩))
theorem i_worlds (hI : Inv s) : Post s (f156 0) (f268 101) := by
  obtain ⟨b, n, pl, red, slip, x, W, S, st, rc, Rs, m, G, hC, hO, hB, hW⟩ := hI
  have h := c_worlds hC hO.2.2.2.2.2.2 hW   
  exact h.mono (fun r1 h1 => h1.mono (fun r2 ⟨e, f, wl⟩ => ⟨e, b, n, pl, red, slip, x, W, S, st, rc, Rs, m, G, Core_FWU hC f, Oth_FWU hO f, Be_FWU hB f, wl⟩))
theorem i_world (hI : Inv s) (a0 : Int32) : Post s (f157 0 a0) (f269 101 a0) := by
  obtain ⟨b, n, pl, red, slip, x, W, S, st, rc, Rs, m, G, hC, hO, hB, hW⟩ := hI
  have h := c_world hC hO.2.2.2.2.2.2 hW  (i := a0.toInt) (bI a0).1 (bI a0).2
  simp only [iz_self] at h
  exact h.mono (fun r1 h1 => h1.mono (fun r2 ⟨e, f, wl⟩ => ⟨e, b, n, pl, red, slip, x, W, S, st, rc, Rs, m, G, Core_FWU hC f, Oth_FWU hO f, Be_FWU hB f, wl⟩))
theorem i_known (hI : Inv s) (a0 a1 : Int32) : Post s (f158 0 a0 a1) (f270 101 a0 a1) := by
  obtain ⟨b, n, pl, red, slip, x, W, S, st, rc, Rs, m, G, hC, hO, hB, hW⟩ := hI
  have h := c_known hC hO.2.2.2.2.2.2 hW a0 (p := a1.toInt) (bI a1).1 (bI a1).2
  simp only [iz_self] at h
  exact h.mono (fun r1 h1 => h1.mono (fun r2 ⟨e, f, wl⟩ => ⟨e, b, n, pl, red, slip, x, W, S, st, rc, Rs, m, G, Core_FWU hC f, Oth_FWU hO f, Be_FWU hB f, wl⟩))
theorem i_ask (hI : Inv s) (a0 : Int32) : Post s (f159 0 a0) (f272 101 a0) := by
  obtain ⟨b, n, pl, red, slip, x, W, S, st, rc, Rs, m, G, hC, hO, hB, hW⟩ := hI
  have h := c_ask hC hO.2.2.2.2.2.2 hW  (w := a0.toInt) (bI a0).1 (bI a0).2
  simp only [iz_self] at h
  exact h.mono (fun r1 h1 => h1.mono (fun r2 ⟨e, f, wl⟩ => ⟨e, b, n, pl, red, slip, x, W, S, st, rc, Rs, m, G, Core_FWU hC f, Oth_FWU hO f, Be_FWU hB f, wl⟩))
theorem i_order (hI : Inv s) : Post s (f127 0) (f192 101) := by
  have hI' := hI
  obtain ⟨b, n, pl, red, slip, x, W, S, st, rc, Rs, m, G, hC, hO, hB, hW⟩ := hI
  refine (c_order hC hO.1 hO.2.1 hO.2.2.2.1).mono (fun r1 h1 => h1.mono (fun r2 ⟨e, h2⟩ => ⟨e, ?_⟩))
  rcases h2 with h2 | ⟨t, z, f | ⟨f, ch, rc', Rs', c⟩⟩
  · rw [h2]; exact hI'
  · exact ⟨b, n, pl, red, slip, x, W, S, st, rc, Rs, m, G, Core_FOf hC f, ⟨t, TpB.z z, Oth_FOf hO f⟩, Be_FOf hB f, Wl_FOf hW f⟩
  · exact ⟨b, n, pl, red, slip, x, W, S, st, rc', Rs', m, G, c, ⟨t, TpB.z z, Oth_FOs hO f⟩, Be_chg ch, Wl_chg ch⟩
theorem i_shop (hI : Inv s) : Post s (f126 0) (f187 101) := by
  obtain ⟨b, n, pl, red, slip, x, W, S, st, rc, Rs, m, G, hC, hO, hB, hW⟩ := hI
  refine (c_shop hC hO.1 hO.2.1 hO.2.2.1).mono (fun r1 h1 => h1.mono (fun r2 ⟨e, t, z, s8, h2⟩ => ⟨e, ?_⟩))
  have b2 := (b_of hC).1
  have p4 := hC.p4
  rcases h2 with f | ⟨f, ch, n', pl', red', slip', x', W', S', st', Rs', c, nm, bx, q1, q2⟩
  · rcases (show b = 0 ∨ b = 1 by omega) with rfl | rfl
    · have o := Oth_FSf0 hO f
      exact ⟨0, n, pl, red, slip, x, W, S, st, rc, Rs, m, G, Core_FSf0 hC f, ⟨t, TpB.z z, s8, Nm_FSf0 p4 hO.2.2.2.1 f, o.1, o.2.1, o.2.2⟩, Be_FSf0 hB f, Wl_FSf0 hW f⟩
    · have o := Oth_FSf1 hO f
      exact ⟨1, n, pl, red, slip, x, W, S, st, rc, Rs, m, G, Core_FSf1 hC f, ⟨t, TpB.z z, s8, Nm_FSf1 p4 hO.2.2.2.1 f, o.1, o.2.1, o.2.2⟩, Be_FSf1 hB f, Wl_FSf1 hW f⟩
  · have hn : HnI r2.1 := by
      rcases (show b = 0 ∨ b = 1 by omega) with rfl | rfl
      · exact Hn_FSs0 hO.2.2.2.2.2.1 f
      · exact Hn_FSs1 hO.2.2.2.2.2.1 f
    exact ⟨1 - b, n', pl', red', slip', x', W', S', st', 0, Rs', 0, G, c, ⟨t, TpB.z z, s8, nm, fun q hq => Or.inl (bx q hq), hn, ⟨Nat.zero_le 20, q1, q2, fun k hk => absurd hk (Nat.not_lt_zero k)⟩⟩, Be_chg ch, Wl_chg ch⟩
end IV
