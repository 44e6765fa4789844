section XZ
variable {l0 : Launch} {h b : Nat} {Tb Tx : List Cond} {cl : List vw_C} {fty : Nat → Nat → FieldType} {cA : Nat → Nat} {D : va_G} {mt : Nat → Option xM} {bt : Nat → Nat → Option (List xI)} {sc : Option (Nat × (Nat → Int32))}
theorem xm_take_drop {st : List Value} {k : Nat} (vs : List Value) (hvs : (st.take k).reverse = vs) : st.map (xm_rel h b) = (vs.map (xm_rel h b)).reverse ++ (st.drop k).map (xm_rel h b) := by
  rw [← hvs, List.map_reverse, List.reverse_reverse, ← List.map_append, List.take_append_drop]
theorem xm_rcv_ok {cn : Nat} {vs : List Value} {σ : xH} (hc : cn ≠ 99) (hr : xm_rcv cn vs σ = true) : ∃ id as n, vs = .ref id :: as ∧ σ.1[id]? = some (cn, n) := by
  unfold xm_rcv at hr
  rw [if_neg hc] at hr
  split at hr
  · rename_i id as
    split at hr
    · rename_i k n hk
      have : k = cn := by simpa using hr
      subst this
      exact ⟨id, as, n, rfl, hk⟩
    · cases hr
  · cases hr
set_option maxHeartbeats 4000000 in
/-- a call of a method of the table -/
theorem xm_inv {p : Program} {e : Env} {R : Room} {s : State} {m : MethodId} {args : Array Value} {below : List Frame} {meth : Method} {c : Code} {H : Heap} {locs : List Loc} {cells slots : Nat} {Q : State → Prop} {md mc : xM} {q : xI} {pc d n0 s0 : Nat} {l1 : xL} {st : List Value} {σ τ : xH} {r : Option Value} {ls : Array Slot}
    (hok : xm_ok Tb Tx cl fty mt bt) (hx : p.tables.exec = Jvm.exec) (hb : c.code = md.2.1) (hml : c.maxLocals = md.2.2.1) (hls : ls.size = md.2.2.1) (hown : s.vm.findClass md.1.cls = some m.cls) (hts : ∀ w ∈ Tb, w.before args s = true) (hK : va_K D cl (xm_tys cA) s) (hTx : ∀ w ∈ Tx, va_Nw w s) (hP : va_P D cl (xm_w fty cA h b σ) H) (hS : va_S (xm_A h) s.heap H locs)
    (hn0 : s.heap.size = h + n0) (hc : cells + n0 = σ.1.length) (hs : slots + s0 = xm_sum σ.1) (hrc : τ.1.length ≤ R.cells + n0) (hrs : xm_sum τ.1 ≤ R.slots + s0) (hfr : d + 1 + 1 ≤ R.frames) (hlo : 40 * (d + 1) + 100 ≤ R.locals)
    (hd : decode md.2.1 pc = .ok (q.1, 3)) (hq : mt q.2.1 = some mc) (hq0 : q.2.1 ≠ 0) (hqk : (∃ i, q.1 = .invokevirtual i ∧ xm_lnk Tb Tx md.1.cls i mc.1 ∧ Cond.instanceMethod mc.1 ∈ Tb ∧ Cond.selects mc.1.cls mc.1 mc.1 ∈ Tb ∧ (parseMethodDescriptor mc.1.desc).map (fun d => d.parameters.length + 1) = some q.2.2 ∧ mc.2.2.2.2 ≠ 99 ∧ ∃ r, cl[mc.2.2.2.2]? = some r ∧ r.1 = mc.1.cls) ∨
      (∃ i, q.1 = .invokespecial i ∧ xm_lnk Tb Tx md.1.cls i mc.1 ∧ Cond.instanceMethod mc.1 ∈ Tb ∧ mc.1.name = "<init>" ∧ mc.2.2.2.1 = none ∧ (parseMethodDescriptor mc.1.desc).map (fun d => d.parameters.length + 1) = some q.2.2 ∧ mc.2.2.2.2 ≠ 99 ∧ ∃ r, cl[mc.2.2.2.2]? = some r ∧ r.1 = mc.1.cls) ∨
      (∃ i, q.1 = .invokestatic i ∧ xm_lnk Tb Tx md.1.cls i mc.1 ∧ Cond.static mc.1 ∈ Tb ∧ (parseMethodDescriptor mc.1.desc).map (fun d => d.parameters.length) = some q.2.2 ∧ mc.2.2.2.2 = 99))
    (hst : q.2.2 ≤ st.length) (hcat : ((st.drop q.2.2).map fun v => v.category).sum ≤ 8) (hrv : xm_rcv mc.2.2.2.2 (st.take q.2.2).reverse σ = true) (hl1 : xm_ent mc.2.2.1 (st.take q.2.2).reverse = some l1) (hk : ∃ ee, τ.1 = σ.1 ++ ee) (hsn : xm_snd l0 h b Tb Tx cl fty cA D sc mc q.2.1 d 0 l1 [] σ τ r)
    (kk : ∀ (H1 : Heap) (locs1 : List Loc) (cells1 slots1 : Nat), va_P D cl (xm_w fty cA h b τ) H1 → va_S (xm_A h) s.heap H1 locs1 → cells1 + n0 = τ.1.length → slots1 + s0 = xm_sum τ.1 → W p l0 e R s m args below meth c H1 locs1 cells1 slots1 Q (F0 m (pc + 3) ls ((r.toList ++ st.drop q.2.2).map (xm_rel h b)))) :
    W p l0 e R s m args below meth c H locs cells slots Q (F0 m pc ls (st.map (xm_rel h b))) := by
  refine xm_size fun hz0 => ?_
  have hz := xm_size_eq hP hS hn0 hc hz0
  obtain ⟨hcl, hgood, htx, hmm⟩ := hok
  obtain ⟨hmk, -⟩ := hmm _ _ hq
  have hmo := hmk hq0
  have hM := xm_met (l0 := l0) (h := h) (b := b) (cl := cl) (fty := fty) (cA := cA) (D := D) (sc := sc) hmo hq0 hl1 hk hsn
  obtain ⟨m1, m2, m3, m4, m5, m6⟩ := hmo
  obtain ⟨ee, hee⟩ := hk
  have hlen : σ.1.length ≤ τ.1.length := by rw [hee, List.length_append]; omega
  have hsum : xm_sum σ.1 ≤ xm_sum τ.1 := by rw [hee, xm_sum_app]; omega
  have hf : cells + (τ.1.length - σ.1.length) ≤ R.cells ∧ slots + (xm_sum τ.1 - xm_sum σ.1) ≤ R.slots := ⟨by omega, by omega⟩
  have hG := xm_good hgood m1
  have hR : ({ frames := d + 1, cells := τ.1.length - σ.1.length, slots := xm_sum τ.1 - xm_sum σ.1, locals := 40 * d + 100 } : Room).frames + 1 ≤ R.frames ∧ 8 + (mc.2.2.1 + 11) + ({ frames := d + 1, cells := τ.1.length - σ.1.length, slots := xm_sum τ.1 - xm_sum σ.1, locals := 40 * d + 100 } : Room).locals ≤ R.locals := ⟨hfr, by dsimp only; omega⟩
  have hFix : CallFix p m c md.2.1 md.2.2.1 s args Tb md.1.cls := ⟨hx, hb, hml, hown, hts⟩
  have hPU : ∀ U : State, U.heap = H → s.WarmedH U.vm → xm_Pc fty cA h b D cl Tx σ (st.take q.2.2).reverse ((st.take q.2.2).reverse.map (xm_rel h b)).toArray U := fun U hU hW => ⟨rfl, by rw [hU]; exact hz, by rw [hU]; exact hP, va_K.moved hW.alike hK, fun w hw => xm_tx_warm (htx w hw) hW (hTx w hw)⟩
  have hroom : 2 * (F0 m pc ls (st.map (xm_rel h b))).monitorRoom + (((st.drop q.2.2).map (xm_rel h b)).map fun v => v.category).sum ≤ 8 := by
    refine lv_room ?_
    rw [xm_mapcat]
    exact hcat
  have hkk : ∀ (H1 : Heap) (locs1 : List Loc), va_P D cl (xm_w fty cA h b τ) H1 → va_S (xm_A h) s.heap H1 locs1 → W p l0 e R s m args below meth c H1 locs1 (cells + (τ.1.length - σ.1.length)) (slots + (xm_sum τ.1 - xm_sum σ.1)) Q (F0 m (pc + 3) ls ((r.map (xm_rel h b)).toList ++ (st.drop q.2.2).map (xm_rel h b))) := by
    intro H1 locs1 g1 g2
    have := kk H1 locs1 (cells + (τ.1.length - σ.1.length)) (slots + (xm_sum τ.1 - xm_sum σ.1)) g1 g2 (by omega) (by omega)
    rw [List.map_append] at this
    cases r with
    | none => exact this
    | some v => exact this
  generalize hvs : (st.take q.2.2).reverse = vs at hPU hM hrv hl1
  have hvl : vs.length = q.2.2 := by rw [← hvs, List.length_reverse, List.length_take]; omega
  have hstk := xm_take_drop (h := h) (b := b) vs hvs
  rcases hqk with ⟨i, h1, h2, h3, h4, h5, h6, rr, h7, h8⟩ | ⟨i, h1, h2, h3, h4, h5, h6, h7, rr, h8, h9⟩ | ⟨i, h1, h2, h3, h4, h5⟩
  · obtain ⟨id, as, n, rfl, hid⟩ := xm_rcv_ok h6 hrv
    rw [h1] at hd
    have hidl : id < σ.1.length := (List.getElem?_eq_some_iff.mp hid).1
    have hpar : (parseMethodDescriptor mc.1.desc).map (fun d => d.parameters.length) = some as.length := by
      cases hpd : parseMethodDescriptor mc.1.desc with
      | none => rw [hpd] at h5; cases h5
      | some sg =>
        rw [hpd] at h5
        have h5 : sg.parameters.length + 1 = q.2.2 := Option.some.inj h5
        have hvl : as.length + 1 = q.2.2 := hvl
        show some sg.parameters.length = some as.length
        rw [show sg.parameters.length = as.length by omega]
    have hpre : PreV s H mc.1.cls (h + id) (xm_Pc fty cA h b D cl Tx σ (.ref id :: as)) (as.map (xm_rel h b)) := by
      refine ⟨xm_blind htx, ?_, hPU⟩
      have hrv := va_recv hK hP h7 ((xm_w_at hidl).trans (congrArg some (xm_en_obj hid ((hcl.1 _ _ h7).2.2.2.1))))
      rw [h8] at hrv
      exact hrv
    have hst2 : st.map (xm_rel h b) = (as.map (xm_rel h b)).reverse ++ .ref (h + id) :: (st.drop q.2.2).map (xm_rel h b) := by
      rw [hstk, List.map_cons, List.reverse_cons, List.append_assoc]
      rfl
    rcases h2 with h2 | ⟨host, h2⟩
    · refine xm_call (va_runV hFix hM ⟨callB_of as.length hts hG rfl rfl rfl (hts _ m2) (hts _ h2) ⟨m3, m4, hpar⟩ hR, hts _ h3, hts _ h4⟩ hpre (g := F0 m pc ls (st.map (xm_rel h b))) rfl (by simp) hls hst2 hroom hd hf) hS hkk
    · refine xm_call (va_runVN hFix hM ⟨va_cnB as.length hts hG rfl rfl rfl (hTx _ h2) (hts _ m2) ⟨m3, m4, hpar⟩ hR, hts _ h3, hts _ h4⟩ hpre (g := F0 m pc ls (st.map (xm_rel h b))) rfl (by simp) hls hst2 hroom hd hf) hS hkk
  · obtain ⟨id, as, n, rfl, hid⟩ := xm_rcv_ok h7 hrv
    rw [h1] at hd
    have hpar : (parseMethodDescriptor mc.1.desc).map (fun d => d.parameters.length) = some as.length := by
      cases hpd : parseMethodDescriptor mc.1.desc with
      | none => rw [hpd] at h6; cases h6
      | some sg =>
        rw [hpd] at h6
        have h6 : sg.parameters.length + 1 = q.2.2 := Option.some.inj h6
        have hvl : as.length + 1 = q.2.2 := hvl
        show some sg.parameters.length = some as.length
        rw [show sg.parameters.length = as.length by omega]
    have hpre : PreS s H (xm_Pc fty cA h b D cl Tx σ (.ref id :: as)) (.ref (h + id) :: as.map (xm_rel h b)) := ⟨xm_blind htx, hPU⟩
    have hst2 : st.map (xm_rel h b) = (as.map (xm_rel h b)).reverse ++ .ref (h + id) :: (st.drop q.2.2).map (xm_rel h b) := by
      rw [hstk, List.map_cons, List.reverse_cons, List.append_assoc]
      rfl
    rw [h5] at hM hG
    rcases h2 with h2 | ⟨host, h2⟩
    · refine xm_call (va_runI hFix hM ⟨callB_of as.length hts hG rfl rfl rfl (hts _ m2) (hts _ h2) ⟨m3, m4, hpar⟩ hR, h4, hts _ h3⟩ hpre (g := F0 m pc ls (st.map (xm_rel h b))) rfl (by simp) hls hst2 hroom hd hf) hS hkk
    · refine xm_call (va_runIN hFix hM ⟨va_cnB as.length hts hG rfl rfl rfl (hTx _ h2) (hts _ m2) ⟨m3, m4, hpar⟩ hR, h4, hts _ h3⟩ hpre (g := F0 m pc ls (st.map (xm_rel h b))) rfl (by simp) hls hst2 hroom hd hf) hS hkk
  · rw [h1] at hd
    have hpre : PreS s H (xm_Pc fty cA h b D cl Tx σ vs) (vs.map (xm_rel h b)) := ⟨xm_blind htx, hPU⟩
    rw [← hvl] at h4
    rcases h2 with h2 | ⟨host, h2⟩
    · refine xm_call (va_runS hFix hM ⟨callB_of vs.length hts hG rfl rfl rfl (hts _ m2) (hts _ h2) ⟨m3, m4, h4⟩ hR, hts _ h3⟩ hpre (g := F0 m pc ls (st.map (xm_rel h b))) rfl (by simp) hls hstk hroom hd hf) hS hkk
    · refine xm_call (va_runSN hFix hM ⟨va_cnB vs.length hts hG rfl rfl rfl (hTx _ h2) (hts _ m2) ⟨m3, m4, h4⟩ hR, hts _ h3, trivial⟩ hpre (g := F0 m pc ls (st.map (xm_rel h b))) rfl (by simp) hls hstk hroom hd hf) hS hkk
set_option maxHeartbeats 4000000 in
/-- THE MACHINE DOES WHAT THE ABSTRACT MACHINE DOES -/
theorem xm_sound (hok : xm_ok Tb Tx cl fty mt bt) : ∀ (n d M : Nat) (is : List xI) (pc : Nat) (l : xL) (st : List Value) (σ τ : xH) (r : Option Value) (md : xM), mt M = some md → xm_bok Tb Tx cl mt md pc is → xm_ev mt bt fty sc n d M is pc l st σ = some (τ, r) →
    xm_snd l0 h b Tb Tx cl fty cA D sc md M d pc l st σ τ r := by
  intro n
  induction n with
  | zero => intro d M is pc l st σ τ r md _ _ he; cases he
  | succ n ih =>
    intro d M is pc l st σ τ r md hmd hbk he
    obtain ⟨hcl, hgood, htx, hmm⟩ := hok
    cases is with
    | nil =>
      simp only [xm_ev] at he
      split at he
      · cases he
      · rename_i is hbt
        exact ih d M is pc l st σ τ r md hmd ((hmm M md hmd).2 pc is hbt) he
    | cons q is =>
      obtain ⟨hi, hbk⟩ := hbk
      unfold xm_iok at hi
      intro p e R s m args below meth c H locs cells slots Q ls n0 s0 hx hb hml hown hnm hts hK hTx hP hS hX hl hn0 hc hs hrc hrs hfr hlo hret
      have hls : ls.size = md.2.2.1 := hl.2.1
      simp only [xm_ev] at he
      split at he
      · rename_i hkd
        rw [hkd] at hi
        split at he
        · cases he
        · rename_i l1 st1 hp
          refine xm_p_ok hx hb hown hts hi.2 hi.1 hl hp fun ls1 hl1 => ?_
          exact ih d M is _ l1 st1 σ τ r md hmd hbk he p e R s m args below meth c H locs cells slots Q ls1 n0 s0 hx hb hml hown hnm hts hK hTx hP hS hX hl1 hn0 hc hs hrc hrs hfr hlo hret
      · rename_i hkd
        rw [hkd] at hi
        split at he
        · cases he
        · rename_i st1 σ1 hp
          have hks := xm_h_ks hp
          refine xm_h_ok (sc := if M = 0 then sc else none) hx hb hown hts hcl (xm_lkh_mono hnm hi.2) hi.1 hK hP hS ?_ hp fun H1 locs1 g1 g2 => ?_
          · intro L xs hsc
            by_cases h0 : M = 0
            · rw [if_pos h0] at hsc
              exact hX h0 L xs hsc
            · rw [if_neg h0] at hsc
              cases hsc
          · exact ih d M is _ l st1 σ1 τ r md hmd hbk he p e R s m args below meth c H1 locs1 cells slots Q ls n0 s0 hx hb hml hown hnm hts hK hTx g1 g2 hX hl hn0 (by rw [hks]; exact hc) (by rw [hks]; exact hs) hrc hrs hfr hlo hret
      · rename_i hkd
        rw [hkd] at hi
        obtain ⟨len, i1, i2, i3⟩ := hi
        split at he
        · cases he
        · rename_i pc1 st1 hp
          refine xm_j_ok hx hb i1 i2 i3 hp ?_
          exact ih d M [] pc1 l st1 σ τ r md hmd trivial he p e R s m args below meth c H locs cells slots Q ls n0 s0 hx hb hml hown hnm hts hK hTx hP hS hX hl hn0 hc hs hrc hrs hfr hlo hret
      · rename_i hkd
        rw [hkd] at hi
        rw [hmd] at he
        dsimp only at he
        split at he
        · cases he
        · rename_i r1 hr1
          cases he
          exact hret H locs pc ls st q.1 cells slots hr1 hi hP hS hc hs
      · rename_i hkd
        rw [hkd] at hi
        split at he
        · cases he
        · rename_i st1 σ1 hp
          obtain ⟨ee, hee⟩ := xm_ev_ks he
          refine xm_nw_ok (n0 := n0) (s0 := s0) hx hb hown hts hcl hTx hi.2 hi.1 hK hP hS hn0 hc hs ?_ ?_ hp fun H1 cells1 slots1 g1 g2 g3 g4 => ?_
          · rw [hee, List.length_append] at hrc
            omega
          · rw [hee, xm_sum_app] at hrs
            omega
          · exact ih d M is _ l st1 σ1 τ r md hmd hbk he p e R s m args below meth c H1 locs cells1 slots1 Q ls n0 s0 hx hb hml hown hnm hts hK hTx g1 g2 hX hl hn0 g3 g4 hrc hrs hfr hlo hret
      · rename_i hkd
        rw [hkd] at hi
        obtain ⟨hd, hlkc⟩ := hi
        have hlkc2 := hlkc
        obtain ⟨k1, k2, -, -, -, k3⟩ := hlkc2
        have hlen3 : xm_len q.1 = 3 := by
          obtain ⟨ins, qa, qb⟩ := q
          dsimp only at hkd ⊢
          cases ins <;> first | rfl | (cases hkd)
        rw [hlen3] at hbk
        split at he
        · rename_i h1000
          obtain ⟨i, e1, e2, e3, e4⟩ := k1 h1000
          split at he
          · rename_i id r1
            split at he
            · rename_i hcat
              rw [e1] at hd
              refine W.objInit hx hb hown (hts _ e2) (hts _ e3) (hts _ e4) (g := F0 m pc ls (.ref (h + id) :: r1.map (xm_rel h b))) rfl (by rw [hml]; exact hls) rfl hd (by omega) ?_ ?_
              · show 2 * 0 + _ + 12 ≤ _
                rw [xm_mapcat]
                omega
              · exact ih d M is (pc + 3) l r1 σ τ r md hmd hbk he p e R s m args below meth c H locs cells slots Q ls n0 s0 hx hb hml hown hnm hts hK hTx hP hS hX hl hn0 hc hs hrc hrs hfr hlo hret
            · cases he
          · cases he
        · rename_i h1000
          split at he
          · rename_i h1001
            obtain ⟨i, e1, e2, e3, e4, e5⟩ := k2 h1001
            split at he
            · cases he
            · rename_i st1 σ1 hp
              have hks := xm_cp_ks hp
              rw [e1] at hd
              refine xm_cp_ok hx hb (by rw [hml]; exact hls.symm) hown hts e2 e3 e4 e5 hd hK hP hS (by omega) (by omega) hp fun H1 locs1 g1 g2 => ?_
              exact ih d M is _ l st1 σ1 τ r md hmd hbk he p e R s m args below meth c H1 locs1 cells slots Q ls n0 s0 hx hb hml hown hnm hts hK hTx g1 g2 hX hl hn0 (by rw [hks]; exact hc) (by rw [hks]; exact hs) hrc hrs hfr hlo hret
          · rename_i h1001
            split at he
            · rename_i h1002
              split at he
              · cases he
              · rename_i st1 hp
                obtain ⟨ee, hee⟩ := xm_ev_ks he
                refine xm_ma_ok hx hb (by rw [hml]; exact hls.symm) hown hts hlkc h1002 hd (by omega) (by omega) ?_ ?_ hp ?_
                · rw [hee, List.length_append] at hrc
                  omega
                · rw [hee, xm_sum_app] at hrs
                  omega
                · exact ih d M is (pc + 3) l st1 σ τ r md hmd hbk he p e R s m args below meth c H locs cells slots Q ls n0 s0 hx hb hml hown hnm hts hK hTx hP hS hX hl hn0 hc hs hrc hrs hfr hlo hret
            rename_i h1002
            split at he
            · rename_i hst
              split at he
              · rename_i d1 mc hmc
                obtain ⟨mc', hm1, hm2, hm3⟩ := k3 (by omega)
                obtain rfl : mc' = mc := Option.some.inj (hm1.symm.trans hmc)
                split at he
                · rename_i hrv
                  split at he
                  · cases he
                  · rename_i l1 hl1
                    split at he
                    · cases he
                    · rename_i σ1 r1 hev
                      have hk1 := xm_ev_ks hev
                      obtain ⟨ee, hee⟩ := xm_ev_ks he
                      have hsn := ih d1 q.2.1 [] 0 l1 [] σ σ1 r1 mc' hm1 trivial hev
                      refine xm_inv (n0 := n0) (s0 := s0) (d := d1) ⟨hcl, hgood, htx, hmm⟩ hx hb hml hls hown hts hK hTx hP hS hn0 hc hs ?_ ?_ hfr hlo hd hm1 hm2 hm3 hst.1 hst.2 hrv hl1 hk1 hsn fun H1 locs1 cells1 slots1 g1 g2 g3 g4 => ?_
                      · rw [hee, List.length_append] at hrc
                        omega
                      · rw [hee, xm_sum_app] at hrs
                        omega
                      · exact ih (d1 + 1) M is (pc + 3) l (r1.toList ++ st.drop q.2.2) σ1 τ r md hmd hbk he p e R s m args below meth c H1 locs1 cells1 slots1 Q ls n0 s0 hx hb hml hown hnm hts hK hTx g1 g2 hX hl hn0 g3 g4 hrc hrs hfr hlo hret
                · cases he
              · cases he
            · cases he
      · cases he
end XZ
