theorem xm_lkh_mono {Tb : List Cond} {cl : List vw_C} {own mn mn' : String} {q : xI} (hm : mn = "<init>" → mn' = "<init>") (h : xm_lkh Tb cl own mn q) : xm_lkh Tb cl own mn' q := by
  obtain ⟨ins, a, b⟩ := q
  cases ins with
  | putfield i =>
    obtain ⟨r, h1, h2, h3, h4⟩ := h
    exact ⟨r, h1, h2, h3, fun hf => ⟨hm (h4 hf).1, (h4 hf).2⟩⟩
  | getfield i => exact h
  | _ => trivial
section XC
variable {p : Program} {l0 : Launch} {e : Env} {R : Room} {s : State} {m : MethodId} {args : Array Value} {below : List Frame} {meth : Method} {c : Code} {H H0 : Heap} {locs : List Loc} {cells slots : Nat} {Q : State → Prop}
variable {cc : ByteArray} {pc : Nat} {ls : Array Slot} {h b : Nat} {Tb : List Cond} {own : String} {cl : List vw_C} {fty : Nat → Nat → FieldType} {cA : Nat → Nat} {D : va_G}
/-- behind a call -/
theorem xm_call {σ : xH} {r : Option Value} {mc ms : Nat} {st0 rest : List Value} {a : Array Value} (hr : va_Run p l0 e R s m args below meth c H locs cells slots mc ms (F0 m pc ls st0) rest (xm_Qc fty cA h b D cl σ r a) (xm_A h)) (hS : va_S (xm_A h) s.heap H locs)
    (kk : ∀ (H1 : Heap) (locs1 : List Loc), va_P D cl (xm_w fty cA h b σ) H1 → va_S (xm_A h) s.heap H1 locs1 → W p l0 e R s m args below meth c H1 locs1 (cells + mc) (slots + ms) Q (F0 m (pc + 3) ls ((r.map (xm_rel h b)).toList ++ rest))) :
    W p l0 e R s m args below meth c H locs cells slots Q (F0 m pc ls st0) := by
  intro T hT X
  obtain ⟨v, st₀, t, T', L, h0, X', hL, e1, e2, ⟨hv, hp, hz, hk⟩, st⟩ := hr T hT X
  cases hv
  rw [h0] at hz hk
  obtain ⟨t2, a1, b1⟩ := kk T'.heap (locs ++ L) (by rw [e1]; exact hp)
    ⟨Nat.le_trans hS.1 (by rw [e1]; exact hz), fun q h1 h2 => by rw [e1, hk q (Nat.lt_of_lt_of_le h1 hS.1) h2]; exact hS.2.1 q h1 h2, fun q hq => by
      rcases List.mem_append.mp hq with h | h
      · exact hS.2.2 q h
      · exact hL q h⟩ T' rfl X'
  exact ⟨t2, st t2 a1, b1⟩
theorem xm_blind {Tx : List Cond} {σ : xH} {vs : List Value} (hTx : ∀ w ∈ Tx, xm_tx w) : FrameBlind (xm_Pc fty cA h b D cl Tx σ vs) := fun a U g mk q => by
  obtain ⟨q0, q1, qP, qK, qX⟩ := q
  exact ⟨q0, q1, qP, va_K.moved (u := U) (U := U.calling g mk a) (Vm.Alike.refl U.vm) qK, fun w hw => xm_tx_same (s := U) (U := U.calling g mk a) (hTx w hw) rfl (qX w hw)⟩
theorem xm_cp_ok {σ τ : xH} {st st' : List Value} {i : Nat} (hx : p.tables.exec = Jvm.exec) (hb : c.code = cc) (hml : c.maxLocals = ls.size) (hown : s.vm.findClass own = some m.cls) (hts : ∀ w ∈ Tb, w.before args s = true)
    (l1 : Cond.methodLink own i arraycopyName ∈ Tb) (l2 : Cond.native arraycopyName ∈ Tb) (l3 : Cond.static arraycopyName ∈ Tb) (l4 : Cond.initialized "java/lang/System" ∈ Tb) (hd : decode cc pc = .ok (.invokestatic i, 3))
    (hK : va_K D cl (xm_tys cA) s) (hP : va_P D cl (xm_w fty cA h b σ) H) (hS : va_S (xm_A h) H0 H locs) (hf : 1 ≤ R.frames) (hlo : 100 ≤ R.locals) (hp : xm_cp st σ = some (st', τ))
    (kk : ∀ (H1 : Heap) (locs1 : List Loc), va_P D cl (xm_w fty cA h b τ) H1 → va_S (xm_A h) H0 H1 locs1 → W p l0 e R s m args below meth c H1 locs1 cells slots Q (F0 m (pc + 3) ls (st'.map (xm_rel h b)))) :
    W p l0 e R s m args below meth c H locs cells slots Q (F0 m pc ls (st.map (xm_rel h b))) := by
  match st, hp with
  | .int n :: .int dp :: .ref d :: .int sp :: .ref a :: r, hq =>
    simp only [xm_cp] at hq
    split at hq
    · rename_i ka na kd nd hka hkd
      split at hq
      · rename_i hc
        obtain ⟨rfl, rfl, c1, c2, c3, c4, c5, c6⟩ := hc
        cases hq
        have hida : a < σ.1.length := (List.getElem?_eq_some_iff.mp hka).1
        have hidd : d < σ.1.length := (List.getElem?_eq_some_iff.mp hkd).1
        have ha := (xm_w_at (fty := fty) (cA := cA) (h := h) (b := b) hida).trans (congrArg some (xm_en_i hka (by omega) (by omega)))
        have hd2 := (xm_w_at (fty := fty) (cA := cA) (h := h) (b := b) hidd).trans (congrArg some (xm_en_i hkd (by omega) (by omega)))
        have hcat : ((st'.map (xm_rel h b)).map fun v => v.category).sum = (st'.map fun v => v.category).sum := by
          rw [List.map_map]
          refine congrArg List.sum (List.map_congr_left fun v _ => xm_rel_cat h b v)
        refine va_copyi (rest := st'.map (xm_rel h b)) hx hb hml hown (hts _ l1) (hts _ l2) (hts _ l3) (hts _ l4) hK hP (xm_D fty cA h b σ) hS a d 0 0 ha hd2 rfl rfl rfl (fun q => absurd q (Int32.not_lt.mpr c3)) (fun q => absurd q (Int32.not_lt.mpr c2)) (fun q => absurd q (Int32.not_lt.mpr c1)) c4 c5 (fun _ _ => rfl) hf (by rw [hcat, show nativeFrameWords "java/lang/System" "arraycopy" 5 = 7 by decide +kernel]; omega) hd fun H1 locs1 g1 _ g3 => kk H1 locs1 ?_ g3
        rw [← xm_w_set (fty := fty) (cA := cA) (h := h) (b := b) (σ := σ) (τ := (σ.1, xm_row σ.2.1 d (va_cpy (σ.2.1 a) (σ.2.1 d) sp.toNatClampNeg dp.toNatClampNeg n.toNatClampNeg), σ.2.2.1, σ.2.2.2)) (id := d) rfl hidd (xm_en_i (n := nd) (by exact hkd) (by omega) (by omega)) (fun j hj => ⟨xm_row_ne hj, rfl, rfl⟩)]
        dsimp only
        rw [xm_row_self]
        exact g1
      · split at hq
        · rename_i hc
          obtain ⟨rfl, rfl, c1, c2, c3, c4, c5, c6⟩ := hc
          cases hq
          have hida : a < σ.1.length := (List.getElem?_eq_some_iff.mp hka).1
          have hidd : d < σ.1.length := (List.getElem?_eq_some_iff.mp hkd).1
          have ha := (xm_w_at (fty := fty) (cA := cA) (h := h) (b := b) hida).trans (congrArg some (xm_en_l hka))
          have hd2 := (xm_w_at (fty := fty) (cA := cA) (h := h) (b := b) hidd).trans (congrArg some (xm_en_l hkd))
          have hcat : ((st'.map (xm_rel h b)).map fun v => v.category).sum = (st'.map fun v => v.category).sum := by
            rw [List.map_map]
            refine congrArg List.sum (List.map_congr_left fun v _ => xm_rel_cat h b v)
          refine va_copyl (rest := st'.map (xm_rel h b)) hx hb hml hown (hts _ l1) (hts _ l2) (hts _ l3) (hts _ l4) hK hP (xm_D fty cA h b σ) hS a d 3 3 ha hd2 rfl rfl rfl (fun q => absurd q (Int32.not_lt.mpr c3)) (fun q => absurd q (Int32.not_lt.mpr c2)) (fun q => absurd q (Int32.not_lt.mpr c1)) c4 c5 (fun _ _ => rfl) hf (by rw [hcat, show nativeFrameWords "java/lang/System" "arraycopy" 5 = 7 by decide +kernel]; omega) hd fun H1 locs1 g1 _ g3 => kk H1 locs1 ?_ g3
          rw [← xm_w_set (fty := fty) (cA := cA) (h := h) (b := b) (σ := σ) (τ := (σ.1, σ.2.1, xm_row σ.2.2.1 d (va_cpy (σ.2.2.1 a) (σ.2.2.1 d) sp.toNatClampNeg dp.toNatClampNeg n.toNatClampNeg), σ.2.2.2)) (id := d) rfl hidd (xm_en_l (n := nd) (by exact hkd)) (fun j hj => ⟨rfl, xm_row_ne hj, rfl⟩)]
          dsimp only
          rw [xm_row_self]
          exact g1
        · cases hq
    · cases hq
theorem xm_ma_ok {q : xI} {mt : Nat → Option xM} {Tx : List Cond} {st st' : List Value} (hx : p.tables.exec = Jvm.exec) (hb : c.code = cc) (hml : c.maxLocals = ls.size) (hown : s.vm.findClass own = some m.cls) (hts : ∀ w ∈ Tb, w.before args s = true)
    (hlk : xm_lkc Tb Tx cl mt own q) (hq : 1002 ≤ q.2.1) (hd : decode cc pc = .ok (q.1, 3)) (hf : 1 ≤ R.frames) (hlo : 100 ≤ R.locals) (hc : cells ≤ R.cells) (hs : slots ≤ R.slots) (hp : xm_ma q.2.1 st = some st')
    (kk : W p l0 e R s m args below meth c H locs cells slots Q (F0 m (pc + 3) ls (st'.map (xm_rel h b)))) :
    W p l0 e R s m args below meth c H locs cells slots Q (F0 m pc ls (st.map (xm_rel h b))) := by
  obtain ⟨-, -, k2, k3, k4, -⟩ := hlk
  have hcat : ∀ r : List Value, ((r.map (xm_rel h b)).map fun v => v.category).sum = (r.map fun v => v.category).sum := fun r => by
    rw [List.map_map]
    exact congrArg List.sum (List.map_congr_left fun v _ => xm_rel_cat h b v)
  unfold xm_ma at hp
  split at hp
  · rename_i h2
    obtain ⟨i, e1, e2, e3, e4, e5⟩ := k2 h2
    rw [e1] at hd
    split at hp
    · rename_i y x r
      split at hp
      · rename_i hr
        cases hp
        exact va_mmin (rest := r.map (xm_rel h b)) hx hb hml hown (hts _ e2) (hts _ e3) (hts _ e4) (hts _ e5) hf (by rw [hcat]; omega) hc hs hd kk
      · cases hp
    · cases hp
  · rename_i h2
    split at hp
    · rename_i h3
      obtain ⟨i, e1, e2, e3, e4, e5⟩ := k3 h3
      rw [e1] at hd
      split at hp
      · rename_i y x r
        split at hp
        · rename_i hr
          cases hp
          exact va_mmax (rest := r.map (xm_rel h b)) hx hb hml hown (hts _ e2) (hts _ e3) (hts _ e4) (hts _ e5) hf (by rw [hcat]; omega) hc hs hd kk
        · cases hp
      · cases hp
    · rename_i h3
      obtain ⟨i, e1, e2, e3, e4, e5⟩ := k4 (by omega)
      rw [e1] at hd
      split at hp
      · rename_i x r
        split at hp
        · rename_i hr
          cases hp
          exact va_mabs_long (rest := r.map (xm_rel h b)) hx hb hml hown (hts _ e2) (hts _ e3) (hts _ e4) (hts _ e5) hf (by rw [hcat]; omega) hc hs hd kk
        · cases hp
      · cases hp
end XC
section XX
variable {l0 : Launch} {h b : Nat} {Tb Tx : List Cond} {cl : List vw_C} {fty : Nat → Nat → FieldType} {cA : Nat → Nat} {D : va_G} {mt : Nat → Option xM} {bt : Nat → Nat → Option (List xI)} {sc : Option (Nat × (Nat → Int32))}
/-- what a run of the abstract machine from some place says of the machine -/
def xm_snd (l0 : Launch) (h b : Nat) (Tb Tx : List Cond) (cl : List vw_C) (fty : Nat → Nat → FieldType) (cA : Nat → Nat) (D : va_G) (sc : Option (Nat × (Nat → Int32))) (md : xM) (M d pc : Nat) (l : xL) (st : List Value) (σ τ : xH) (r : Option Value) : Prop :=
  ∀ (p : Program) (e : Env) (R : Room) (s : State) (m : MethodId) (args : Array Value) (below : List Frame) (meth : Method) (c : Code) (H : Heap) (locs : List Loc) (cells slots : Nat) (Q : State → Prop) (ls : Array Slot) (n0 s0 : Nat),
    p.tables.exec = Jvm.exec → c.code = md.2.1 → c.maxLocals = md.2.2.1 → s.vm.findClass md.1.cls = some m.cls → (md.1.name = "<init>" → meth.name = "<init>") → (∀ w ∈ Tb, w.before args s = true) → va_K D cl (xm_tys cA) s → (∀ w ∈ Tx, va_Nw w s) → va_P D cl (xm_w fty cA h b σ) H → va_S (xm_A h) s.heap H locs →
    (M = 0 → ∀ L xs, sc = some (L, xs) → va_X b L xs s s.heap ∧ b < s.heap.size ∧ b < h) → xm_lh h b md.2.2.1 l ls → s.heap.size = h + n0 → cells + n0 = σ.1.length → slots + s0 = xm_sum σ.1 → τ.1.length ≤ R.cells + n0 → xm_sum τ.1 ≤ R.slots + s0 → d + 1 ≤ R.frames → 40 * d + 100 ≤ R.locals →
    (∀ (H1 : Heap) (locs1 : List Loc) (pc1 : Nat) (ls1 : Array Slot) (st1 : List Value) (i : Instr) (cells1 slots1 : Nat), xm_ret md.2.2.2.1 i st1 = some r → decode md.2.1 pc1 = .ok (i, 1) → va_P D cl (xm_w fty cA h b τ) H1 → va_S (xm_A h) s.heap H1 locs1 → cells1 + n0 = τ.1.length → slots1 + s0 = xm_sum τ.1 →
      W p l0 e R s m args below meth c H1 locs1 cells1 slots1 Q (F0 m pc1 ls1 (st1.map (xm_rel h b)))) →
    W p l0 e R s m args below meth c H locs cells slots Q (F0 m pc ls (st.map (xm_rel h b)))
/-- the return instructions, at the end of a contract -/
theorem xm_ret_ok {p : Program} {e : Env} {R : Room} {s : State} {m : MethodId} {args : Array Value} {below : List Frame} {meth : Method} {c : Code} {H : Heap} {locs : List Loc} {cells slots : Nat} {cc : ByteArray} {pc : Nat} {ls : Array Slot} {ret : Option FieldType} {i : Instr} {st : List Value} {σ : xH} {r : Option Value}
    (hx : p.tables.exec = Jvm.exec) (hb : c.code = cc) (hr : meth.sig.returnType = ret) (hlocks : meth.locks = false) (he : xm_ret ret i st = some r) (hd : decode cc pc = .ok (i, 1)) (hP : va_P D cl (xm_w fty cA h b σ) H) (hS : va_S (xm_A h) s.heap H locs) :
    W p l0 e R s m args below meth c H locs cells slots (MQ below (xm_Qc fty cA h b D cl σ r) args s cells slots (xm_A h)) (F0 m pc ls (st.map (xm_rel h b))) := by
  cases i with
  | return_ =>
    match ret, st, he with
    | none, [], he =>
      cases he
      exact W.vret hx hb hr (fun t ht hW => ⟨rfl, by rw [ht]; exact hP, hS.F ht⟩) hS.2.2 hd
  | ireturn =>
    match ret, st, he with
    | some .int, [.int v], he =>
      cases he
      exact W.iret hx hb hr (fun t ht hW => ⟨rfl, by rw [ht]; exact hP, hS.F ht⟩) hS.2.2 hd
    | some .boolean, [.int v], he =>
      simp only [xm_ret] at he
      split at he
      · rename_i hv
        cases he
        exact W.zret hx hb hr (by rcases hv with rfl | rfl <;> rfl) (fun t ht hW => ⟨rfl, by rw [ht]; exact hP, hS.F ht⟩) hS.2.2 hd
      · cases he
  | lreturn =>
    match ret, st, he with
    | some .long, [.long v], he =>
      cases he
      exact W.lret hx hb hr (fun t ht hW => ⟨rfl, by rw [ht]; exact hP, hS.F ht⟩) hS.2.2 hd
  | areturn =>
    match ret, st, he with
    | some (.object n), [.ref v], he =>
      cases he
      exact W.aret hx hb hr (Or.inl ⟨_, rfl⟩) (Or.inr ⟨_, rfl⟩) (fun t ht hW => ⟨rfl, by rw [ht]; exact hP, hS.F ht⟩) hS.2.2 hd
    | some (.array n), [.ref v], he =>
      cases he
      exact W.aret hx hb hr (Or.inr ⟨_, rfl⟩) (Or.inr ⟨_, rfl⟩) (fun t ht hW => ⟨rfl, by rw [ht]; exact hP, hS.F ht⟩) hS.2.2 hd
  | _ => cases he
/-- the contract of a method, from its run -/
theorem xm_met {md : xM} {M d : Nat} {l : xL} {vs : List Value} {σ τ : xH} {r : Option Value} (hm : xm_mok Tb md) (hM : M ≠ 0) (hl : xm_ent md.2.2.1 vs = some l) (hk : ∃ ee, τ.1 = σ.1 ++ ee) (hs : xm_snd l0 h b Tb Tx cl fty cA D sc md M d 0 l [] σ τ r) :
    Met l0 md.1 (Cond.code md.1 md.2.1 md.2.2.1 md.2.2.2.1 :: Tb) ({ frames := d + 1, cells := τ.1.length - σ.1.length, slots := xm_sum τ.1 - xm_sum σ.1, locals := 40 * d + 100 } : Room) (xm_Pc fty cA h b D cl Tx σ vs) (xm_Qc fty cA h b D cl τ r) (τ.1.length - σ.1.length) (xm_sum τ.1 - xm_sum σ.1) (xm_A h) := by
  obtain ⟨m1, m2, m3, m4, m5, m6⟩ := hm
  obtain ⟨ee, hee⟩ := hk
  have hlen : σ.1.length ≤ τ.1.length := by rw [hee, List.length_append]; omega
  have hsum : xm_sum σ.1 ≤ xm_sum τ.1 := by rw [hee, xm_sum_app]; omega
  refine Met.ofW (cc := md.2.1) (maxL := md.2.2.1) (ret := md.2.2.2.1) m6 rfl ?_
  intro p e s m args below meth c s₁ B hml hv
  obtain ⟨rfl, hsz, hP, hK, hX⟩ := hv
  have hts := atoms_spec (ws := Cond.code md.1 md.2.1 md.2.2.1 md.2.2.2.1 :: Tb) B.pre
  have hown : s.vm.findClass md.1.cls = some m.cls := findClass_of_methodNamed B.named
  have hnm : meth.name = md.1.name := (name_of_methodNamed B.named B.method).1
  rw [lg_entry_eq]
  refine hs p e _ s m _ below meth c s.heap [] 0 0 _ _ σ.1.length (xm_sum σ.1) B.exec B.bytes hml hown (fun h9 => hnm.trans h9) (fun w hw => hts w (List.mem_cons_of_mem _ hw)) hK hX hP va_S.rf (fun h0 => absurd h0 hM) (xm_ent_ok hl) hsz (Nat.zero_add _) (Nat.zero_add _) ?_ ?_ (Nat.le_refl _) (Nat.le_refl _) ?_
  · show _ ≤ (τ.1.length - σ.1.length) + σ.1.length
    omega
  · show _ ≤ (xm_sum τ.1 - xm_sum σ.1) + xm_sum σ.1
    omega
  · intro H1 locs1 pc1 ls1 st1 i cells1 slots1 g1 g2 g3 g4 g5 g6
    have e1 : cells1 = τ.1.length - σ.1.length := by omega
    have e2 : slots1 = xm_sum τ.1 - xm_sum σ.1 := by omega
    subst e1
    subst e2
    exact xm_ret_ok B.exec B.bytes B.returns B.notSynchronized g1 g2 g3 g4
theorem xm_good (hgood : ∀ w ∈ Tb, goodWord w = true) {w0 : Cond} (h0 : w0 ∈ Tb) : GoodIn Tb (w0 :: Tb) := fun w hw => by
  have h1 : w ∈ Tb := by
    rcases List.mem_cons.mp hw with rfl | h1
    · exact h0
    · exact h1
  exact ⟨h1, good_of_word (hgood w h1)⟩
theorem xm_mapcat (h b : Nat) (st : List Value) : ((st.map (xm_rel h b)).map fun v => v.category).sum = (st.map fun v => v.category).sum := by
  rw [List.map_map]
  exact congrArg List.sum (List.map_congr_left fun v _ => xm_rel_cat h b v)
end XX
