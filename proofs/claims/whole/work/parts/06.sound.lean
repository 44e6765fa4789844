def xm_sum (ks : List (Nat × Nat)) : Nat := (ks.map (fun k => k.2)).sum
theorem xm_sum_app (a e : List (Nat × Nat)) : xm_sum (a ++ e) = xm_sum a + xm_sum e := by
  unfold xm_sum
  rw [List.map_append, List.sum_append]
/-- words that a warmer table keeps, though they are not among the good ones -/
def xm_tx (w : Cond) : Prop := (∃ o i y host, w = .methodLinkNest o i y host) ∨ ∃ C, w = .arrayOver (.object C)
theorem xm_tx_warm {w : Cond} (hw : xm_tx w) {s U : State} (hW : s.WarmedH U.vm) (h : va_Nw w s) : va_Nw w U := by
  rcases hw with ⟨o, i, y, host, rfl⟩ | ⟨C, rfl⟩
  · exact va_Nw.warmM hW h
  · exact va_AO.moved hW.alike h
theorem xm_tx_same {w : Cond} (hw : xm_tx w) {s U : State} (hW : s.vm = U.vm) (h : va_Nw w s) : va_Nw w U := by
  rcases hw with ⟨o, i, y, host, rfl⟩ | ⟨C, rfl⟩
  · exact va_Nw.same rfl hW h
  · exact va_AO.moved (hW ▸ Vm.Alike.refl s.vm) h
def xm_lkn (Tb Tx : List Cond) (cl : List vw_C) (own : String) (q : xI) : Prop := match q.1 with
  | .new i => ∃ r, cl[q.2.1]? = some r ∧ r.2.2 = q.2.2 ∧ Cond.classLink own i r.1 ∈ Tb
  | .newarray t => Cond.arrayClass (newarray.typeOf t) ∈ Tb ∧ newarray.typeOf t = xm_ty q.2.1 ∧ 20 ≤ q.2.1 ∧ q.2.1 < 24
  | .anewarray i => 24 ≤ q.2.1 ∧ q.2.1 < 26 ∧ ∃ C, xm_ty q.2.1 = .object C ∧ Cond.classLink own i C ∈ Tb ∧ Cond.arrayOver (.object C) ∈ Tx
  | _ => False
def xm_lnk (Tb Tx : List Cond) (own : String) (i : Nat) (y : MethodName) : Prop := Cond.methodLink own i y ∈ Tb ∨ ∃ host, Cond.methodLinkNest own i y host ∈ Tx
def xm_lkc (Tb Tx : List Cond) (cl : List vw_C) (mt : Nat → Option xM) (own : String) (q : xI) : Prop :=
  (q.2.1 = 1000 → ∃ i, q.1 = .invokespecial i ∧ Cond.methodLink own i Lib.objectInit ∈ Tb ∧ Cond.instanceMethod Lib.objectInit ∈ Tb ∧ Cond.code Lib.objectInit ⟨#[0xb1]⟩ 1 none ∈ Tb) ∧
  (q.2.1 = 1001 → ∃ i, q.1 = .invokestatic i ∧ Cond.methodLink own i arraycopyName ∈ Tb ∧ Cond.native arraycopyName ∈ Tb ∧ Cond.static arraycopyName ∈ Tb ∧ Cond.initialized "java/lang/System" ∈ Tb) ∧
  (q.2.1 = 1002 → ∃ i, q.1 = .invokestatic i ∧ Cond.methodLink own i Lib.Math.min.name ∈ Tb ∧ Cond.static Lib.Math.min.name ∈ Tb ∧ Cond.initialized "java/lang/Math" ∈ Tb ∧ Cond.code Lib.Math.min.name Lib.Math.min.code 2 (some .int) ∈ Tb) ∧
  (q.2.1 = 1003 → ∃ i, q.1 = .invokestatic i ∧ Cond.methodLink own i Lib.Math.max.name ∈ Tb ∧ Cond.static Lib.Math.max.name ∈ Tb ∧ Cond.initialized "java/lang/Math" ∈ Tb ∧ Cond.code Lib.Math.max.name Lib.Math.max.code 2 (some .int) ∈ Tb) ∧
  (1003 < q.2.1 → ∃ i, q.1 = .invokestatic i ∧ Cond.methodLink own i Lib.MathLoose.abs_long.x ∈ Tb ∧ Cond.static Lib.MathLoose.abs_long.x ∈ Tb ∧ Cond.initialized "java/lang/Math" ∈ Tb ∧ Cond.code Lib.MathLoose.abs_long.x Lib.MathLoose.abs_long.code 2 (some .long) ∈ Tb) ∧
  (q.2.1 < 1000 → ∃ mc, mt q.2.1 = some mc ∧ q.2.1 ≠ 0 ∧ ((∃ i, q.1 = .invokevirtual i ∧ xm_lnk Tb Tx own i mc.1 ∧ Cond.instanceMethod mc.1 ∈ Tb ∧ Cond.selects mc.1.cls mc.1 mc.1 ∈ Tb ∧ (parseMethodDescriptor mc.1.desc).map (fun d => d.parameters.length + 1) = some q.2.2 ∧ mc.2.2.2.2 ≠ 99 ∧ ∃ r, cl[mc.2.2.2.2]? = some r ∧ r.1 = mc.1.cls) ∨
    (∃ i, q.1 = .invokespecial i ∧ xm_lnk Tb Tx own i mc.1 ∧ Cond.instanceMethod mc.1 ∈ Tb ∧ mc.1.name = "<init>" ∧ mc.2.2.2.1 = none ∧ (parseMethodDescriptor mc.1.desc).map (fun d => d.parameters.length + 1) = some q.2.2 ∧ mc.2.2.2.2 ≠ 99 ∧ ∃ r, cl[mc.2.2.2.2]? = some r ∧ r.1 = mc.1.cls) ∨
    (∃ i, q.1 = .invokestatic i ∧ xm_lnk Tb Tx own i mc.1 ∧ Cond.static mc.1 ∈ Tb ∧ (parseMethodDescriptor mc.1.desc).map (fun d => d.parameters.length) = some q.2.2 ∧ mc.2.2.2.2 = 99)))
def xm_iok (Tb Tx : List Cond) (cl : List vw_C) (mt : Nat → Option xM) (md : xM) (pc : Nat) (q : xI) : Prop := match xm_kd q.1 with
  | 0 => decode md.2.1 pc = .ok (q.1, xm_len q.1) ∧ xm_lkp Tb md.1.cls q
  | 1 => decode md.2.1 pc = .ok (q.1, xm_len q.1) ∧ xm_lkh Tb cl md.1.cls md.1.name q
  | 2 => ∃ len, decode md.2.1 pc = .ok (q.1, len) ∧ (len = 3 ∨ ∃ d lo hi os, q.1 = .tableswitch d lo hi os) ∧ (∀ o, q.1 = .goto o ∨ (∃ k, q.1 = .ifCond k o) ∨ (∃ k, q.1 = .if_icmp k o) → (pc : Int) + o = (q.2.1 : Int))
  | 3 => decode md.2.1 pc = .ok (q.1, 1)
  | 4 => decode md.2.1 pc = .ok (q.1, xm_len q.1) ∧ xm_lkn Tb Tx cl md.1.cls q
  | _ => decode md.2.1 pc = .ok (q.1, 3) ∧ xm_lkc Tb Tx cl mt md.1.cls q
def xm_bok (Tb Tx : List Cond) (cl : List vw_C) (mt : Nat → Option xM) (md : xM) : Nat → List xI → Prop
  | _, [] => True
  | pc, q :: is => xm_iok Tb Tx cl mt md pc q ∧ xm_bok Tb Tx cl mt md (pc + xm_len q.1) is
def xm_mok (Tb : List Cond) (md : xM) : Prop := Cond.code md.1 md.2.1 md.2.2.1 md.2.2.2.1 ∈ Tb ∧ Cond.initialized md.1.cls ∈ Tb ∧ md.1.cls ≠ "java/lang/invoke/MethodHandle" ∧ md.1.cls ≠ "java/lang/invoke/VarHandle" ∧ md.2.2.1 ≤ 20 ∧ plainName md.1.cls = true
/-- the program as a whole -/
def xm_ok (Tb Tx : List Cond) (cl : List vw_C) (fty : Nat → Nat → FieldType) (mt : Nat → Option xM) (bt : Nat → Nat → Option (List xI)) : Prop := xm_clok Tb cl fty ∧ (∀ w ∈ Tb, goodWord w = true) ∧ (∀ w ∈ Tx, xm_tx w) ∧ (∀ M md, mt M = some md → (M ≠ 0 → xm_mok Tb md) ∧ ∀ pc is, bt M pc = some is → xm_bok Tb Tx cl mt md pc is)
theorem xm_row_ne {α : Type} {f : Nat → Nat → α} {a : Nat} {r : Nat → α} {b : Nat} (hb : b ≠ a) : xm_row f a r b = f b := by
  unfold xm_row
  rw [if_neg hb]
theorem xm_row_self {α : Type} {f : Nat → Nat → α} {a : Nat} {r : Nat → α} : xm_row f a r a = r := by
  unfold xm_row
  rw [if_pos rfl]
theorem xm_w_push {fty : Nat → Nat → FieldType} {cA : Nat → Nat} {h b : Nat} {σ : xH} {k n : Nat} : xm_w fty cA h b (xm_grow σ k n) = xm_w fty cA h b σ ++ [xm_en fty cA h b (xm_grow σ k n) σ.1.length] := by
  refine List.ext_getElem? fun j => ?_
  have hl : (xm_grow σ k n).1.length = σ.1.length + 1 := by simp [xm_grow]
  have hw : (xm_w fty cA h b σ).length = σ.1.length := by simp [xm_w]
  by_cases hj : j < σ.1.length
  · rw [xm_w_at (by omega), List.getElem?_append_left (by omega), xm_w_at hj]
    refine congrArg some (xm_en_ext ?_ ?_ ?_ ?_)
    · show (σ.1 ++ [(k, n)])[j]? = _
      rw [List.getElem?_append_left hj]
    · exact xm_row_ne (by omega)
    · exact xm_row_ne (by omega)
    · exact xm_row_ne (by omega)
  · by_cases hj2 : j = σ.1.length
    · subst hj2
      rw [xm_w_at (by omega), List.getElem?_append_right (by omega), hw, Nat.sub_self]
      rfl
    · rw [List.getElem?_eq_none (by simp [xm_w, hl]; omega), List.getElem?_eq_none (by simp [hw]; omega)]
theorem xm_grow_at (σ : xH) (k n : Nat) : (xm_grow σ k n).1[σ.1.length]? = some (k, n) := by simp [xm_grow]
def xm_Qc (fty : Nat → Nat → FieldType) (cA : Nat → Nat) (h b : Nat) (D : va_G) (cl : List vw_C) (σ : xH) (r : Option Value) : Array Value → State → Outcome → State → Prop := fun _ st oc t => oc = .returned (r.map (xm_rel h b)) ∧ va_P D cl (xm_w fty cA h b σ) t.heap ∧ va_F (xm_A h) st t
def xm_Pc (fty : Nat → Nat → FieldType) (cA : Nat → Nat) (h b : Nat) (D : va_G) (cl : List vw_C) (Tx : List Cond) (σ : xH) (vs : List Value) : Array Value → State → Prop := va_Pc (vs.map (xm_rel h b)) (fun U => U.heap.size = h + σ.1.length ∧ va_P D cl (xm_w fty cA h b σ) U.heap ∧ va_K D cl (xm_tys cA) U ∧ ∀ w ∈ Tx, va_Nw w U)
theorem xm_sl_args {h b : Nat} (vs : List Value) (k : Nat) : ∀ pre : xL, pre.length = k → ∀ q ∈ xm_as h b (pre ++ xm_sl vs), q ∈ xm_as h b pre ∨ q ∈ lv_args k (vs.map (xm_rel h b)) := by
  induction vs generalizing k with
  | nil =>
    intro pre _ q hq
    left
    simpa [xm_sl] using hq
  | cons v vs ih =>
    intro pre hk q hq
    by_cases hc : v.category = 2
    · have e : pre ++ xm_sl (v :: vs) = (pre ++ [some v, none]) ++ xm_sl vs := by simp [xm_sl, hc]
      rw [e] at hq
      have hc' : (xm_rel h b v).category = 2 := by rw [xm_rel_cat]; exact hc
      rcases ih (k + 2) (pre ++ [some v, none]) (by simp [hk]) q hq with h1 | h1
      · obtain ⟨w, hw, he⟩ := xm_as_of h1
        obtain ⟨j, qv⟩ := q
        dsimp only at hw he
        subst he
        by_cases hj : j < pre.length
        · left
          rw [List.getElem?_append_left hj] at hw
          exact xm_as_mem hw
        · rw [List.getElem?_append_right (by omega)] at hw
          right
          by_cases hj0 : j - pre.length = 0
          · rw [hj0] at hw
            cases hw
            rw [List.map_cons]
            simp only [lv_args, hc', if_true]
            rw [show j = k by omega]
            exact List.mem_cons_self
          · by_cases hj1 : j - pre.length = 1
            · rw [hj1] at hw
              cases hw
            · rw [List.getElem?_eq_none (by simp; omega)] at hw
              cases hw
      · right
        rw [List.map_cons]
        simp only [lv_args, hc', if_true]
        exact List.mem_cons_of_mem _ h1
    · have e : pre ++ xm_sl (v :: vs) = (pre ++ [some v]) ++ xm_sl vs := by simp [xm_sl, hc]
      rw [e] at hq
      have hc' : ¬ (xm_rel h b v).category = 2 := by rw [xm_rel_cat]; exact hc
      rcases ih (k + 1) (pre ++ [some v]) (by simp [hk]) q hq with h1 | h1
      · obtain ⟨w, hw, he⟩ := xm_as_of h1
        obtain ⟨j, qv⟩ := q
        dsimp only at hw he
        subst he
        by_cases hj : j < pre.length
        · left
          rw [List.getElem?_append_left hj] at hw
          exact xm_as_mem hw
        · rw [List.getElem?_append_right (by omega)] at hw
          right
          by_cases hj0 : j - pre.length = 0
          · rw [hj0] at hw
            cases hw
            rw [List.map_cons]
            simp only [lv_args, hc', if_false]
            rw [show j = k by omega]
            exact List.mem_cons_self
          · rw [List.getElem?_eq_none (by simp; omega)] at hw
            cases hw
      · right
        rw [List.map_cons]
        simp only [lv_args, hc', if_false]
        exact List.mem_cons_of_mem _ h1
theorem xm_sl_len {h b : Nat} (vs : List Value) : (lg_sl (vs.map (xm_rel h b))).length = (xm_sl vs).length := by
  induction vs with
  | nil => rfl
  | cons v vs ih =>
    simp only [lg_sl, xm_sl, List.map_cons, List.flatMap_cons, List.length_append, xm_rel_cat] at ih ⊢
    rw [ih]
    by_cases hc : v.category = 2
    · simp [hc]
    · simp [hc]
theorem xm_ent_ok {h b n : Nat} {vs : List Value} {l : xL} (he : xm_ent n vs = some l) : xm_lh h b n l ((lg_sl (vs.map (xm_rel h b)) ++ List.replicate (n - (lg_sl (vs.map (xm_rel h b))).length) Slot.unset).toArray) := by
  unfold xm_ent at he
  split at he
  · rename_i hn
    cases he
    have hv := lv_entry (vs.map (xm_rel h b)) (n := n) (by rw [xm_sl_len]; exact hn)
    refine ⟨by simp; omega, hv.1, hv.2.1, fun q hq => hv.2.2 q ?_⟩
    obtain ⟨w, hw, he⟩ := xm_as_of hq
    have h1 : q.1 < (xm_sl vs).length := by
      by_cases hj : q.1 < (xm_sl vs).length
      · exact hj
      · rw [List.getElem?_append_right (by omega), List.getElem?_replicate] at hw
        split at hw <;> cases hw
    rw [List.getElem?_append_left h1] at hw
    obtain ⟨j, qv⟩ := q
    dsimp only at hw he
    subst he
    rcases xm_sl_args vs 0 [] rfl (j, xm_rel h b w) (by simpa using xm_as_mem (h := h) (b := b) hw) with h2 | h2
    · simp [xm_as] at h2
    · exact h2
  · cases he
section XS
variable {p : Program} {l0 : Launch} {e : Env} {R : Room} {s : State} {m : MethodId} {args : Array Value} {below : List Frame} {meth : Method} {c : Code} {H H0 : Heap} {locs : List Loc} {cells slots : Nat} {Q : State → Prop}
variable {cc : ByteArray} {pc : Nat} {ls : Array Slot} {h b : Nat} {Tb Tx : List Cond} {own : String} {cl : List vw_C} {fty : Nat → Nat → FieldType} {cA : Nat → Nat} {D : va_G}
theorem xm_size {g : JFrame} (k : H.size ≤ s.heap.size + cells → W p l0 e R s m args below meth c H locs cells slots Q g) : W p l0 e R s m args below meth c H locs cells slots Q g := fun T hT X => k (by rw [← hT]; exact X.heapSize) T hT X
theorem xm_size_eq {σ : xH} {n0 : Nat} (hP : va_P D cl (xm_w fty cA h b σ) H) (hS : va_S (xm_A h) s.heap H locs) (hn0 : s.heap.size = h + n0) (hc : cells + n0 = σ.1.length) (hz : H.size ≤ s.heap.size + cells) : H.size = h + σ.1.length := by
  have h1 := hS.1
  by_cases h0 : σ.1.length = 0
  · omega
  · have h2 := (hP (σ.1.length - 1) _ (xm_w_at (by omega))).lt
    have h3 : h + (σ.1.length - 1) < H.size := h2
    omega
/-- a new cell comes into the world -/
theorem xm_grown {σ : xH} {k n : Nat} {H1 : Heap} (hP : va_P D cl (xm_w fty cA h b σ) H) (hz : H.size = h + σ.1.length) (ho : ∀ q, q < H.size → H1[q]? = H[q]?) (hn : va_at D cl (xm_en fty cA h b (xm_grow σ k n) σ.1.length) H1) : va_P D cl (xm_w fty cA h b (xm_grow σ k n)) H1 := by
  rw [xm_w_push]
  refine (hP.kept fun j x hx => ho _ ((hP j x hx).lt)).app fun j x hx => ?_
  have hj : j < 1 := (List.getElem?_eq_some_iff.mp hx).1
  rw [show j = 0 by omega] at hx
  cases hx
  exact hn
theorem xm_tyat {k : Nat} (h1 : 20 ≤ k) (h2 : k < 26) : (xm_tys cA)[k - 20]? = some (cA k, xm_ty k) := by
  rcases (show k = 20 ∨ k = 21 ∨ k = 22 ∨ k = 23 ∨ k = 24 ∨ k = 25 by omega) with rfl | rfl | rfl | rfl | rfl | rfl <;> rfl
theorem xm_nw_ok {q : xI} {σ τ : xH} {st st' : List Value} {n0 s0 : Nat} (hx : p.tables.exec = Jvm.exec) (hb : c.code = cc) (hown : s.vm.findClass own = some m.cls) (hts : ∀ w ∈ Tb, w.before args s = true) (hcl : xm_clok Tb cl fty)
    (hTx : ∀ w ∈ Tx, va_Nw w s) (hlk : xm_lkn Tb Tx cl own q) (hd : decode cc pc = .ok (q.1, xm_len q.1)) (hK : va_K D cl (xm_tys cA) s) (hP : va_P D cl (xm_w fty cA h b σ) H) (hS : va_S (xm_A h) s.heap H locs) (hn0 : s.heap.size = h + n0) (hc : cells + n0 = σ.1.length) (hs : slots + s0 = xm_sum σ.1)
    (hrc : τ.1.length ≤ R.cells + n0) (hrs : xm_sum τ.1 ≤ R.slots + s0) (hp : xm_nw q st σ = some (st', τ))
    (kk : ∀ (H1 : Heap) (cells1 slots1 : Nat), va_P D cl (xm_w fty cA h b τ) H1 → va_S (xm_A h) s.heap H1 locs → cells1 + n0 = τ.1.length → slots1 + s0 = xm_sum τ.1 → W p l0 e R s m args below meth c H1 locs cells1 slots1 Q (F0 m (pc + xm_len q.1) ls (st'.map (xm_rel h b)))) :
    W p l0 e R s m args below meth c H locs cells slots Q (F0 m pc ls (st.map (xm_rel h b))) := by
  refine xm_size fun hz0 => ?_
  have hz := xm_size_eq hP hS hn0 hc hz0
  have hS' : ∀ H1 : Heap, H1.size = H.size + 1 → (∀ q, q < H.size → H1[q]? = H[q]?) → va_S (xm_A h) s.heap H1 locs := fun H1 z o => ⟨Nat.le_trans hS.1 (by omega), fun q h1 h2 => (o q (Nat.lt_of_lt_of_le h1 hS.1)).trans (hS.2.1 q h1 h2), hS.2.2⟩
  have hgl : ∀ k n, (xm_grow σ k n).1.length = σ.1.length + 1 := fun k n => by simp [xm_grow]
  have hgs : ∀ k n, xm_sum (xm_grow σ k n).1 = xm_sum σ.1 + n := fun k n => by
    show xm_sum (σ.1 ++ [(k, n)]) = _
    rw [xm_sum_app]
    simp [xm_sum]
  obtain ⟨ins, qa, qb⟩ := q
  cases ins with
  | new i =>
    cases hp
    obtain ⟨⟨rC, rT, rN⟩, r1, rfl, r3⟩ := hlk
    obtain ⟨c1, c2, c3, c4, c5, c6, c7⟩ := hcl.1 _ _ r1
    have hKn := hK.1 qa _ r1
    rw [hgl] at hrc
    rw [hgs] at hrs
    refine W.newcK hx hb hown (hts _ r3) (hts _ c5) (hts _ c6) (g := F0 m pc ls (st.map (xm_rel h b))) rfl hd (by omega) (by dsimp only at hrs ⊢; omega) hKn.2.1 rfl fun H1 kC hkC e1 z1 o1 => ?_
    have hk2 := kk H1 (cells + 1) (slots + rN) (xm_grown hP hz o1 ?_) (hS' H1 z1 o1) (by rw [hgl]; omega) (by rw [hgs]; dsimp only; omega)
    · rw [List.map_cons] at hk2
      rw [hz]
      exact hk2
    · rw [xm_en_obj (xm_grow_at σ qa _) c4]
      refine ⟨_, r1, ?_⟩
      have hb0 := u_born (fty qa) hts c1 hKn hkC (o := H.size) e1 c2
      rw [hz] at hb0
      refine hb0.to fun j hj => ?_
      have hj : j < rN := hj
      unfold vp_V
      rw [List.getD_eq_getElem?_getD, List.getElem?_map, List.getElem?_range hj]
      show _ = xm_rel h b (xm_fv fty (xm_grow σ qa rN) qa σ.1.length j)
      unfold xm_fv xm_grow
      dsimp only
      rw [xm_row_self, xm_row_self, xm_row_self]
      cases hf : fty qa j with
      | float => exact absurd hf (c7 j hj).1
      | double => exact absurd hf (c7 j hj).2
      | _ => rfl
  | newarray t =>
    obtain ⟨r1, r2, r3, r4⟩ := hlk
    dsimp only at r2 r3 r4
    match st, hp with
    | .int n :: r, hq =>
      simp only [xm_nw] at hq
      split at hq
      · rename_i hn
        cases hq
        rw [hgl] at hrc
        rw [hgs] at hrs
        have hcb : componentBytes (newarray.typeOf t) ≤ 8 := by cases t <;> decide
        refine va_newaK hx hb (hts _ r1) (g := F0 m pc ls (.int n :: r.map (xm_rel h b))) rfl hd rfl (fun q => absurd q (Int32.not_lt.mpr hn.1)) rfl (Nat.le_trans (Nat.mul_le_mul hn.2 hcb) (by decide)) (by omega) (by omega) rfl fun H1 cA1 e1 z1 o1 hAr hNm => ?_
        have hk2 := kk H1 (cells + 1) (slots + n.toNatClampNeg) (xm_grown hP hz o1 ?_) (hS' H1 z1 o1) (by rw [hgl]; omega) (by rw [hgs]; omega)
        · rw [List.map_cons] at hk2
          rw [hz]
          exact hk2
        · have hra := (hK.2 (qa - 20) _ (xm_tyat r3 (by omega))).2
          have hcA : cA1 = cA qa := by
            have h5 : s.vm.findClass ("[" ++ (xm_ty qa).toString) = some (cA qa) := by
              rcases (show qa = 20 ∨ qa = 21 ∨ qa = 22 ∨ qa = 23 by omega) with rfl | rfl | rfl | rfl <;> exact hra
            rw [r2, h5] at hNm
            exact (Option.some.inj hNm).symm
          subst hcA
          rw [r2, hz] at e1
          rcases (show qa = 20 ∨ qa = 21 ∨ qa = 22 ∨ qa = 23 by omega) with rfl | rfl | rfl | rfl
          · rw [xm_en_i (xm_grow_at σ 20 _) (by omega) (by omega)]
            show H1[h + σ.1.length]? = some (vp_cell _ (_, .inl (xm_row _ _ _ _)))
            rw [xm_row_self]
            exact e1
          · rw [xm_en_i (xm_grow_at σ 21 _) (by omega) (by omega)]
            show H1[h + σ.1.length]? = some (vp_cell _ (_, .inl (xm_row _ _ _ _)))
            rw [xm_row_self]
            exact e1
          · rw [xm_en_i (xm_grow_at σ 22 _) (by omega) (by omega)]
            show H1[h + σ.1.length]? = some (vp_cell _ (_, .inl (xm_row _ _ _ _)))
            rw [xm_row_self]
            exact e1
          · rw [xm_en_l (xm_grow_at σ 23 _)]
            show H1[h + σ.1.length]? = some (vp_cell _ (_, .inr (.inl (xm_row _ _ _ _))))
            rw [xm_row_self]
            exact e1
      · cases hq
  | anewarray i =>
    obtain ⟨r3, r4, C, r2, r1, r5⟩ := hlk
    dsimp only at r2 r3 r4
    match st, hp with
    | .int n :: r, hq =>
      simp only [xm_nw] at hq
      split at hq
      · rename_i hn
        cases hq
        rw [hgl] at hrc
        rw [hgs] at hrs
        refine W.anew hx hb hown (hts _ r1) (va_AO.use (hTx _ r5)) (g := F0 m pc ls (.int n :: r.map (xm_rel h b))) rfl hd rfl (fun q => absurd q (Int32.not_lt.mpr hn.1)) (by omega) (by omega) (by omega) fun cA1 kA comp f1 f2 f3 f4 => ?_
        generalize hH1 : H.push ({ cls := cA1, slots := Array.replicate n.toNatClampNeg .null, vm := .none } : Cell) = H1
        have z1 : H1.size = H.size + 1 := by rw [← hH1, Array.size_push]
        have e1 : H1[H.size]? = some (arrV cA1 n.toNatClampNeg (fun _ => .null)) := by rw [← hH1, Array.getElem?_push_size, ← arrV_new]
        have o1 : ∀ q : Nat, q < H.size → H1[q]? = H[q]? := fun q hq => by rw [← hH1, Array.getElem?_push, if_neg (Nat.ne_of_lt hq)]
        have hk2 := kk H1 (cells + 1) (slots + n.toNatClampNeg) (xm_grown hP hz o1 ?_) (hS' H1 z1 o1) (by rw [hgl]; omega) (by rw [hgs]; omega)
        · rw [List.map_cons] at hk2
          rw [hz]
          exact hk2
        · have hra := (hK.2 (qa - 20) _ (xm_tyat (by omega) r4)).2
          rw [r2] at hra
          obtain ⟨kA2, comp2, -, -, -, g4⟩ := hra
          have hcA : cA1 = cA qa := Option.some.inj (f1.symm.trans g4)
          subst hcA
          rw [hz] at e1
          rw [xm_en_q (xm_grow_at σ qa _) (by omega)]
          show H1[h + σ.1.length]? = some (vp_cell (cA qa) (n.toNatClampNeg, .inr (.inr (.inr (.inr (fun i => Option.map (fun a => h + a) (xm_row σ.2.2.2 σ.1.length (fun _ => none) σ.1.length i)))))))
          rw [vp_cell_q, xm_row_self]
          exact e1
      · cases hq
  | _ => cases hlk
end XS
