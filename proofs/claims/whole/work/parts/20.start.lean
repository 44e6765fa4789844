/-! THE CLAIM OUT OF ONE WALK OF THE LAW'S BODY. Your part is whole_start (and what it stands on); all else here is the same for every law, but numbers. -/
def R_law : String := "ThreePlatesLaw"
def lw_P (b : Addr) (xs : List Int32) (args : Array Value) (s : State) : Prop := args = #[.ref b] ∧ s.IntsAt b xs ∧ xs.length ≤ 4096 ∧ (Jvm.Cond.and given_1 narrow_1).before args s = true
def lw_Q (_ : Array Value) (s : State) (o : Outcome) (t : State) : Prop := o = .returned (some (.int 1)) ∧ Framed s o t [] 600000 7302250
def lw_Z (below : List Frame) (a : Array Value) (s : State) : State → Prop := fun t => ∃ o, t.status = .running ∧ Ended t below o ∧ lw_Q a s o t
/-- the law's own end, with 1 on the stack, nothing written that was there before, its room as the claim has it -/
theorem lw_ret {p : Program} {l : Launch} {e : Env} {s : State} {m : MethodId} {below : List Frame} {meth : Method} {c : Code} {b : Nat} (hx : p.tables.exec = Jvm.exec) (hb : c.code = code) (hr : meth.sig.returnType = ret) (hlocks : meth.locks = false) {pc : Nat} {H : Heap} {ls : Array Slot} (hdg : decode code pc = .ok (.ireturn, 1)) : W p l e room_1 s m #[Value.ref b] below meth c H [] 600000 7302250 (lw_Z below #[Value.ref b] s) (F0 m pc ls [.int 1]) := by
  intro T hT X
  obtain ⟨fs, hret, hrun, hended, hW, hframe⟩ := X.leave (v := some (.int 1)) (hlocks := hlocks) (fun h => by rw [hr] at h; cases h)
  have hmeth' : T.vm.method? m = some meth := X.method'
  refine ⟨T.setFrames fs, ?_, .returned (some (.int 1)), hrun, hended, rfl, ⟨_, rfl⟩, hW, hframe⟩
  jvm_step X.here [X.here.top, hx, hb, hdg, hmeth', hr, ret, narrow_b1]
  (try refine ⟨rfl, ?_⟩); (try refine ⟨rfl, ?_⟩)
  first | (intro acts; rw [hret _ acts rfl rfl rfl]) | rw [hret _ _ rfl rfl rfl]
  exact Steps.refl _
/-- what holds at the law's entry: the machine, the code, the tables' words (any of lw_tbl by 'hts w (by decide +kernel)'), the script of L ints xs at the cell b, what the Statement gives of the start (any of its parts by flat_of_before) -/
def lw_At (p : Program) (s : State) (m : MethodId) (meth : Method) (c : Code) (b L : Nat) (xs : Nat → Int32) : Prop :=
  p.tables.exec = Jvm.exec ∧ c.code = code ∧ meth.sig.returnType = ret ∧ c.maxLocals = 4 ∧ s.vm.findClass R_law = some m.cls ∧ (∀ w ∈ lw_tbl, w.before #[Value.ref b] s = true) ∧ va_X b L xs s s.heap ∧ b < s.heap.size ∧ meth.locks = false ∧ (Jvm.Cond.and given_1 narrow_1).before #[Value.ref b] s = true
/-- the empty heap -/
def xm_0 : xH := ([], (fun _ _ => 0), (fun _ _ => 0), (fun _ _ => none))
/-- the law, as the abstract machine runs it -/
def xm_law (L : Nat) (xs : Nat → Int32) (n d : Nat) : Option (xH × Option Value) := xm_ev pg_mt pg_bt pg_fty (some (L, xs)) n d 0 [] 0 [some (.retAddr 0), none, none, none] [] xm_0
theorem xm_ret_law {i : Instr} {st : List Value} (h : xm_ret (some .boolean) i st = some (some (.int 1))) : i = .ireturn ∧ st = [.int 1] := by
  cases i with
  | ireturn =>
    match st, h with
    | [.int v], h =>
      simp only [xm_ret] at h
      split at h
      · have h1 := Option.some.inj (Option.some.inj h)
        exact ⟨rfl, by rw [h1]⟩
      · cases h
  | _ => cases h
/-- what is left to show: the abstract machine's run of the law, of every script, ends with 1 within the room -/
def xm_goal : Prop := ∀ (L : Nat) (xs : Nat → Int32), L ≤ 4096 → ∃ (n d : Nat) (τ : xH), d ≤ 2000 ∧ xm_law L xs n d = some (τ, some (.int 1)) ∧ τ.1.length ≤ 600000 ∧ xm_sum τ.1 ≤ 7302250
theorem xm_start (hg : xm_goal) {p : Program} {e : Env} {s : State} {m : MethodId} {below : List Frame} {meth : Method} {c : Code} (l : Launch) {b L : Nat} {xs : Nat → Int32} (hL : L ≤ 4096) (C0 : lw_At p s m meth c b L xs) : W p l e room_1 s m #[Value.ref b] below meth c s.heap [] 0 0 (lw_Z below #[Value.ref b] s) (entryFrame m ([Value.ref b] : List Value).toArray 4) := by
  obtain ⟨hx, hb, hr, hml, hown, hts, hX, hbl, hlocks, hgv⟩ := id C0
  obtain ⟨n, d, τ, hd, hev, ht1, ht2⟩ := hg L xs hL
  have hts2 : ∀ w ∈ pg_Tb, w.before #[Value.ref b] s = true := fun w hw => hts w (List.mem_filter.mp hw).1
  have hcl := pg_clok
  have hkn : ∀ k : Nat, ∃ x : ClassId × (Nat → Nat), ∀ q : vw_C, pg_cl[k]? = some q → u_Kn s q.1 q.2.1 q.2.2 x.1 x.2 := by
    intro k
    cases hk : pg_cl[k]? with
    | none => exact ⟨(0, fun _ => 0), fun q h => by cases h⟩
    | some q =>
      obtain ⟨c1, -, -, -, c5, -, -⟩ := hcl.1 k q hk
      obtain ⟨cC, iS, h1⟩ := u_known (C := q.1) (T := q.2.1) (N := q.2.2) (n := q.2.2) hts2 c1 (hts2 _ c5)
      exact ⟨(cC, iS), fun q2 h2 => by cases h2; exact h1⟩
  have hprim : ∀ ty : FieldType, (∀ C, ty ≠ .object C) → (Cond.arrayClass ty).before #[Value.ref b] s = true → ∃ a : ClassId, ArrOfT s a ty ∧ va_RA s a ty := by
    intro ty hty hw
    obtain ⟨cA, kA, comp, h1, h2, h3⟩ := Cond.arrayClass_spec hw
    refine ⟨cA, fun n z => ⟨fun k h => (by cases h), kA, h2, comp, h3⟩, ?_⟩
    cases ty with
    | object C => exact absurd rfl (hty C)
    | _ => exact h1
  have hobj : ∀ C : String, Cond.arrayOver (.object C) ∈ pg_Tx → ∃ a : ClassId, ArrOfT s a (.object C) ∧ va_RA s a (.object C) := by
    intro C hw
    obtain ⟨comp, cA, kA, h1, h2, h3, h4, h5⟩ := Cond.arrayOver_spec (hts _ (List.mem_filter.mp hw).1)
    exact ⟨cA, fun n z => ⟨fun k h => (by cases h), kA, h3, comp, h4⟩, kA, comp, h3, h4, h1, h5⟩
  have harr : ∀ k : Nat, ∃ a : ClassId, ArrOfT s a (xm_ty k) ∧ va_RA s a (xm_ty k) := by
    intro k
    match k with
    | 20 => exact hprim .int (fun C h => by cases h) (hts2 _ (pg_X_ok (by decide +kernel) rfl))
    | 21 => exact hprim .boolean (fun C h => by cases h) (hts2 _ (pg_X_ok (by decide +kernel) rfl))
    | 22 => exact hprim .byte (fun C h => by cases h) (hts2 _ (pg_X_ok (by decide +kernel) rfl))
    | 23 => exact hprim .long (fun C h => by cases h) (hts2 _ (pg_X_ok (by decide +kernel) rfl))
    | 24 => exact hobj _ (pg_Tb_Y (by decide +kernel))
    | 0 | 1 | 2 | 3 | 4 | 5 | 6 | 7 | 8 | 9 | 10 | 11 | 12 | 13 | 14 | 15 | 16 | 17 | 18 | 19 => exact hobj "ThreePlates$Round" (pg_Tb_Y (by decide +kernel))
    | k + 25 => exact hobj "ThreePlates$Round" (pg_Tb_Y (by decide +kernel))
  let D : va_G := (fun k => (Classical.choose (hkn k)).1, fun k => (Classical.choose (hkn k)).2)
  let cA : Nat → Nat := fun k => Classical.choose (harr k)
  have hK : va_K D pg_cl (xm_tys cA) s := by
    refine ⟨fun k q hq => Classical.choose_spec (hkn k) q hq, fun k q hq => ?_⟩
    have h1 : q ∈ xm_tys cA := List.mem_of_getElem? hq
    simp only [xm_tys, List.mem_cons, List.not_mem_nil, or_false] at h1
    rcases h1 with rfl | rfl | rfl | rfl | rfl | rfl
    · exact Classical.choose_spec (harr 20)
    · exact Classical.choose_spec (harr 21)
    · exact Classical.choose_spec (harr 22)
    · exact Classical.choose_spec (harr 23)
    · exact Classical.choose_spec (harr 24)
    · exact Classical.choose_spec (harr 25)
  have hP : va_P D pg_cl (xm_w pg_fty cA s.heap.size b xm_0) s.heap := fun k q h => by simp [xm_w, xm_0] at h
  have hTx : ∀ w ∈ pg_Tx, va_Nw w s := fun w hw => by
    have h1 := hts w (List.mem_filter.mp hw).1
    rcases pg_txok w hw with ⟨o, i, y, host, rfl⟩ | ⟨C, rfl⟩
    · exact va_Nw.of rfl h1
    · exact va_AO.of h1
  have hl : xm_lh s.heap.size b 4 [some (.retAddr 0), none, none, none] ((lg_sl [Value.ref b] ++ List.replicate (4 - (lg_sl [Value.ref b]).length) Slot.unset).toArray) := by
    have h1 := lv_entry ([.ref b]) (n := 4) (Nat.le_of_ble_eq_true rfl)
    refine ⟨rfl, h1.1, h1.2.1, fun q hq => h1.2.2 q ?_⟩
    have h2 : xm_as s.heap.size b [some (.retAddr 0), none, none, none] = [(0, .ref b)] := rfl
    rw [h2] at hq
    exact hq
  have hsd := xm_sound (l0 := l) (h := s.heap.size) (b := b) (cA := cA) (D := D) (sc := some (L, xs)) pg_ok n d 0 [] 0 [some (.retAddr 0), none, none, none] [] xm_0 τ (some (.int 1)) _ (pg_mt_md (n := 0) (by decide)) trivial hev
  rw [lg_entry_eq]
  refine hsd p e room_1 s m _ below meth c s.heap [] 0 0 _ _ 0 0 hx hb hml hown ?_ hts2 hK hTx hP va_S.rf ?_ hl rfl rfl rfl ?_ ?_ ?_ ?_ ?_
  · intro h9
    exact absurd h9 (by decide +kernel)
  · intro _ L1 xs1 h1
    cases h1
    exact ⟨hX, hbl, hbl⟩
  · exact ht1
  · exact ht2
  · show d + 1 ≤ 2048
    omega
  · show 40 * d + 100 ≤ 84000
    omega
  · intro H1 locs1 pc1 ls1 st1 i cells1 slots1 g1 g2 g3 g4 g5 g6
    obtain ⟨rfl, rfl⟩ := xm_ret_law g1
    refine va_forget (fun q hq => g4.2.2 q hq) ?_
    refine W.widen (k := 600000) (n := 7302250) (by omega) (by omega) ?_
    exact lw_ret hx hb hr hlocks g2
