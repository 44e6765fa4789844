def xm_rel (h b : Nat) : Value → Value
  | .ref a => .ref (h + a)
  | .retAddr _ => .ref b
  | v => v
theorem xm_rel_cat (h b : Nat) (v : Value) : (xm_rel h b v).category = v.category := by cases v <;> rfl
def xm_as (h b : Nat) (l : xL) : List (Nat × Value) := (List.range l.length).filterMap (fun i => match l[i]? with
  | some (some v) => some (i, xm_rel h b v)
  | _ => none)
def xm_lh (h b nL : Nat) (l : xL) (ls : Array Slot) : Prop := l.length = nL ∧ lv_has ls nL (xm_as h b l)
theorem xm_as_mem {h b : Nat} {l : xL} {i : Nat} {v : Value} (hi : l[i]? = some (some v)) : (i, xm_rel h b v) ∈ xm_as h b l := by
  have h1 : i < l.length := (List.getElem?_eq_some_iff.mp hi).1
  exact List.mem_filterMap.mpr ⟨i, List.mem_range.mpr h1, by rw [hi]⟩
theorem xm_as_of {h b : Nat} {l : xL} {q : Nat × Value} (hq : q ∈ xm_as h b l) : ∃ v, l[q.1]? = some (some v) ∧ q.2 = xm_rel h b v := by
  obtain ⟨i, -, h2⟩ := List.mem_filterMap.mp hq
  cases hl : l[i]? with
  | none => rw [hl] at h2; cases h2
  | some o =>
    rw [hl] at h2
    cases o with
    | none => cases h2
    | some v => cases h2; exact ⟨v, hl, rfl⟩
theorem xm_lh.at {h b nL : Nat} {l : xL} {ls : Array Slot} (hl : xm_lh h b nL l ls) {i : Nat} {v : Value} (hi : l[i]? = some (some v)) : ls[i]? = some (.val (xm_rel h b v)) := hl.2.2.2 _ (xm_as_mem hi)
theorem xm_ld_some {l l' : xL} {i : Nat} {st st' : List Value} {c : Value → Bool} (h : xm_ld l i st c = some (l', st')) : l' = l ∧ ∃ v, l[i]? = some (some v) ∧ c v = true ∧ st' = v :: st := by
  unfold xm_ld at h
  split at h
  · rename_i v hv
    split at h
    · rename_i hc
      cases h
      exact ⟨rfl, v, hv, hc, rfl⟩
    · cases h
  · cases h
theorem xm_clr_len (l : xL) (i : Nat) : (xm_clr l i).length = l.length := by
  unfold xm_clr
  split
  · rfl
  · split
    · split
      · simp
      · rfl
    · rfl
theorem xm_clr_at {l : xL} {i j : Nat} {w : Value} (h : (xm_clr l i)[j]? = some (some w)) : l[j]? = some (some w) ∧ ¬ (j + 1 = i ∧ w.category = 2) := by
  unfold xm_clr at h
  split at h
  · exact ⟨h, fun q => by omega⟩
  · rename_i k
    split at h
    · rename_i u hu
      split at h
      · rename_i hc
        by_cases hj : j = k
        · subst hj
          rw [List.getElem?_set] at h
          split at h
          · split at h <;> cases h
          · rename_i hne; exact absurd rfl hne
        · rw [List.getElem?_set_ne (fun e => hj e.symm)] at h
          exact ⟨h, fun q => hj (by omega)⟩
      · rename_i hc
        refine ⟨h, fun q => ?_⟩
        have : j = k := by omega
        subst this
        rw [hu] at h
        cases h
        exact hc q.2
    · rename_i hu
      refine ⟨h, fun q => ?_⟩
      have : j = k := by omega
      subst this
      exact hu w h
theorem xm_st1_some {h b : Nat} {l l' : xL} {i : Nat} {v : Value} (hs : xm_st1 l i v = some l') : i < l.length ∧ l' = (xm_clr l i).set i (some v) := by
  unfold xm_st1 at hs
  split at hs
  · rename_i hi
    cases hs
    exact ⟨hi, rfl⟩
  · cases hs
theorem xm_st2_some {h b : Nat} {l l' : xL} {i : Nat} {v : Value} (hs : xm_st2 l i v = some l') : i + 1 < l.length ∧ l' = ((xm_clr l i).set i (some v)).set (i + 1) none := by
  unfold xm_st2 at hs
  split at hs
  · rename_i hi
    cases hs
    exact ⟨hi, rfl⟩
  · cases hs
theorem xm_lh.st1 {h b nL : Nat} {l l' : xL} {ls' : Array Slot} {i : Nat} {v : Value} (hl : l.length = nL) (hs : xm_st1 l i v = some l')
    (h2 : lv_has ls' nL ((i, xm_rel h b v) :: (xm_as h b l).filter (fun q => !(q.1 == i) && !(q.1 + 1 == i && q.2.category == 2)))) : xm_lh h b nL l' ls' := by
  obtain ⟨h3, rfl⟩ := xm_st1_some (h := h) (b := b) hs
  refine ⟨by rw [List.length_set, xm_clr_len]; exact hl, h2.1, h2.2.1, fun q hq => ?_⟩
  obtain ⟨w, hw, he⟩ := xm_as_of hq
  refine h2.2.2 q ?_
  obtain ⟨j, qv⟩ := q
  dsimp only at hw he
  subst he
  by_cases hj : j = i
  · subst hj
    rw [List.getElem?_set_self (by rw [xm_clr_len]; exact h3)] at hw
    cases hw
    exact List.mem_cons_self
  · rw [List.getElem?_set_ne (fun e => hj e.symm)] at hw
    obtain ⟨hw, h6⟩ := xm_clr_at hw
    refine List.mem_cons_of_mem _ (List.mem_filter.mpr ⟨xm_as_mem hw, ?_⟩)
    rw [← xm_rel_cat h b] at h6
    simp only [Bool.and_eq_true, Bool.not_eq_true', Bool.and_eq_false_iff, beq_eq_false_iff_ne, ne_eq]
    refine ⟨hj, ?_⟩
    by_cases h7 : j + 1 = i
    · exact Or.inr fun h8 => h6 ⟨h7, h8⟩
    · exact Or.inl h7
theorem xm_lh.st2 {h b nL : Nat} {l l' : xL} {ls' : Array Slot} {i : Nat} {v : Value} (hl : l.length = nL) (hs : xm_st2 l i v = some l')
    (h2 : lv_has ls' nL ((i, xm_rel h b v) :: (xm_as h b l).filter (fun q => !(q.1 == i) && (!(q.1 == i + 1) && !(q.1 + 1 == i && q.2.category == 2))))) : xm_lh h b nL l' ls' := by
  obtain ⟨h3, rfl⟩ := xm_st2_some (h := h) (b := b) hs
  refine ⟨by rw [List.length_set, List.length_set, xm_clr_len]; exact hl, h2.1, h2.2.1, fun q hq => ?_⟩
  obtain ⟨w, hw, he⟩ := xm_as_of hq
  refine h2.2.2 q ?_
  obtain ⟨j, qv⟩ := q
  dsimp only at hw he
  subst he
  by_cases hj1 : j = i + 1
  · subst hj1
    rw [List.getElem?_set_self (by rw [List.length_set, xm_clr_len]; exact h3)] at hw
    cases hw
  rw [List.getElem?_set_ne (fun e => hj1 e.symm)] at hw
  by_cases hj : j = i
  · subst hj
    rw [List.getElem?_set_self (by rw [xm_clr_len]; omega)] at hw
    cases hw
    exact List.mem_cons_self
  · rw [List.getElem?_set_ne (fun e => hj e.symm)] at hw
    obtain ⟨hw, h6⟩ := xm_clr_at hw
    refine List.mem_cons_of_mem _ (List.mem_filter.mpr ⟨xm_as_mem hw, ?_⟩)
    rw [← xm_rel_cat h b] at h6
    simp only [Bool.and_eq_true, Bool.not_eq_true', Bool.and_eq_false_iff, beq_eq_false_iff_ne, ne_eq]
    refine ⟨hj, hj1, ?_⟩
    by_cases h7 : j + 1 = i
    · exact Or.inr fun h8 => h6 ⟨h7, h8⟩
    · exact Or.inl h7
/-- what the tables must say for a plain instruction: its constant -/
def xm_lkp (Tb : List Cond) (own : String) (q : xI) : Prop := match q.1 with
  | .ldc i => Cond.constant own i (Int32.ofNat q.2.1) ∈ Tb
  | .ldc_w i => Cond.constant own i (Int32.ofNat q.2.1) ∈ Tb
  | .ldc2_w i => Cond.constantLong own i (Int64.ofNat q.2.1) ∈ Tb
  | _ => True
section XP
variable {p : Program} {l0 : Launch} {e : Env} {R : Room} {s : State} {m : MethodId} {args : Array Value} {below : List Frame} {meth : Method} {c : Code} {H : Heap} {locs : List Loc} {cells slots : Nat} {Q : State → Prop}
variable {cc : ByteArray} {pc : Nat} {ls : Array Slot} {h b nL : Nat} {Tb : List Cond} {own : String}
set_option maxHeartbeats 4000000 in
theorem xm_p_ok {q : xI} {l l' : xL} {st st' : List Value} (hx : p.tables.exec = Jvm.exec) (hb : c.code = cc) (hown : s.vm.findClass own = some m.cls) (hts : ∀ w ∈ Tb, w.before args s = true)
    (hlk : xm_lkp Tb own q) (hd : decode cc pc = .ok (q.1, xm_len q.1)) (hl : xm_lh h b nL l ls) (hp : xm_p q l st = some (l', st'))
    (kk : ∀ ls', xm_lh h b nL l' ls' → W p l0 e R s m args below meth c H locs cells slots Q (F0 m (pc + xm_len q.1) ls' (st'.map (xm_rel h b)))) :
    W p l0 e R s m args below meth c H locs cells slots Q (F0 m pc ls (st.map (xm_rel h b))) := by
  obtain ⟨ins, qa, qb⟩ := q
  cases ins with
  | iconst n => cases hp; exact lv_iconst hx hb hd rfl (kk _ hl)
  | bipush n => cases hp; exact lv_bipush hx hb hd rfl (kk _ hl)
  | sipush n => cases hp; exact lv_sipush hx hb hd rfl (kk _ hl)
  | lconst n => cases hp; exact lv_lconst hx hb hd rfl (kk _ hl)
  | ldc i => cases hp; exact lv_ldc hx hb hown (hts _ hlk) hd (kk _ hl)
  | ldc_w i => cases hp; exact lv_ldcw hx hb hown (hts _ hlk) hd (kk _ hl)
  | ldc2_w i => cases hp; exact lv_ldc2 hx hb hown (hts _ hlk) hd (kk _ hl)
  | iload_n i =>
    obtain ⟨rfl, v, h1, h2, rfl⟩ := xm_ld_some hp
    cases v with
    | int x => exact lv_iload_n hx hb hd rfl (hl.at h1) (kk _ hl)
    | _ => cases h2
  | iload i =>
    obtain ⟨rfl, v, h1, h2, rfl⟩ := xm_ld_some hp
    cases v with
    | int x => exact lv_iload hx hb hd (hl.at h1) (kk _ hl)
    | _ => cases h2
  | lload_n i =>
    obtain ⟨rfl, v, h1, h2, rfl⟩ := xm_ld_some hp
    cases v with
    | long x => exact lv_lload_n hx hb hd rfl (hl.at h1) (kk _ hl)
    | _ => cases h2
  | lload i =>
    obtain ⟨rfl, v, h1, h2, rfl⟩ := xm_ld_some hp
    cases v with
    | long x => exact lv_lload hx hb hd (hl.at h1) (kk _ hl)
    | _ => cases h2
  | aload_n i =>
    obtain ⟨rfl, v, h1, h2, rfl⟩ := xm_ld_some hp
    cases v with
    | ref x => exact lv_aload_n hx hb hd rfl (hl.at h1) (kk _ hl)
    | retAddr x => exact lv_aload_n hx hb hd rfl (hl.at h1) (kk _ hl)
    | _ => cases h2
  | aload i =>
    obtain ⟨rfl, v, h1, h2, rfl⟩ := xm_ld_some hp
    cases v with
    | ref x => exact lv_aload hx hb hd (hl.at h1) (kk _ hl)
    | retAddr x => exact lv_aload hx hb hd (hl.at h1) (kk _ hl)
    | _ => cases h2
  | istore_n i =>
    match st, hp with
    | .int x :: r, hp =>
      obtain ⟨l1, h1, h2⟩ := Option.map_eq_some_iff.mp hp
      cases h2
      have h3 := xm_st1_some (h := h) (b := b) h1
      exact lv_istore_n hx hb hd rfl hl.2 (hl.1 ▸ h3.1) rfl (fun ls' h4 => kk _ (xm_lh.st1 hl.1 h1 h4))
  | istore i =>
    match st, hp with
    | .int x :: r, hp =>
      obtain ⟨l1, h1, h2⟩ := Option.map_eq_some_iff.mp hp
      cases h2
      have h3 := xm_st1_some (h := h) (b := b) h1
      exact lv_istore hx hb hd hl.2 (hl.1 ▸ h3.1) rfl (fun ls' h4 => kk _ (xm_lh.st1 hl.1 h1 h4))
  | lstore_n i =>
    match st, hp with
    | .long x :: r, hp =>
      obtain ⟨l1, h1, h2⟩ := Option.map_eq_some_iff.mp hp
      cases h2
      have h3 := xm_st2_some (h := h) (b := b) h1
      exact lv_lstore_n hx hb hd rfl hl.2 (hl.1 ▸ h3.1) rfl (fun ls' h4 => kk _ (xm_lh.st2 hl.1 h1 h4))
  | lstore i =>
    match st, hp with
    | .long x :: r, hp =>
      obtain ⟨l1, h1, h2⟩ := Option.map_eq_some_iff.mp hp
      cases h2
      have h3 := xm_st2_some (h := h) (b := b) h1
      exact lv_lstore hx hb hd hl.2 (hl.1 ▸ h3.1) rfl (fun ls' h4 => kk _ (xm_lh.st2 hl.1 h1 h4))
  | astore_n i =>
    match st, hp with
    | .ref x :: r, hp =>
      obtain ⟨l1, h1, h2⟩ := Option.map_eq_some_iff.mp hp
      cases h2
      have h3 := xm_st1_some (h := h) (b := b) h1
      exact lv_astore_n hx hb hd rfl hl.2 (hl.1 ▸ h3.1) rfl (fun ls' h4 => kk _ (xm_lh.st1 hl.1 h1 h4))
  | astore i =>
    match st, hp with
    | .ref x :: r, hp =>
      obtain ⟨l1, h1, h2⟩ := Option.map_eq_some_iff.mp hp
      cases h2
      have h3 := xm_st1_some (h := h) (b := b) h1
      exact lv_astore hx hb hd hl.2 (hl.1 ▸ h3.1) rfl (fun ls' h4 => kk _ (xm_lh.st1 hl.1 h1 h4))
  | iinc i n =>
    simp only [xm_p] at hp
    split at hp
    · rename_i x hx2
      obtain ⟨l1, h1, h2⟩ := Option.map_eq_some_iff.mp hp
      cases h2
      have h3 := xm_st1_some (h := h) (b := b) h1
      obtain ⟨k, hk⟩ := List.getElem?_of_mem (xm_as_mem (h := h) (b := b) hx2)
      exact lv_iinc hx hb hd hl.2 hk rfl (hl.1 ▸ h3.1) rfl (fun ls' h4 => kk _ (xm_lh.st1 hl.1 h1 h4))
    · cases hp
  | iadd =>
    match st, hp with
    | .int y :: .int x :: r, hp => cases hp; exact lv_iadd hx hb hd (kk _ hl)
  | isub =>
    match st, hp with
    | .int y :: .int x :: r, hp => cases hp; exact lv_isub hx hb hd (kk _ hl)
  | imul =>
    match st, hp with
    | .int y :: .int x :: r, hp => cases hp; exact lv_imul hx hb hd (kk _ hl)
  | iand =>
    match st, hp with
    | .int y :: .int x :: r, hp => cases hp; exact lv_iand hx hb hd (kk _ hl)
  | ior =>
    match st, hp with
    | .int y :: .int x :: r, hp => cases hp; exact lv_ior hx hb hd (kk _ hl)
  | ixor =>
    match st, hp with
    | .int y :: .int x :: r, hp => cases hp; exact lv_ixor hx hb hd (kk _ hl)
  | ishl =>
    match st, hp with
    | .int y :: .int x :: r, hp => cases hp; exact lv_ishl hx hb hd (kk _ hl)
  | ishr =>
    match st, hp with
    | .int y :: .int x :: r, hp => cases hp; exact lv_ishr hx hb hd (kk _ hl)
  | iushr =>
    match st, hp with
    | .int y :: .int x :: r, hp => cases hp; exact lv_iushr hx hb hd rfl (kk _ hl)
  | idiv =>
    match st, hp with
    | .int y :: .int x :: r, hp =>
      simp only [xm_p, xm_d2] at hp
      split at hp
      · cases hp
      · rename_i hy
        cases hp
        exact lv_idiv hx hb hd hy (kk _ hl)
  | irem =>
    match st, hp with
    | .int y :: .int x :: r, hp =>
      simp only [xm_p, xm_d2] at hp
      split at hp
      · cases hp
      · rename_i hy
        cases hp
        exact lv_irem hx hb hd hy (kk _ hl)
  | ineg =>
    match st, hp with
    | .int x :: r, hp => cases hp; exact lv_ineg hx hb hd (kk _ hl)
  | ladd =>
    match st, hp with
    | .long y :: .long x :: r, hp => cases hp; exact lv_ladd hx hb hd (kk _ hl)
  | lsub =>
    match st, hp with
    | .long y :: .long x :: r, hp => cases hp; exact lv_lsub hx hb hd (kk _ hl)
  | lmul =>
    match st, hp with
    | .long y :: .long x :: r, hp => cases hp; exact lv_lmul hx hb hd (kk _ hl)
  | lor =>
    match st, hp with
    | .long y :: .long x :: r, hp => cases hp; exact lv_lor hx hb hd (kk _ hl)
  | ldiv =>
    match st, hp with
    | .long y :: .long x :: r, hp =>
      simp only [xm_p, xm_d2l] at hp
      split at hp
      · cases hp
      · rename_i hy
        cases hp
        exact lv_ldiv hx hb hd hy (kk _ hl)
  | lrem =>
    match st, hp with
    | .long y :: .long x :: r, hp =>
      simp only [xm_p, xm_d2l] at hp
      split at hp
      · cases hp
      · rename_i hy
        cases hp
        exact lv_lrem hx hb hd hy (kk _ hl)
  | lneg =>
    match st, hp with
    | .long x :: r, hp => cases hp; exact lv_lneg hx hb hd (kk _ hl)
  | lshl =>
    match st, hp with
    | .int y :: .long x :: r, hp => cases hp; exact lv_lshl hx hb hd rfl (kk _ hl)
  | lcmp =>
    match st, hp with
    | .long y :: .long x :: r, hp => cases hp; exact W.lcmp hx hb hd (kk _ hl)
  | i2l =>
    match st, hp with
    | .int x :: r, hp => cases hp; exact lv_i2l hx hb hd rfl (kk _ hl)
  | l2i =>
    match st, hp with
    | .long x :: r, hp => cases hp; exact lv_l2i hx hb hd rfl (kk _ hl)
  | i2b =>
    match st, hp with
    | .int x :: r, hp => cases hp; exact lv_i2b hx hb hd rfl (kk _ hl)
  | dup =>
    match st, hp with
    | .int x :: r, hp => cases hp; exact lv_dup hx hb hd rfl (kk _ hl)
    | .ref x :: r, hp => cases hp; exact lv_dup hx hb hd rfl (kk _ hl)
  | pop =>
    match st, hp with
    | .int x :: r, hp => cases hp; exact lv_pop hx hb hd rfl (kk _ hl)
    | .ref x :: r, hp => cases hp; exact lv_pop hx hb hd rfl (kk _ hl)
  | dup2 =>
    match st, hp with
    | .int x :: .ref y :: r, hp => cases hp; exact lv_dup2_11 hx hb hd rfl rfl (kk _ hl)
    | .long x :: r, hp => cases hp; exact lv_dup2_2 hx hb hd rfl (kk _ hl)
  | _ => cases hp
set_option maxHeartbeats 4000000 in
theorem xm_j_ok {q : xI} {st st' : List Value} {pc' len : Nat} (hx : p.tables.exec = Jvm.exec) (hb : c.code = cc) (hd : decode cc pc = .ok (q.1, len)) (h3 : len = 3 ∨ ∃ d lo hi os, q.1 = .tableswitch d lo hi os)
    (htg : ∀ o, q.1 = .goto o ∨ (∃ k, q.1 = .ifCond k o) ∨ (∃ k, q.1 = .if_icmp k o) → (pc : Int) + o = (q.2.1 : Int)) (hp : xm_j q pc st = some (pc', st'))
    (kk : W p l0 e R s m args below meth c H locs cells slots Q (F0 m pc' ls (st'.map (xm_rel h b)))) :
    W p l0 e R s m args below meth c H locs cells slots Q (F0 m pc ls (st.map (xm_rel h b))) := by
  obtain ⟨ins, qa, qb⟩ := q
  cases ins with
  | goto o =>
    cases hp
    rcases h3 with rfl | ⟨_, _, _, _, h3⟩
    · exact lv_goto hx hb hd (htg o (Or.inl rfl)) kk
    · cases h3
  | ifCond k o =>
    rcases h3 with rfl | ⟨_, _, _, _, h3⟩
    · have ht : (pc : Int) + o = (qa : Int) := htg o (Or.inr (Or.inl ⟨k, rfl⟩))
      cases k with
      | eq => match st, hp with
        | .int x :: r, hp => cases hp; exact lv_if_eq hx hb hd ht (fun hc => by rw [if_pos hc] at kk; exact kk) (fun hc => by rw [if_neg hc] at kk; exact kk)
      | ne => match st, hp with
        | .int x :: r, hp => cases hp; exact lv_if_ne hx hb hd ht (fun hc => by rw [if_neg hc] at kk; exact kk) (fun hc => by rw [if_pos hc] at kk; exact kk)
      | lt => match st, hp with
        | .int x :: r, hp => cases hp; exact lv_if_lt hx hb hd ht (fun hc => by rw [if_pos hc] at kk; exact kk) (fun hc => by rw [if_neg hc] at kk; exact kk)
      | ge => match st, hp with
        | .int x :: r, hp => cases hp; exact lv_if_ge hx hb hd ht (fun hc => by rw [if_pos hc] at kk; exact kk) (fun hc => by rw [if_neg hc] at kk; exact kk)
      | gt => match st, hp with
        | .int x :: r, hp => cases hp; exact lv_if_gt hx hb hd ht (fun hc => by rw [if_pos hc] at kk; exact kk) (fun hc => by rw [if_neg hc] at kk; exact kk)
      | le => match st, hp with
        | .int x :: r, hp => cases hp; exact lv_if_le hx hb hd ht (fun hc => by rw [if_pos hc] at kk; exact kk) (fun hc => by rw [if_neg hc] at kk; exact kk)
    · cases h3
  | if_icmp k o =>
    rcases h3 with rfl | ⟨_, _, _, _, h3⟩
    · have ht : (pc : Int) + o = (qa : Int) := htg o (Or.inr (Or.inr ⟨k, rfl⟩))
      cases k with
      | eq => match st, hp with
        | .int y :: .int x :: r, hp => cases hp; exact lv_icmp_eq hx hb hd ht (fun hc => by rw [if_pos hc] at kk; exact kk) (fun hc => by rw [if_neg hc] at kk; exact kk)
      | ne => match st, hp with
        | .int y :: .int x :: r, hp => cases hp; exact lv_icmp_ne hx hb hd ht (fun hc => by rw [if_neg hc] at kk; exact kk) (fun hc => by rw [if_pos hc] at kk; exact kk)
      | lt => match st, hp with
        | .int y :: .int x :: r, hp => cases hp; exact lv_icmp_lt hx hb hd ht (fun hc => by rw [if_pos hc] at kk; exact kk) (fun hc => by rw [if_neg hc] at kk; exact kk)
      | ge => match st, hp with
        | .int y :: .int x :: r, hp => cases hp; exact lv_icmp_ge hx hb hd ht (fun hc => by rw [if_pos hc] at kk; exact kk) (fun hc => by rw [if_neg hc] at kk; exact kk)
      | gt => match st, hp with
        | .int y :: .int x :: r, hp => cases hp; exact lv_icmp_gt hx hb hd ht (fun hc => by rw [if_pos hc] at kk; exact kk) (fun hc => by rw [if_neg hc] at kk; exact kk)
      | le => match st, hp with
        | .int y :: .int x :: r, hp => cases hp; exact lv_icmp_le hx hb hd ht (fun hc => by rw [if_pos hc] at kk; exact kk) (fun hc => by rw [if_neg hc] at kk; exact kk)
    · cases h3
  | tableswitch d lo hi os =>
    match st, hp with
    | .int x :: r, hp =>
      simp only [xm_j] at hp
      split at hp
      · rename_i hc
        split at hp
        · rename_i h0
          cases hp
          exact lv_tableOut hx hb hd hc (Int.toNat_of_nonneg h0).symm kk
        · cases hp
      · rename_i hc
        split at hp
        · rename_i o ho
          split at hp
          · rename_i h0
            cases hp
            exact lv_tableIn hx hb hd (fun q => hc (Or.inl q)) (fun q => hc (Or.inr q)) ho (Int.toNat_of_nonneg h0).symm kk
          · cases hp
        · cases hp
  | _ => cases hp
end XP
