/-- a new cell: its kind and size -/
def xm_grow (σ : xH) (k n : Nat) : xH := (σ.1 ++ [(k, n)], xm_row σ.2.1 σ.1.length (fun _ => 0), xm_row σ.2.2.1 σ.1.length (fun _ => 0), xm_row σ.2.2.2 σ.1.length (fun _ => none))
def xm_nw (q : xI) (st : List Value) (σ : xH) : Option (List Value × xH) := match q.1 with
  | .new _ => some (.ref σ.1.length :: st, xm_grow σ q.2.1 q.2.2)
  | .newarray _ => match st with
    | .int n :: r => if 0 ≤ n ∧ n.toNatClampNeg ≤ 1000000 then some (.ref σ.1.length :: r, xm_grow σ q.2.1 n.toNatClampNeg) else none
    | _ => none
  | .anewarray _ => match st with
    | .int n :: r => if 0 ≤ n ∧ n.toNatClampNeg ≤ 1000000 then some (.ref σ.1.length :: r, xm_grow σ q.2.1 n.toNatClampNeg) else none
    | _ => none
  | _ => none
/-- the kind of an instruction: 0 plain, 1 load or store, 2 branch, 3 return, 4 new, 5 call, 6 none of them -/
def xm_kd : Instr → Nat
  | .getfield _ => 1
  | .putfield _ => 1
  | .arraylength => 1
  | .iaload => 1
  | .baload => 1
  | .laload => 1
  | .aaload => 1
  | .iastore => 1
  | .bastore => 1
  | .lastore => 1
  | .aastore => 1
  | .goto _ => 2
  | .ifCond _ _ => 2
  | .if_icmp _ _ => 2
  | .tableswitch _ _ _ _ => 2
  | .return_ => 3
  | .ireturn => 3
  | .lreturn => 3
  | .areturn => 3
  | .new _ => 4
  | .newarray _ => 4
  | .anewarray _ => 4
  | .invokevirtual _ => 5
  | .invokespecial _ => 5
  | .invokestatic _ => 5
  | _ => 0
def xm_sl (vs : List Value) : xL := vs.flatMap (fun v => if v.category = 2 then [some v, none] else [some v])
def xm_ent (n : Nat) (vs : List Value) : Option xL := if (xm_sl vs).length ≤ n then some (xm_sl vs ++ List.replicate (n - (xm_sl vs).length) none) else none
def xm_ret (ret : Option FieldType) (i : Instr) (st : List Value) : Option (Option Value) := match i with
  | .return_ => match ret, st with
    | none, [] => some none
    | _, _ => none
  | .ireturn => match ret, st with
    | some .int, [.int v] => some (some (.int v))
    | some .boolean, [.int v] => if v = 0 ∨ v = 1 then some (some (.int v)) else none
    | _, _ => none
  | .lreturn => match ret, st with
    | some .long, [.long v] => some (some (.long v))
    | _, _ => none
  | .areturn => match ret, st with
    | some (.object _), [.ref v] => some (some (.ref v))
    | some (.array _), [.ref v] => some (some (.ref v))
    | _, _ => none
  | _ => none
/-- a method: its name, bytes, locals, what it returns, the number of its class (99: static) -/
abbrev xM : Type := MethodName × ByteArray × Nat × Option FieldType × Nat
/-- System.arraycopy of ints, of longs -/
def xm_cp (st : List Value) (σ : xH) : Option (List Value × xH) := match st with
  | .int n :: .int dp :: .ref d :: .int sp :: .ref a :: r => match σ.1[a]?, σ.1[d]? with
    | some (ka, na), some (kd, nd) => if ka = 20 ∧ kd = 20 ∧ 0 ≤ n ∧ 0 ≤ dp ∧ 0 ≤ sp ∧ sp.toNatClampNeg + n.toNatClampNeg ≤ na ∧ dp.toNatClampNeg + n.toNatClampNeg ≤ nd ∧ (r.map fun v => v.category).sum ≤ 8 then
        some (r, σ.1, xm_row σ.2.1 d (va_cpy (σ.2.1 a) (σ.2.1 d) sp.toNatClampNeg dp.toNatClampNeg n.toNatClampNeg), σ.2.2.1, σ.2.2.2) else if ka = 23 ∧ kd = 23 ∧ 0 ≤ n ∧ 0 ≤ dp ∧ 0 ≤ sp ∧ sp.toNatClampNeg + n.toNatClampNeg ≤ na ∧ dp.toNatClampNeg + n.toNatClampNeg ≤ nd ∧ (r.map fun v => v.category).sum ≤ 8 then
        some (r, σ.1, σ.2.1, xm_row σ.2.2.1 d (va_cpy (σ.2.2.1 a) (σ.2.2.1 d) sp.toNatClampNeg dp.toNatClampNeg n.toNatClampNeg), σ.2.2.2) else none
    | _, _ => none
  | _ => none
/-- Math.min, Math.max of ints, Math.abs of a long -/
def xm_ma (k : Nat) (st : List Value) : Option (List Value) := if k = 1002 then (match st with
    | .int y :: .int x :: r => if (r.map fun v => v.category).sum ≤ 8 then some (.int (if y < x then y else x) :: r) else none
    | _ => none)
  else if k = 1003 then (match st with
    | .int y :: .int x :: r => if (r.map fun v => v.category).sum ≤ 8 then some (.int (if x < y then y else x) :: r) else none
    | _ => none)
  else (match st with
    | .long x :: r => if (r.map fun v => v.category).sum ≤ 8 then some (.long (if 0 < x then x else -x) :: r) else none
    | _ => none)
/-- may it be called: an instance method on an object of its class -/
def xm_rcv (cn : Nat) (vs : List Value) (σ : xH) : Bool := if cn = 99 then true else match vs with
  | .ref id :: _ => match σ.1[id]? with
    | some (k, _) => k == cn
    | none => false
  | _ => false
/-- the run: fuel, depth of calls left, method, instructions left of the block, place, locals, stack, heap; number 0 is the law; callees 1000: Object(), 1001: arraycopy, 1002 to 1004: Math -/
def xm_ev (mt : Nat → Option xM) (bt : Nat → Nat → Option (List xI)) (fty : Nat → Nat → FieldType) (sc : Option (Nat × (Nat → Int32))) : Nat → Nat → Nat → List xI → Nat → xL → List Value → xH → Option (xH × Option Value)
  | 0, _, _, _, _, _, _, _ => none
  | n + 1, d, M, [], pc, l, st, σ => match bt M pc with
    | none => none
    | some is => xm_ev mt bt fty sc n d M is pc l st σ
  | n + 1, d, M, q :: is, pc, l, st, σ => match xm_kd q.1 with
    | 0 => match xm_p q l st with
      | none => none
      | some (l1, st1) => xm_ev mt bt fty sc n d M is (pc + xm_len q.1) l1 st1 σ
    | 1 => match xm_h fty (if M = 0 then sc else none) q st σ with
      | none => none
      | some (st1, σ1) => xm_ev mt bt fty sc n d M is (pc + xm_len q.1) l st1 σ1
    | 2 => match xm_j q pc st with
      | none => none
      | some (pc1, st1) => xm_ev mt bt fty sc n d M [] pc1 l st1 σ
    | 3 => match mt M with
      | none => none
      | some md => match xm_ret md.2.2.2.1 q.1 st with
        | none => none
        | some r => some (σ, r)
    | 4 => match xm_nw q st σ with
      | none => none
      | some (st1, σ1) => xm_ev mt bt fty sc n d M is (pc + xm_len q.1) l st1 σ1
    | 5 => if q.2.1 = 1000 then (match st with
        | .ref _ :: r => if (r.map fun v => v.category).sum ≤ 8 then xm_ev mt bt fty sc n d M is (pc + 3) l r σ else none
        | _ => none)
      else if q.2.1 = 1001 then (match xm_cp st σ with
        | none => none
        | some (st1, σ1) => xm_ev mt bt fty sc n d M is (pc + 3) l st1 σ1)
      else if 1002 ≤ q.2.1 then (match xm_ma q.2.1 st with
        | none => none
        | some st1 => xm_ev mt bt fty sc n d M is (pc + 3) l st1 σ)
      else if q.2.2 ≤ st.length ∧ ((st.drop q.2.2).map fun v => v.category).sum ≤ 8 then (match d, mt q.2.1 with
        | d1 + 1, some md => if xm_rcv md.2.2.2.2 (st.take q.2.2).reverse σ = true then (match xm_ent md.2.2.1 (st.take q.2.2).reverse with
          | none => none
          | some l1 => match xm_ev mt bt fty sc n d1 q.2.1 [] 0 l1 [] σ with
            | none => none
            | some (σ1, r) => xm_ev mt bt fty sc n d M is (pc + 3) l (r.toList ++ st.drop q.2.2) σ1) else none
        | _, _ => none) else none
    | _ => none
/-- the heap only grows -/
theorem xm_h_ks {fty : Nat → Nat → FieldType} {sc : Option (Nat × (Nat → Int32))} {q : xI} {st st1 : List Value} {σ σ1 : xH} (h : xm_h fty sc q st σ = some (st1, σ1)) : σ1.1 = σ.1 := by
  unfold xm_h at h
  repeat' (split at h)
  all_goals first | (cases h; rfl) | cases h
theorem xm_nw_ks {q : xI} {st st1 : List Value} {σ σ1 : xH} (h : xm_nw q st σ = some (st1, σ1)) : ∃ e, σ1.1 = σ.1 ++ [e] := by
  unfold xm_nw at h
  repeat' (split at h)
  all_goals first | (cases h; exact ⟨_, rfl⟩) | cases h
theorem xm_cp_ks {st st1 : List Value} {σ σ1 : xH} (h : xm_cp st σ = some (st1, σ1)) : σ1.1 = σ.1 := by
  unfold xm_cp at h
  repeat' (split at h)
  all_goals first | (cases h; rfl) | cases h
theorem xm_ev_ks {mt : Nat → Option xM} {bt : Nat → Nat → Option (List xI)} {fty : Nat → Nat → FieldType} {sc : Option (Nat × (Nat → Int32))} : ∀ {n d M : Nat} {is : List xI} {pc : Nat} {l : xL} {st : List Value} {σ σ1 : xH} {r : Option Value}, xm_ev mt bt fty sc n d M is pc l st σ = some (σ1, r) → ∃ e, σ1.1 = σ.1 ++ e := by
  intro n
  induction n with
  | zero => intro d M is pc l st σ σ1 r h; cases h
  | succ n ih =>
    intro d M is pc l st σ σ1 r h
    cases is with
    | nil =>
      simp only [xm_ev] at h
      split at h
      · cases h
      · exact ih h
    | cons q is =>
      simp only [xm_ev] at h
      split at h
      · split at h
        · cases h
        · exact ih h
      · split at h
        · cases h
        · rename_i hh
          obtain ⟨e, he⟩ := ih h
          exact ⟨e, by rw [he, xm_h_ks hh]⟩
      · split at h
        · cases h
        · exact ih h
      · split at h
        · cases h
        · split at h
          · cases h
          · cases h
            exact ⟨[], (List.append_nil _).symm⟩
      · split at h
        · cases h
        · rename_i hh
          obtain ⟨e, he⟩ := ih h
          obtain ⟨e1, he1⟩ := xm_nw_ks hh
          exact ⟨[e1] ++ e, by rw [he, he1, List.append_assoc]⟩
      · split at h
        · split at h
          · split at h
            · exact ih h
            · cases h
          · cases h
        · split at h
          · split at h
            · cases h
            · rename_i hh
              obtain ⟨e, he⟩ := ih h
              exact ⟨e, by rw [he, xm_cp_ks hh]⟩
          · split at h
            · split at h
              · cases h
              · exact ih h
            · split at h
              · split at h
                · split at h
                  · split at h
                    · cases h
                    · split at h
                      · cases h
                      · rename_i hh
                        obtain ⟨e1, he1⟩ := ih hh
                        obtain ⟨e, he⟩ := ih h
                        exact ⟨e1 ++ e, by rw [he, he1, List.append_assoc]⟩
                  · cases h
                · cases h
              · cases h
      · cases h
