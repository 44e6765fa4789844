/-- a guard -/
def ifg {α : Type} (c : Prop) [Decidable c] (a : Option α) : Option α := if c then a else none
theorem ifg_some {α : Type} {c : Prop} {dc : Decidable c} {a : Option α} {r : α} (h : @ifg α c dc a = some r) : c ∧ a = some r := by
  unfold ifg at h
  split at h
  · rename_i hc
    exact ⟨hc, h⟩
  · cases h
theorem ifg_pos {α : Type} {c : Prop} {dc : Decidable c} {a : Option α} (h : c) : @ifg α c dc a = a := by
  unfold ifg
  rw [if_pos h]
def irm (x y : Int32) : Int32 := x - x / y * y
def lrm (x y : Int64) : Int64 := x - x / y * y
/-- the class of the object that field k of class c holds -/
def hk_fc (c k : Nat) : Nat := (([[99, 99, 99, 99, 99, 99], [7, 4, 3, 99, 99, 99], [99, 99, 99], [7, 5, 99, 99, 99, 99, 99, 99], [99, 99], [99, 99, 99, 99, 99, 99, 99, 99, 99, 99, 99, 99], [99, 99, 99, 99, 99, 99, 99], [99, 99, 99, 99, 99, 99, 99, 99, 99], [99, 99, 99, 99, 99, 99, 99, 99, 99, 99, 99, 99], [7, 4, 0, 3, 99, 99, 99, 99, 99, 99, 99, 99, 99, 99, 99], [7, 0, 3, 99, 99, 99, 99, 99, 99, 99, 99, 99, 99, 99, 99, 99, 99], [8, 7, 7, 4, 4, 0, 99, 99, 3, 9, 10, 1, 2], [99, 99, 99, 99, 99, 99, 99, 99, 99, 99, 99, 99, 99, 99, 99, 99, 99, 99, 99, 99, 99, 99, 99, 99, 99, 99, 99, 99, 99, 99, 99, 99, 99, 99, 99, 99, 99, 99, 99, 99, 99, 99, 99, 99, 99, 99, 99, 99, 99, 99, 99, 99, 99, 99, 99, 99, 99, 99, 99, 99, 99, 99, 99, 99, 99, 99, 99, 99, 99, 99, 99, 99, 99, 99, 99]] : List (List Nat)).getD c []).getD k 99
theorem hk_rty_all : ∀ id, id < 146 → ∀ k, k < 76 → (match hk_T id k, hk_ks[id]? with
  | some a, some (c, _) => decide (20 ≤ c) || hk_fc c k == 99 || oK a (hk_fc c k)
  | _, _ => true) = true := by decide +kernel
theorem hk_R_at {id k : Nat} (h1 : id < 146) (h2 : k < 76) : hk_R id k = hk_T id k := by
  rw [hk_R_eq]
  exact hk_s2_R id h1 k h2
theorem hk_ks_len : hk_ks.length = 146 := by decide +kernel
theorem hk_id {id : Nat} {x : Nat × Nat} (h : hk_ks[id]? = some x) : id < 146 := hk_ks_len ▸ (List.getElem?_eq_some_iff.mp h).1
theorem hk_nf_le {c : Nat} : hk_nf c ≤ 75 := by
  by_cases h : c < 13
  · have : ∀ c, c < 13 → hk_nf c ≤ 75 := by decide +kernel
    exact this c h
  · unfold hk_nf
    rw [List.getD_eq_getElem?_getD, List.getElem?_eq_none (by simp; omega)]
    exact Nat.zero_le _
theorem hk_rty {id c k a c' : Nat} (h1 : oK id c = true) (h2 : hk_R id k = some a) (h3 : hk_fc c k = c') (h4 : k < 76 ∧ c' < 13 ∧ c < 20) : oK a c' = true := by
  have e1 := oK_at h1
  have h5 := hk_rty_all id (hk_id e1) k h4.1
  rw [← hk_R_at (hk_id e1) h4.1, h2, e1] at h5
  simp only [Bool.or_eq_true, decide_eq_true_eq, beq_iff_eq] at h5
  rw [h3] at h5
  rcases h5 with (h5 | h5) | h5
  · omega
  · omega
  · exact h5
theorem hk_isz {c k : Nat} {x : Int32} (h : x = 0 ∨ x = 1) (hf : pg_fty c k = .boolean) : xm_isI pg_fty c k x = true := by
  unfold xm_isI
  rw [hf]
  rcases h with rfl | rfl <;> rfl
theorem hk_retz {ret : Option FieldType} {v : Int32} (h : v = 0 ∨ v = 1) (hr : ret = some .boolean) : xm_ret ret .ireturn [.int v] = some (some (.int v)) := by
  subst hr
  simp only [xm_ret]
  rw [if_pos h]
theorem hk_rcv {id c : Nat} {as : List Value} {s : xS} (h : oK id c = true) : xm_rcv c (.ref id :: as) (hk_of s) = true := by
  unfold xm_rcv
  split
  · rfl
  · show (match hk_ks[id]? with | some (k, _) => k == c | none => false) = true
    rw [oK_at h]
    simp
section RV
variable {sc : Option (Nat × (Nat → Int32))} {d M : Nat} {is : List xI} {pc : Nat} {l : xL} {st : List Value} {σ : xH} {o : xH × Option Value}
theorem E_p1 {q : xI} {l' : xL} {st' : List Value} (hk : xm_kd q.1 = 0) (hp : xm_p q l st = some (l', st')) (h : Ev sc d M is (pc + xm_len q.1) l' st' σ o) : Ev sc d M (q :: is) pc l st σ o := by
  obtain ⟨n, h⟩ := h
  exact ⟨n + 1, by simp only [xm_ev, hk, hp]; exact h⟩
theorem E_idiv {u1 u2 : Nat} {x y : Int32} (hz : ¬ y = 0) (h : Ev sc d M is (pc + 1) l (.int (x / y) :: st) σ o) : Ev sc d M ((.idiv, u1, u2) :: is) pc l (.int y :: .int x :: st) σ o := E_p1 rfl (by simp only [xm_p, xm_d2]; rw [if_neg hz]) h
theorem E_irem {u1 u2 : Nat} {x y : Int32} (hz : ¬ y = 0) (h : Ev sc d M is (pc + 1) l (.int (irm x y) :: st) σ o) : Ev sc d M ((.irem, u1, u2) :: is) pc l (.int y :: .int x :: st) σ o := E_p1 rfl (by simp only [xm_p, xm_d2]; rw [if_neg hz]; rfl) h
theorem E_ldiv {u1 u2 : Nat} {x y : Int64} (hz : ¬ y = 0) (h : Ev sc d M is (pc + 1) l (.long (x / y) :: st) σ o) : Ev sc d M ((.ldiv, u1, u2) :: is) pc l (.long y :: .long x :: st) σ o := E_p1 rfl (by simp only [xm_p, xm_d2l]; rw [if_neg hz]) h
theorem E_lrem {u1 u2 : Nat} {x y : Int64} (hz : ¬ y = 0) (h : Ev sc d M is (pc + 1) l (.long (lrm x y) :: st) σ o) : Ev sc d M ((.lrem, u1, u2) :: is) pc l (.long y :: .long x :: st) σ o := E_p1 rfl (by simp only [xm_p, xm_d2l]; rw [if_neg hz]; rfl) h
theorem E_callV {q : xI} {d1 : Nat} {vs rest : List Value} {σ1 : xH} (hk : xm_kd q.1 = 5) (h9 : q.2.1 < 1000) (hst : st = vs.reverse ++ rest) (hb : q.2.2 = vs.length) (hcat : (rest.map fun v => v.category).sum ≤ 8) (hc : Cl sc d1 q.2.1 vs σ (σ1, none)) (hd : d1 < d) (h : Ev sc d M is (pc + 3) l rest σ1 o) : Ev sc d M (q :: is) pc l st σ o := E_call hk h9 hst hb hcat hc hd h
theorem E_callI {q : xI} {d1 : Nat} {vs rest : List Value} {σ1 : xH} {x : Int32} (hk : xm_kd q.1 = 5) (h9 : q.2.1 < 1000) (hst : st = vs.reverse ++ rest) (hb : q.2.2 = vs.length) (hcat : (rest.map fun v => v.category).sum ≤ 8) (hc : Cl sc d1 q.2.1 vs σ (σ1, some (.int x))) (hd : d1 < d) (h : Ev sc d M is (pc + 3) l (.int x :: rest) σ1 o) : Ev sc d M (q :: is) pc l st σ o := E_call hk h9 hst hb hcat hc hd h
theorem E_callL {q : xI} {d1 : Nat} {vs rest : List Value} {σ1 : xH} {x : Int64} (hk : xm_kd q.1 = 5) (h9 : q.2.1 < 1000) (hst : st = vs.reverse ++ rest) (hb : q.2.2 = vs.length) (hcat : (rest.map fun v => v.category).sum ≤ 8) (hc : Cl sc d1 q.2.1 vs σ (σ1, some (.long x))) (hd : d1 < d) (h : Ev sc d M is (pc + 3) l (.long x :: rest) σ1 o) : Ev sc d M (q :: is) pc l st σ o := E_call hk h9 hst hb hcat hc hd h
theorem E_callR {q : xI} {d1 : Nat} {vs rest : List Value} {σ1 : xH} {x : Nat} (hk : xm_kd q.1 = 5) (h9 : q.2.1 < 1000) (hst : st = vs.reverse ++ rest) (hb : q.2.2 = vs.length) (hcat : (rest.map fun v => v.category).sum ≤ 8) (hc : Cl sc d1 q.2.1 vs σ (σ1, some (.ref x))) (hd : d1 < d) (h : Ev sc d M is (pc + 3) l (.ref x :: rest) σ1 o) : Ev sc d M (q :: is) pc l st σ o := E_call hk h9 hst hb hcat hc hd h
/-- the default of a switch -/
theorem hk_tsw {dd lo hi : Int} {os : Array Int} {u1 u2 : Nat} {x : Int32} {r : List Value} {t : Nat} (zs : List Int32) (hz : ∀ z ∈ zs, ¬ x = z) (ht : (pc : Int) + dd = (t : Int)) (hc : ∀ k : Nat, k < (hi - lo + 1).toNat → Int32.ofInt (lo + k) ∈ zs) : xm_j (.tableswitch dd lo hi os, u1, u2) pc (.int x :: r) = some (t, r) := by
  simp only [xm_j]
  have h1 : x.toInt < lo ∨ hi < x.toInt := by
    by_cases h : x.toInt < lo ∨ hi < x.toInt
    · exact h
    · exfalso
      have h2 := hc (x.toInt - lo).toNat (by omega)
      have h3 : lo + ((x.toInt - lo).toNat : Int) = x.toInt := by omega
      rw [h3, Int32.ofInt_toInt] at h2
      exact hz _ h2 rfl
  rw [if_pos h1, if_pos (by omega), ht]
  rfl
end RV
theorem lf_some {α β : Type} {x : Option β} {r : α ⊕ β} {Dn : α ⊕ β → Prop} (h : Option.map Sum.inr x = some r) (hr : Dn r) : ∃ r' : β, x = some r' ∧ Dn (.inr r') := by
  obtain ⟨r', h1, rfl⟩ := Option.map_eq_some_iff.mp h
  exact ⟨r', h1, hr⟩
