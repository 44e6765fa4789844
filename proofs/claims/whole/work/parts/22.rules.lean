/-! Runs without fuel, over the world that the constructors made: rules, an instruction or a piece at a time -/
abbrev xS : Type := (Nat → Nat → Int32) × (Nat → Nat → Int64)
theorem hk_R_ex : ∃ R : Nat → Nat → Option Nat, R = hk_s2.2.2.2 := ⟨_, rfl⟩
/-- the references of the cells (a name that does not unfold) -/
noncomputable def hk_R : Nat → Nat → Option Nat := Classical.choose hk_R_ex
theorem hk_R_eq : hk_R = hk_s2.2.2.2 := Classical.choose_spec hk_R_ex
noncomputable def hk_of (s : xS) : xH := (hk_ks, s.1, s.2, hk_R)
/-- fewer locals known -/
def xm_le : xL → xL → Prop
  | [], [] => True
  | none :: a, _ :: b => xm_le a b
  | some v :: a, some w :: b => v = w ∧ xm_le a b
  | _, _ => False
theorem xm_le_len : ∀ {a b : xL}, xm_le a b → a.length = b.length := by
  intro a
  induction a with
  | nil =>
    intro b h
    cases b with
    | nil => rfl
    | cons y b => cases h
  | cons x a ih =>
    intro b h
    cases b with
    | nil => cases x <;> cases h
    | cons y b =>
      cases x with
      | none => exact congrArg (· + 1) (ih h)
      | some v => cases y with
        | none => cases h
        | some w => exact congrArg (· + 1) (ih h.2)
theorem xm_le_at : ∀ {a b : xL}, xm_le a b → ∀ {i : Nat} {v : Value}, a[i]? = some (some v) → b[i]? = some (some v) := by
  intro a
  induction a with
  | nil => intro b h i v hi; simp at hi
  | cons x a ih =>
    intro b h i v hi
    cases b with
    | nil => cases x <;> cases h
    | cons y b =>
      cases x with
      | none =>
        cases i with
        | zero => simp at hi
        | succ i => simpa using ih h (by simpa using hi)
      | some w => cases y with
        | none => cases h
        | some w2 =>
          obtain ⟨rfl, h⟩ := h
          cases i with
          | zero => simpa using hi
          | succ i => simpa using ih h (by simpa using hi)
theorem xm_le_of : ∀ {a b : xL}, a.length = b.length → (∀ (i : Nat) (v : Value), a[i]? = some (some v) → b[i]? = some (some v)) → xm_le a b := by
  intro a
  induction a with
  | nil =>
    intro b h _
    cases b with
    | nil => trivial
    | cons y b => simp at h
  | cons x a ih =>
    intro b h hi
    cases b with
    | nil => simp at h
    | cons y b =>
      have hl : a.length = b.length := by simpa using h
      have hr : ∀ (i : Nat) (v : Value), a[i]? = some (some v) → b[i]? = some (some v) := fun i v q => by simpa using hi (i + 1) v (by simpa using q)
      cases x with
      | none => exact ih hl hr
      | some v =>
        have h0 : (y :: b)[0]? = some (some v) := hi 0 v rfl
        have h1 : y = some v := by simpa using h0
        subst h1
        exact ⟨rfl, ih hl hr⟩
theorem xm_le_set {a b : xL} (h : xm_le a b) (i : Nat) (x : Option Value) : xm_le (a.set i x) (b.set i x) := by
  refine xm_le_of (by simpa using xm_le_len h) fun j v hj => ?_
  rw [List.getElem?_set] at hj ⊢
  split at hj
  · rename_i hij
    rw [if_pos hij, ← xm_le_len h]
    exact hj
  · rename_i hij
    rw [if_neg hij]
    exact xm_le_at h hj
theorem xm_le_none {a b : xL} (h : xm_le a b) (i : Nat) : xm_le (a.set i none) b := by
  refine xm_le_of (by simpa using xm_le_len h) fun j v hj => ?_
  rw [List.getElem?_set] at hj
  split at hj
  · split at hj <;> cases hj
  · exact xm_le_at h hj
theorem xm_le_clr {a b : xL} (h : xm_le a b) (i : Nat) : xm_le (xm_clr a i) (xm_clr b i) := by
  refine xm_le_of (by rw [xm_clr_len, xm_clr_len]; exact xm_le_len h) fun j v hj => ?_
  obtain ⟨h1, h2⟩ := xm_clr_at hj
  have h3 := xm_le_at h h1
  unfold xm_clr
  split
  · exact h3
  · rename_i k
    split
    · rename_i w hw
      split
      · rename_i hc
        by_cases hjk : j = k
        · subst hjk
          rw [h3] at hw
          cases hw
          exact absurd ⟨rfl, hc⟩ h2
        · rw [List.getElem?_set_ne (fun e => hjk e.symm)]
          exact h3
      · exact h3
    · exact h3
theorem xm_le_st1 {a b a1 : xL} (h : xm_le a b) {i : Nat} {v : Value} (hs : xm_st1 a i v = some a1) : ∃ b1, xm_st1 b i v = some b1 ∧ xm_le a1 b1 := by
  unfold xm_st1 at hs ⊢
  rw [← xm_le_len h]
  split at hs
  · rename_i hi
    cases hs
    rw [if_pos hi]
    exact ⟨_, rfl, xm_le_set (xm_le_clr h i) i _⟩
  · cases hs
theorem xm_le_st2 {a b a1 : xL} (h : xm_le a b) {i : Nat} {v : Value} (hs : xm_st2 a i v = some a1) : ∃ b1, xm_st2 b i v = some b1 ∧ xm_le a1 b1 := by
  unfold xm_st2 at hs ⊢
  rw [← xm_le_len h]
  split at hs
  · rename_i hi
    cases hs
    rw [if_pos hi]
    exact ⟨_, rfl, xm_le_set (xm_le_set (xm_le_clr h i) i _) (i + 1) _⟩
  · cases hs
theorem xm_le_ld {a b a1 : xL} (h : xm_le a b) {i : Nat} {st st1 : List Value} {c : Value → Bool} (hs : xm_ld a i st c = some (a1, st1)) : xm_ld b i st c = some (b, st1) ∧ a1 = a := by
  obtain ⟨rfl, v, h1, h2, rfl⟩ := xm_ld_some hs
  unfold xm_ld
  rw [xm_le_at h h1]
  simp only [h2, if_true]
  exact ⟨trivial, trivial⟩
set_option maxHeartbeats 4000000 in
theorem xm_le_p {a b a1 : xL} (h : xm_le a b) {q : xI} {st st1 : List Value} (hs : xm_p q a st = some (a1, st1)) : ∃ b1, xm_p q b st = some (b1, st1) ∧ xm_le a1 b1 := by
  obtain ⟨ins, qa, qb⟩ := q
  cases ins with
  | iload_n i => obtain ⟨h1, rfl⟩ := xm_le_ld h hs; exact ⟨b, h1, h⟩
  | iload i => obtain ⟨h1, rfl⟩ := xm_le_ld h hs; exact ⟨b, h1, h⟩
  | lload_n i => obtain ⟨h1, rfl⟩ := xm_le_ld h hs; exact ⟨b, h1, h⟩
  | lload i => obtain ⟨h1, rfl⟩ := xm_le_ld h hs; exact ⟨b, h1, h⟩
  | aload_n i => obtain ⟨h1, rfl⟩ := xm_le_ld h hs; exact ⟨b, h1, h⟩
  | aload i => obtain ⟨h1, rfl⟩ := xm_le_ld h hs; exact ⟨b, h1, h⟩
  | istore_n i =>
    match st, hs with
    | .int x :: r, hs =>
      obtain ⟨l1, h1, h2⟩ := Option.map_eq_some_iff.mp hs
      cases h2
      obtain ⟨b1, h3, h4⟩ := xm_le_st1 h h1
      exact ⟨b1, by simp only [xm_p, h3]; rfl, h4⟩
  | istore i =>
    match st, hs with
    | .int x :: r, hs =>
      obtain ⟨l1, h1, h2⟩ := Option.map_eq_some_iff.mp hs
      cases h2
      obtain ⟨b1, h3, h4⟩ := xm_le_st1 h h1
      exact ⟨b1, by simp only [xm_p, h3]; rfl, h4⟩
  | lstore_n i =>
    match st, hs with
    | .long x :: r, hs =>
      obtain ⟨l1, h1, h2⟩ := Option.map_eq_some_iff.mp hs
      cases h2
      obtain ⟨b1, h3, h4⟩ := xm_le_st2 h h1
      exact ⟨b1, by simp only [xm_p, h3]; rfl, h4⟩
  | lstore i =>
    match st, hs with
    | .long x :: r, hs =>
      obtain ⟨l1, h1, h2⟩ := Option.map_eq_some_iff.mp hs
      cases h2
      obtain ⟨b1, h3, h4⟩ := xm_le_st2 h h1
      exact ⟨b1, by simp only [xm_p, h3]; rfl, h4⟩
  | astore_n i =>
    match st, hs with
    | .ref x :: r, hs =>
      obtain ⟨l1, h1, h2⟩ := Option.map_eq_some_iff.mp hs
      cases h2
      obtain ⟨b1, h3, h4⟩ := xm_le_st1 h h1
      exact ⟨b1, by simp only [xm_p, h3]; rfl, h4⟩
  | astore i =>
    match st, hs with
    | .ref x :: r, hs =>
      obtain ⟨l1, h1, h2⟩ := Option.map_eq_some_iff.mp hs
      cases h2
      obtain ⟨b1, h3, h4⟩ := xm_le_st1 h h1
      exact ⟨b1, by simp only [xm_p, h3]; rfl, h4⟩
  | iinc i n =>
    simp only [xm_p] at hs
    split at hs
    · rename_i x hx
      obtain ⟨l1, h1, h2⟩ := Option.map_eq_some_iff.mp hs
      cases h2
      obtain ⟨b1, h3, h4⟩ := xm_le_st1 h h1
      exact ⟨b1, by simp only [xm_p, xm_le_at h hx, h3]; rfl, h4⟩
    · cases hs
  | _ =>
    unfold xm_p xm_b2 xm_d2 xm_b2l xm_d2l at hs ⊢
    dsimp only at hs ⊢
    repeat' (split at hs)
    all_goals first | (cases hs; done) | (cases hs; exact ⟨b, by first | rfl | (rw [if_neg (by assumption)]), h⟩)
section RU
variable {sc : Option (Nat × (Nat → Int32))}
set_option maxHeartbeats 4000000 in
/-- more fuel, more depth, more locals: the same -/
theorem xm_mono : ∀ {n d M : Nat} {is : List xI} {pc : Nat} {l : xL} {st : List Value} {σ : xH} {o : xH × Option Value}, xm_ev pg_mt pg_bt pg_fty sc n d M is pc l st σ = some o → ∀ {n' d' : Nat} {l' : xL}, n ≤ n' → d ≤ d' → xm_le l l' → xm_ev pg_mt pg_bt pg_fty sc n' d' M is pc l' st σ = some o := by
  intro n
  induction n with
  | zero => intro d M is pc l st σ o h; cases h
  | succ n ih =>
    intro d M is pc l st σ o h n' d' l' hn hd hl
    obtain ⟨n1, rfl⟩ : ∃ n1, n' = n1 + 1 := ⟨n' - 1, by omega⟩
    have hn1 : n ≤ n1 := by omega
    cases is with
    | nil =>
      simp only [xm_ev] at h ⊢
      split at h
      · cases h
      · exact ih h hn1 hd hl
    | cons q is =>
      simp only [xm_ev] at h ⊢
      split at h
      · split at h
        · cases h
        · rename_i l1 st1 hp
          obtain ⟨b1, h3, h4⟩ := xm_le_p hl hp
          rw [h3]
          exact ih h hn1 hd h4
      · split at h
        · cases h
        · exact ih h hn1 hd hl
      · split at h
        · cases h
        · exact ih h hn1 hd hl
      · exact h
      · split at h
        · cases h
        · exact ih h hn1 hd hl
      · split at h
        · rename_i h1
          rw [if_pos h1]
          split at h
          · split at h
            · rename_i h2
              rw [if_pos h2]
              exact ih h hn1 hd hl
            · cases h
          · cases h
        · rename_i h1
          rw [if_neg h1]
          split at h
          · rename_i h2
            rw [if_pos h2]
            split at h
            · cases h
            · exact ih h hn1 hd hl
          · rename_i h2
            rw [if_neg h2]
            split at h
            · rename_i h3
              rw [if_pos h3]
              split at h
              · cases h
              · exact ih h hn1 hd hl
            · rename_i h3
              rw [if_neg h3]
              split at h
              · rename_i h4
                rw [if_pos h4]
                split at h
                · rename_i d1 md hmd
                  obtain ⟨d2, rfl⟩ : ∃ d2, d' = d2 + 1 := ⟨d' - 1, by omega⟩
                  rw [hmd]
                  dsimp only
                  split at h
                  · rename_i hrv
                    rw [if_pos hrv]
                    split at h
                    · cases h
                    · rename_i l1 hl1
                      split at h
                      · cases h
                      · rename_i σ1 r hev
                        have hev2 := ih hev hn1 (show d1 ≤ d2 by omega) (xm_le_of (a := l1) (b := l1) rfl (fun _ _ h => h))
                        rw [hev2]
                        exact ih h hn1 hd hl
                  · cases h
                · cases h
              · cases h
      · exact h
/-- the run from some place, with calls at most d deep, comes to o -/
def Ev (sc : Option (Nat × (Nat → Int32))) (d M : Nat) (is : List xI) (pc : Nat) (l : xL) (st : List Value) (σ : xH) (o : xH × Option Value) : Prop := ∃ n, xm_ev pg_mt pg_bt pg_fty sc n d M is pc l st σ = some o
variable {d M : Nat} {is : List xI} {pc : Nat} {l : xL} {st : List Value} {σ : xH} {o : xH × Option Value}
theorem Ev.mono {d' : Nat} {l' : xL} (h : Ev sc d M is pc l' st σ o) (hd : d ≤ d') (hl : xm_le l' l) : Ev sc d' M is pc l st σ o := by
  obtain ⟨n, h⟩ := h
  exact ⟨n, xm_mono h (Nat.le_refl _) hd hl⟩
theorem E_wk {l' : xL} (hl : xm_le l' l) (h : Ev sc d M is pc l' st σ o) : Ev sc d M is pc l st σ o := h.mono (Nat.le_refl _) hl
theorem E_blk {is' : List xI} (hb : pg_bt M pc = some is') (h : Ev sc d M is' pc l st σ o) : Ev sc d M [] pc l st σ o := by
  obtain ⟨n, h⟩ := h
  exact ⟨n + 1, by simp only [xm_ev, hb]; exact h⟩
/-- a piece of plain instructions -/
def xm_ps : Nat → List xI → Nat → xL → List Value → Option (List xI × Nat × xL × List Value)
  | 0, is, pc, l, st => some (is, pc, l, st)
  | _ + 1, [], _, _, _ => none
  | n + 1, q :: is, pc, l, st => match xm_kd q.1, xm_p q l st with
    | 0, some (l', st') => xm_ps n is (pc + xm_len q.1) l' st'
    | _, _ => none
theorem E_ps (k : Nat) : ∀ {is is' : List xI} {pc pc' : Nat} {l l' : xL} {st st' : List Value}, xm_ps k is pc l st = some (is', pc', l', st') → Ev sc d M is' pc' l' st' σ o → Ev sc d M is pc l st σ o := by
  induction k with
  | zero =>
    intro is is' pc pc' l l' st st' h hk
    cases h
    exact hk
  | succ k ih =>
    intro is is' pc pc' l l' st st' h hk
    cases is with
    | nil => cases h
    | cons q is =>
      simp only [xm_ps] at h
      split at h
      · rename_i l1 st1 h1 h2
        obtain ⟨n, h3⟩ := ih h hk
        exact ⟨n + 1, by simp only [xm_ev, h1, h2]; exact h3⟩
      · cases h
theorem E_h {q : xI} {st' : List Value} {σ' : xH} (hk : xm_kd q.1 = 1) (hh : xm_h pg_fty (if M = 0 then sc else none) q st σ = some (st', σ')) (h : Ev sc d M is (pc + xm_len q.1) l st' σ' o) : Ev sc d M (q :: is) pc l st σ o := by
  obtain ⟨n, h⟩ := h
  exact ⟨n + 1, by simp only [xm_ev, hk, hh]; exact h⟩
theorem E_j {q : xI} {pc' : Nat} {st' : List Value} (hk : xm_kd q.1 = 2) (hj : xm_j q pc st = some (pc', st')) (h : Ev sc d M [] pc' l st' σ o) : Ev sc d M (q :: is) pc l st σ o := by
  obtain ⟨n, h⟩ := h
  exact ⟨n + 1, by simp only [xm_ev, hk, hj]; exact h⟩
theorem E_jt {q : xI} {p1 p2 : Nat} {st' : List Value} {c : Prop} {dc : Decidable c} (hk : xm_kd q.1 = 2) (hj : xm_j q pc st = some (if c then p1 else p2, st')) (hc : c) (h : Ev sc d M [] p1 l st' σ o) : Ev sc d M (q :: is) pc l st σ o := by
  rw [if_pos hc] at hj
  exact E_j hk hj h
theorem E_jf {q : xI} {p1 p2 : Nat} {st' : List Value} {c : Prop} {dc : Decidable c} (hk : xm_kd q.1 = 2) (hj : xm_j q pc st = some (if c then p1 else p2, st')) (hc : ¬ c) (h : Ev sc d M [] p2 l st' σ o) : Ev sc d M (q :: is) pc l st σ o := by
  rw [if_neg hc] at hj
  exact E_j hk hj h
theorem E_ret {q : xI} {md : xM} {r : Option Value} (hk : xm_kd q.1 = 3) (hm : pg_mt M = some md) (hr : xm_ret md.2.2.2.1 q.1 st = some r) (ho : o = (σ, r)) : Ev sc d M (q :: is) pc l st σ o := ⟨1, by simp only [xm_ev, hk, hm, hr, ho]⟩
/-- a call, as its caller sees it -/
def Cl (sc : Option (Nat × (Nat → Int32))) (d N : Nat) (vs : List Value) (σ : xH) (o : xH × Option Value) : Prop := ∃ (md : xM) (l : xL), pg_mt N = some md ∧ xm_rcv md.2.2.2.2 vs σ = true ∧ xm_ent md.2.2.1 vs = some l ∧ Ev sc d N [] 0 l [] σ o
theorem xm_le_rf (l : xL) : xm_le l l := xm_le_of rfl (fun _ _ h => h)
theorem E_call {q : xI} {d1 : Nat} {vs rest : List Value} {σ1 : xH} {r : Option Value} (hk : xm_kd q.1 = 5) (h9 : q.2.1 < 1000) (hst : st = vs.reverse ++ rest) (hb : q.2.2 = vs.length) (hcat : (rest.map fun v => v.category).sum ≤ 8) (hc : Cl sc d1 q.2.1 vs σ (σ1, r)) (hd : d1 < d) (h : Ev sc d M is (pc + 3) l (r.toList ++ rest) σ1 o) : Ev sc d M (q :: is) pc l st σ o := by
  obtain ⟨md, l1, c1, c2, c3, n1, c4⟩ := hc
  obtain ⟨n2, h⟩ := h
  obtain ⟨d2, rfl⟩ : ∃ d2, d = d2 + 1 := ⟨d - 1, by omega⟩
  have e1 : st.take q.2.2 = vs.reverse := by rw [hst, hb, List.take_left' (by simp)]
  have e2 : st.drop q.2.2 = rest := by rw [hst, hb, List.drop_left' (by simp)]
  have e3 : q.2.2 ≤ st.length := by rw [hst, hb]; simp
  have c5 := xm_mono c4 (show n1 ≤ n1 + n2 by omega) (show d1 ≤ d2 by omega) (xm_le_rf l1)
  have h2 := xm_mono h (show n2 ≤ n1 + n2 by omega) (Nat.le_refl _) (xm_le_rf l)
  refine ⟨n1 + n2 + 1, ?_⟩
  simp only [xm_ev, hk]
  rw [if_neg (by omega), if_neg (by omega), if_neg (by omega), if_pos ⟨e3, by rw [e2]; exact hcat⟩, c1]
  dsimp only
  rw [e1, List.reverse_reverse, if_pos c2, c3]
  dsimp only
  rw [c5]
  dsimp only
  rw [e2]
  exact h2
theorem E_ma {q : xI} {st' : List Value} (hk : xm_kd q.1 = 5) (h9 : 1002 ≤ q.2.1) (hm : xm_ma q.2.1 st = some st') (h : Ev sc d M is (pc + 3) l st' σ o) : Ev sc d M (q :: is) pc l st σ o := by
  obtain ⟨n, h⟩ := h
  refine ⟨n + 1, ?_⟩
  simp only [xm_ev, hk]
  rw [if_neg (by omega), if_neg (by omega), if_pos h9, hm]
  exact h
theorem E_cpy {q : xI} {st' : List Value} {σ1 : xH} (hk : xm_kd q.1 = 5) (h9 : q.2.1 = 1001) (hm : xm_cp st σ = some (st', σ1)) (h : Ev sc d M is (pc + 3) l st' σ1 o) : Ev sc d M (q :: is) pc l st σ o := by
  obtain ⟨n, h⟩ := h
  refine ⟨n + 1, ?_⟩
  simp only [xm_ev, hk]
  rw [if_neg (by omega), if_pos h9, hm]
  exact h
/-- the numbers of fields -/
def hk_nf (c : Nat) : Nat := [6, 6, 3, 8, 2, 12, 7, 9, 12, 15, 17, 13, 75].getD c 0
/-- cell id is an object of class ci -/
def oK (id ci : Nat) : Bool := match hk_ks[id]? with
  | some (k, n) => k == ci && n == hk_nf ci
  | none => false
theorem oK_at {id ci : Nat} (h : oK id ci = true) : hk_ks[id]? = some (ci, hk_nf ci) := by
  unfold oK at h
  split at h
  · rename_i k n hk
    simp only [Bool.and_eq_true, beq_iff_eq] at h
    rw [hk, h.1, h.2]
  · cases h
def aI (s : xS) (id : Nat) (i : Int32) : Option Int32 := match hk_ks[id]? with
  | some (k, n) => if k = 20 ∧ xm_in i n = true then some (s.1 id i.toNatClampNeg) else none
  | none => none
def aB (s : xS) (id : Nat) (i : Int32) : Option Int32 := match hk_ks[id]? with
  | some (k, n) => if (k = 21 ∨ k = 22) ∧ xm_in i n = true then some (s.1 id i.toNatClampNeg) else none
  | none => none
def aL (s : xS) (id : Nat) (i : Int32) : Option Int64 := match hk_ks[id]? with
  | some (k, n) => if k = 23 ∧ xm_in i n = true then some (s.2 id i.toNatClampNeg) else none
  | none => none
noncomputable def aR (id : Nat) (i : Int32) : Option Nat := match hk_ks[id]? with
  | some (k, n) => if (k = 24 ∨ k = 25) ∧ xm_in i n = true then hk_R id i.toNatClampNeg else none
  | none => none
def aN (id : Nat) : Option Int32 := match hk_ks[id]? with
  | some (k, n) => if 20 ≤ k ∧ k < 26 then some (Int32.ofNat n) else none
  | none => none
def wI (s : xS) (id : Nat) (i x : Int32) : Option xS := match hk_ks[id]? with
  | some (k, n) => if k = 20 ∧ xm_in i n = true then some (xm_up s.1 id i.toNatClampNeg x, s.2) else none
  | none => none
def wB (s : xS) (id : Nat) (i x : Int32) : Option xS := match hk_ks[id]? with
  | some (k, n) => if (k = 21 ∨ k = 22) ∧ xm_in i n = true then some (xm_up s.1 id i.toNatClampNeg (vp_nar (xm_ty k) x), s.2) else none
  | none => none
def wL (s : xS) (id : Nat) (i : Int32) (x : Int64) : Option xS := match hk_ks[id]? with
  | some (k, n) => if k = 23 ∧ xm_in i n = true then some (s.1, xm_up s.2 id i.toNatClampNeg x) else none
  | none => none
def pI (s : xS) (id k : Nat) (x : Int32) : Option xS := some (xm_up s.1 id k x, s.2)
def pL (s : xS) (id k : Nat) (x : Int64) : Option xS := some (s.1, xm_up s.2 id k x)
def cpI (s : xS) (a : Nat) (sp : Int32) (d : Nat) (dp n : Int32) : Option xS := match hk_ks[a]?, hk_ks[d]? with
  | some (ka, na), some (kd, nd) => if ka = 20 ∧ kd = 20 ∧ 0 ≤ n ∧ 0 ≤ dp ∧ 0 ≤ sp ∧ sp.toNatClampNeg + n.toNatClampNeg ≤ na ∧ dp.toNatClampNeg + n.toNatClampNeg ≤ nd then
      some (xm_row s.1 d (va_cpy (s.1 a) (s.1 d) sp.toNatClampNeg dp.toNatClampNeg n.toNatClampNeg), s.2) else if ka = 23 ∧ kd = 23 ∧ 0 ≤ n ∧ 0 ≤ dp ∧ 0 ≤ sp ∧ sp.toNatClampNeg + n.toNatClampNeg ≤ na ∧ dp.toNatClampNeg + n.toNatClampNeg ≤ nd then
      some (s.1, xm_row s.2 d (va_cpy (s.2 a) (s.2 d) sp.toNatClampNeg dp.toNatClampNeg n.toNatClampNeg)) else none
  | _, _ => none
theorem xh_get {fty : Nat → Nat → FieldType} {sc : Option (Nat × (Nat → Int32))} {i ci k id n : Nat} {st : List Value} {σ : xH} (e : σ.1[id]? = some (ci, n)) (hn : k < n) : xm_h fty sc (.getfield i, ci, k) (.ref id :: st) σ = some (xm_fv fty σ ci id k :: st, σ) := by
  simp only [xm_h, e]
  rw [if_pos ⟨trivial, hn⟩]
theorem xh_puti {fty : Nat → Nat → FieldType} {sc : Option (Nat × (Nat → Int32))} {i ci k id n : Nat} {x : Int32} {st : List Value} {σ : xH} (e : σ.1[id]? = some (ci, n)) (hn : k < n) (hI : xm_isI fty ci k x = true) : xm_h fty sc (.putfield i, ci, k) (.int x :: .ref id :: st) σ = some (st, σ.1, xm_up σ.2.1 id k x, σ.2.2.1, σ.2.2.2) := by
  simp only [xm_h, e]
  rw [if_pos ⟨trivial, hn, hI⟩]
theorem xh_putl {fty : Nat → Nat → FieldType} {sc : Option (Nat × (Nat → Int32))} {i ci k id n : Nat} {x : Int64} {st : List Value} {σ : xH} (e : σ.1[id]? = some (ci, n)) (hn : k < n) (hI : fty ci k = .long) : xm_h fty sc (.putfield i, ci, k) (.long x :: .ref id :: st) σ = some (st, σ.1, σ.2.1, xm_up σ.2.2.1 id k x, σ.2.2.2) := by
  simp only [xm_h, e]
  rw [if_pos ⟨trivial, hn, hI⟩]
theorem xh_ai {fty : Nat → Nat → FieldType} {sc : Option (Nat × (Nat → Int32))} {u1 u2 id k n : Nat} {i : Int32} {st : List Value} {σ : xH} (e : σ.1[id]? = some (k, n)) (hc : k = 20 ∧ xm_in i n = true) : xm_h fty sc (.iaload, u1, u2) (.int i :: .ref id :: st) σ = some (.int (σ.2.1 id i.toNatClampNeg) :: st, σ) := by
  simp only [xm_h, e]
  rw [if_pos hc]
theorem xh_ab {fty : Nat → Nat → FieldType} {sc : Option (Nat × (Nat → Int32))} {u1 u2 id k n : Nat} {i : Int32} {st : List Value} {σ : xH} (e : σ.1[id]? = some (k, n)) (hc : (k = 21 ∨ k = 22) ∧ xm_in i n = true) : xm_h fty sc (.baload, u1, u2) (.int i :: .ref id :: st) σ = some (.int (σ.2.1 id i.toNatClampNeg) :: st, σ) := by
  simp only [xm_h, e]
  rw [if_pos hc]
theorem xh_al {fty : Nat → Nat → FieldType} {sc : Option (Nat × (Nat → Int32))} {u1 u2 id k n : Nat} {i : Int32} {st : List Value} {σ : xH} (e : σ.1[id]? = some (k, n)) (hc : k = 23 ∧ xm_in i n = true) : xm_h fty sc (.laload, u1, u2) (.int i :: .ref id :: st) σ = some (.long (σ.2.2.1 id i.toNatClampNeg) :: st, σ) := by
  simp only [xm_h, e]
  rw [if_pos hc]
theorem xh_ar {fty : Nat → Nat → FieldType} {sc : Option (Nat × (Nat → Int32))} {u1 u2 id k n : Nat} {i : Int32} {st : List Value} {σ : xH} (e : σ.1[id]? = some (k, n)) (hc : (k = 24 ∨ k = 25) ∧ xm_in i n = true) : xm_h fty sc (.aaload, u1, u2) (.int i :: .ref id :: st) σ = some (va_rf (σ.2.2.2 id i.toNatClampNeg) :: st, σ) := by
  simp only [xm_h, e]
  rw [if_pos hc]
theorem xh_an {fty : Nat → Nat → FieldType} {sc : Option (Nat × (Nat → Int32))} {u1 u2 id k n : Nat} {st : List Value} {σ : xH} (e : σ.1[id]? = some (k, n)) (hc : 20 ≤ k ∧ k < 26) : xm_h fty sc (.arraylength, u1, u2) (.ref id :: st) σ = some (.int (Int32.ofNat n) :: st, σ) := by
  simp only [xm_h, e]
  rw [if_pos hc]
theorem xh_wi {fty : Nat → Nat → FieldType} {sc : Option (Nat × (Nat → Int32))} {u1 u2 id k n : Nat} {i x : Int32} {st : List Value} {σ : xH} (e : σ.1[id]? = some (k, n)) (hc : k = 20 ∧ xm_in i n = true) : xm_h fty sc (.iastore, u1, u2) (.int x :: .int i :: .ref id :: st) σ = some (st, σ.1, xm_up σ.2.1 id i.toNatClampNeg x, σ.2.2.1, σ.2.2.2) := by
  simp only [xm_h, e]
  rw [if_pos hc]
theorem xh_wb {fty : Nat → Nat → FieldType} {sc : Option (Nat × (Nat → Int32))} {u1 u2 id k n : Nat} {i x : Int32} {st : List Value} {σ : xH} (e : σ.1[id]? = some (k, n)) (hc : (k = 21 ∨ k = 22) ∧ xm_in i n = true) : xm_h fty sc (.bastore, u1, u2) (.int x :: .int i :: .ref id :: st) σ = some (st, σ.1, xm_up σ.2.1 id i.toNatClampNeg (vp_nar (xm_ty k) x), σ.2.2.1, σ.2.2.2) := by
  simp only [xm_h, e]
  rw [if_pos hc]
theorem xh_wl {fty : Nat → Nat → FieldType} {sc : Option (Nat × (Nat → Int32))} {u1 u2 id k n : Nat} {i : Int32} {x : Int64} {st : List Value} {σ : xH} (e : σ.1[id]? = some (k, n)) (hc : k = 23 ∧ xm_in i n = true) : xm_h fty sc (.lastore, u1, u2) (.long x :: .int i :: .ref id :: st) σ = some (st, σ.1, σ.2.1, xm_up σ.2.2.1 id i.toNatClampNeg x, σ.2.2.2) := by
  simp only [xm_h, e]
  rw [if_pos hc]
theorem xh_cp {a dd ka na kd nd : Nat} {sp dp n : Int32} {st : List Value} {σ : xH} (e1 : σ.1[a]? = some (ka, na)) (e2 : σ.1[dd]? = some (kd, nd)) (hc : ka = 20 ∧ kd = 20 ∧ 0 ≤ n ∧ 0 ≤ dp ∧ 0 ≤ sp ∧ sp.toNatClampNeg + n.toNatClampNeg ≤ na ∧ dp.toNatClampNeg + n.toNatClampNeg ≤ nd) (hcat : (st.map fun v => v.category).sum ≤ 8) :
    xm_cp (.int n :: .int dp :: .ref dd :: .int sp :: .ref a :: st) σ = some (st, σ.1, xm_row σ.2.1 dd (va_cpy (σ.2.1 a) (σ.2.1 dd) sp.toNatClampNeg dp.toNatClampNeg n.toNatClampNeg), σ.2.2.1, σ.2.2.2) := by
  obtain ⟨c1, c2, c3, c4, c5, c6, c7⟩ := hc
  simp only [xm_cp, e1, e2]
  rw [if_pos ⟨c1, c2, c3, c4, c5, c6, c7, hcat⟩]
theorem xh_cpl {a dd ka na kd nd : Nat} {sp dp n : Int32} {st : List Value} {σ : xH} (e1 : σ.1[a]? = some (ka, na)) (e2 : σ.1[dd]? = some (kd, nd)) (hc : ka = 23 ∧ kd = 23 ∧ 0 ≤ n ∧ 0 ≤ dp ∧ 0 ≤ sp ∧ sp.toNatClampNeg + n.toNatClampNeg ≤ na ∧ dp.toNatClampNeg + n.toNatClampNeg ≤ nd) (hcat : (st.map fun v => v.category).sum ≤ 8) :
    xm_cp (.int n :: .int dp :: .ref dd :: .int sp :: .ref a :: st) σ = some (st, σ.1, σ.2.1, xm_row σ.2.2.1 dd (va_cpy (σ.2.2.1 a) (σ.2.2.1 dd) sp.toNatClampNeg dp.toNatClampNeg n.toNatClampNeg), σ.2.2.2) := by
  obtain ⟨c1, c2, c3, c4, c5, c6, c7⟩ := hc
  simp only [xm_cp, e1, e2]
  rw [if_neg (fun q => by omega), if_pos ⟨c1, c2, c3, c4, c5, c6, c7, hcat⟩]
theorem xm_fv0 {fty : Nat → Nat → FieldType} {σ : xH} {ci id k : Nat} (hc : xm_cat (fty ci k) = 0) : xm_fv fty σ ci id k = .int (σ.2.1 id k) := by simp only [xm_fv, hc]
theorem xm_fv1 {fty : Nat → Nat → FieldType} {σ : xH} {ci id k : Nat} (hc : xm_cat (fty ci k) = 1) : xm_fv fty σ ci id k = .long (σ.2.2.1 id k) := by simp only [xm_fv, hc]
theorem xm_fv2 {fty : Nat → Nat → FieldType} {σ : xH} {ci id k : Nat} (hc : xm_cat (fty ci k) = 2) : xm_fv fty σ ci id k = va_rf (σ.2.2.2 id k) := by simp only [xm_fv, hc]
theorem hk_1 (s : xS) : (hk_of s).1 = hk_ks := rfl
theorem hk_2 (s : xS) : (hk_of s).2.1 = s.1 := rfl
theorem hk_3 (s : xS) : (hk_of s).2.2.1 = s.2 := rfl
theorem hk_4 (s : xS) : (hk_of s).2.2.2 = hk_R := rfl
theorem hk_mk (s : xS) (a : Nat → Nat → Int32) (b : Nat → Nat → Int64) : ((hk_of s).1, a, b, (hk_of s).2.2.2) = hk_of (a, b) := rfl
variable {s s1 : xS} {id : Nat}
theorem E_gi {i ci k : Nat} (hk : oK id ci = true) (hn : k < hk_nf ci) (hc : xm_cat (pg_fty ci k) = 0) (h : Ev sc d M is (pc + 3) l (.int (s.1 id k) :: st) (hk_of s) o) : Ev sc d M ((.getfield i, ci, k) :: is) pc l (.ref id :: st) (hk_of s) o :=
  E_h rfl ((xh_get ((congrArg (fun x => x[id]?) (hk_1 s)).trans (oK_at hk)) hn).trans (by rw [xm_fv0 hc, hk_2])) h
theorem E_gl {i ci k : Nat} (hk : oK id ci = true) (hn : k < hk_nf ci) (hc : xm_cat (pg_fty ci k) = 1) (h : Ev sc d M is (pc + 3) l (.long (s.2 id k) :: st) (hk_of s) o) : Ev sc d M ((.getfield i, ci, k) :: is) pc l (.ref id :: st) (hk_of s) o :=
  E_h rfl ((xh_get ((congrArg (fun x => x[id]?) (hk_1 s)).trans (oK_at hk)) hn).trans (by rw [xm_fv1 hc, hk_3])) h
theorem E_gr {i ci k a : Nat} (hk : oK id ci = true) (hn : k < hk_nf ci) (hc : xm_cat (pg_fty ci k) = 2) (hr : hk_R id k = some a) (h : Ev sc d M is (pc + 3) l (.ref a :: st) (hk_of s) o) : Ev sc d M ((.getfield i, ci, k) :: is) pc l (.ref id :: st) (hk_of s) o :=
  E_h rfl ((xh_get ((congrArg (fun x => x[id]?) (hk_1 s)).trans (oK_at hk)) hn).trans (by rw [xm_fv2 hc, hk_4, hr]; rfl)) h
theorem E_pi {i ci k : Nat} {x : Int32} (hk : oK id ci = true) (hn : k < hk_nf ci) (hI : xm_isI pg_fty ci k x = true) (hw : pI s id k x = some s1) (h : Ev sc d M is (pc + 3) l st (hk_of s1) o) : Ev sc d M ((.putfield i, ci, k) :: is) pc l (.int x :: .ref id :: st) (hk_of s) o := by
  cases hw
  exact E_h rfl (xh_puti ((congrArg (fun x => x[id]?) (hk_1 s)).trans (oK_at hk)) hn hI) h
theorem E_pl {i ci k : Nat} {x : Int64} (hk : oK id ci = true) (hn : k < hk_nf ci) (hI : pg_fty ci k = .long) (hw : pL s id k x = some s1) (h : Ev sc d M is (pc + 3) l st (hk_of s1) o) : Ev sc d M ((.putfield i, ci, k) :: is) pc l (.long x :: .ref id :: st) (hk_of s) o := by
  cases hw
  exact E_h rfl (xh_putl ((congrArg (fun x => x[id]?) (hk_1 s)).trans (oK_at hk)) hn hI) h
theorem E_ai {i : Int32} {v : Int32} {u1 u2 : Nat} (ha : aI s id i = some v) (h : Ev sc d M is (pc + 1) l (.int v :: st) (hk_of s) o) : Ev sc d M ((.iaload, u1, u2) :: is) pc l (.int i :: .ref id :: st) (hk_of s) o := by
  unfold aI at ha
  split at ha
  · rename_i k n hk
    split at ha
    · rename_i hc
      cases ha
      exact E_h rfl (xh_ai ((congrArg (fun x => x[id]?) (hk_1 s)).trans hk) hc) h
    · cases ha
  · cases ha
theorem E_ab {i : Int32} {v : Int32} {u1 u2 : Nat} (ha : aB s id i = some v) (h : Ev sc d M is (pc + 1) l (.int v :: st) (hk_of s) o) : Ev sc d M ((.baload, u1, u2) :: is) pc l (.int i :: .ref id :: st) (hk_of s) o := by
  unfold aB at ha
  split at ha
  · rename_i k n hk
    split at ha
    · rename_i hc
      cases ha
      exact E_h rfl (xh_ab ((congrArg (fun x => x[id]?) (hk_1 s)).trans hk) hc) h
    · cases ha
  · cases ha
theorem E_al {i : Int32} {v : Int64} {u1 u2 : Nat} (ha : aL s id i = some v) (h : Ev sc d M is (pc + 1) l (.long v :: st) (hk_of s) o) : Ev sc d M ((.laload, u1, u2) :: is) pc l (.int i :: .ref id :: st) (hk_of s) o := by
  unfold aL at ha
  split at ha
  · rename_i k n hk
    split at ha
    · rename_i hc
      cases ha
      exact E_h rfl (xh_al ((congrArg (fun x => x[id]?) (hk_1 s)).trans hk) hc) h
    · cases ha
  · cases ha
theorem E_ar {i : Int32} {v : Nat} {u1 u2 : Nat} (ha : aR id i = some v) (h : Ev sc d M is (pc + 1) l (.ref v :: st) (hk_of s) o) : Ev sc d M ((.aaload, u1, u2) :: is) pc l (.int i :: .ref id :: st) (hk_of s) o := by
  unfold aR at ha
  split at ha
  · rename_i k n hk
    split at ha
    · rename_i hc
      skip
      exact E_h rfl ((xh_ar ((congrArg (fun x => x[id]?) (hk_1 s)).trans hk) hc).trans (by rw [hk_4, ha]; rfl)) h
    · cases ha
  · cases ha
theorem E_an {v : Int32} {u1 u2 : Nat} (ha : aN id = some v) (h : Ev sc d M is (pc + 1) l (.int v :: st) (hk_of s) o) : Ev sc d M ((.arraylength, u1, u2) :: is) pc l (.ref id :: st) (hk_of s) o := by
  unfold aN at ha
  split at ha
  · rename_i k n hk
    split at ha
    · rename_i hc
      cases ha
      exact E_h rfl (xh_an ((congrArg (fun x => x[id]?) (hk_1 s)).trans hk) hc) h
    · cases ha
  · cases ha
theorem E_wi {i : Int32} {x : Int32} {u1 u2 : Nat} (ha : wI s id i x = some s1) (h : Ev sc d M is (pc + 1) l st (hk_of s1) o) : Ev sc d M ((.iastore, u1, u2) :: is) pc l (.int x :: .int i :: .ref id :: st) (hk_of s) o := by
  unfold wI at ha
  split at ha
  · rename_i k n hk
    split at ha
    · rename_i hc
      cases ha
      exact E_h rfl (xh_wi ((congrArg (fun x => x[id]?) (hk_1 s)).trans hk) hc) h
    · cases ha
  · cases ha
theorem E_wb {i : Int32} {x : Int32} {u1 u2 : Nat} (ha : wB s id i x = some s1) (h : Ev sc d M is (pc + 1) l st (hk_of s1) o) : Ev sc d M ((.bastore, u1, u2) :: is) pc l (.int x :: .int i :: .ref id :: st) (hk_of s) o := by
  unfold wB at ha
  split at ha
  · rename_i k n hk
    split at ha
    · rename_i hc
      cases ha
      exact E_h rfl (xh_wb ((congrArg (fun x => x[id]?) (hk_1 s)).trans hk) hc) h
    · cases ha
  · cases ha
theorem E_wl {i : Int32} {x : Int64} {u1 u2 : Nat} (ha : wL s id i x = some s1) (h : Ev sc d M is (pc + 1) l st (hk_of s1) o) : Ev sc d M ((.lastore, u1, u2) :: is) pc l (.long x :: .int i :: .ref id :: st) (hk_of s) o := by
  unfold wL at ha
  split at ha
  · rename_i k n hk
    split at ha
    · rename_i hc
      cases ha
      exact E_h rfl (xh_wl ((congrArg (fun x => x[id]?) (hk_1 s)).trans hk) hc) h
    · cases ha
  · cases ha
theorem E_cp {i u2 a dd : Nat} {sp dp n : Int32} (ha : cpI s a sp dd dp n = some s1) (hcat : (st.map fun v => v.category).sum ≤ 8) (h : Ev sc d M is (pc + 3) l st (hk_of s1) o) : Ev sc d M ((.invokestatic i, 1001, u2) :: is) pc l (.int n :: .int dp :: .ref dd :: .int sp :: .ref a :: st) (hk_of s) o := by
  unfold cpI at ha
  split at ha
  · rename_i ka na kd nd hka hkd
    split at ha
    · rename_i hc
      cases ha
      exact E_cpy rfl rfl (xh_cp ((congrArg (fun x => x[a]?) (hk_1 s)).trans hka) ((congrArg (fun x => x[dd]?) (hk_1 s)).trans hkd) hc hcat) h
    · split at ha
      · rename_i hc
        cases ha
        exact E_cpy rfl rfl (xh_cpl ((congrArg (fun x => x[a]?) (hk_1 s)).trans hka) ((congrArg (fun x => x[dd]?) (hk_1 s)).trans hkd) hc hcat) h
      · cases ha
  · cases ha
/-- the law's script -/
theorem E_si {i : Int32} {u1 u2 L y : Nat} {xs : Nat → Int32} (hi : xm_in i L = true) (h : Ev (some (L, xs)) d 0 is (pc + 1) l (.int (xs i.toNatClampNeg) :: st) (hk_of s) o) : Ev (some (L, xs)) d 0 ((.iaload, u1, u2) :: is) pc l (.int i :: .retAddr y :: st) (hk_of s) o := by
  refine E_h rfl ?_ h
  simp only [xm_h, if_true]
  rw [if_pos hi]
theorem E_sn {u1 u2 L y : Nat} {xs : Nat → Int32} (h : Ev (some (L, xs)) d 0 is (pc + 1) l (.int (Int32.ofNat L) :: st) (hk_of s) o) : Ev (some (L, xs)) d 0 ((.arraylength, u1, u2) :: is) pc l (.retAddr y :: st) (hk_of s) o := E_h rfl rfl h
end RU
/-! loops as functions -/
def wh_it {S R : Type} (body : S → Option (S ⊕ R)) : Nat → S → Option R
  | 0, _ => none
  | n + 1, s => match body s with
    | none => none
    | some (.inl s') => wh_it body n s'
    | some (.inr r) => some r
theorem wh_it_mono {S R : Type} {body : S → Option (S ⊕ R)} : ∀ {n : Nat} {s : S} {r : R}, wh_it body n s = some r → ∀ {m : Nat}, n ≤ m → wh_it body m s = some r := by
  intro n
  induction n with
  | zero => intro s r h; cases h
  | succ n ih =>
    intro s r h m hm
    obtain ⟨m, rfl⟩ : ∃ k, m = k + 1 := ⟨m - 1, by omega⟩
    simp only [wh_it] at h ⊢
    split at h
    · cases h
    · exact ih h (by omega)
    · exact h
noncomputable def whl {S R : Type} (body : S → Option (S ⊕ R)) (s : S) : Option R := @dite _ (∃ (n : Nat) (r : R), wh_it body n s = some r) (Classical.propDecidable _) (fun h => some (Classical.choose (Classical.choose_spec h))) (fun _ => none)
theorem whl_iff {S R : Type} {body : S → Option (S ⊕ R)} {s : S} {r : R} : whl body s = some r ↔ ∃ n, wh_it body n s = some r := by
  unfold whl
  by_cases h : ∃ (n : Nat) (r : R), wh_it body n s = some r
  · rw [dif_pos h]
    have h1 := Classical.choose_spec (Classical.choose_spec h)
    constructor
    · intro h2
      rw [← Option.some.inj h2]
      exact ⟨_, h1⟩
    · rintro ⟨n, h2⟩
      have h3 := wh_it_mono h1 (Nat.le_max_left (Classical.choose h) n)
      have h4 := wh_it_mono h2 (Nat.le_max_right (Classical.choose h) n)
      exact h3.symm.trans h4
  · rw [dif_neg h]
    constructor
    · intro h2; cases h2
    · rintro ⟨n, h2⟩; exact absurd ⟨n, r, h2⟩ h
theorem whl_inl {S R : Type} {body : S → Option (S ⊕ R)} {s s' : S} (h : body s = some (.inl s')) : whl body s = whl body s' := by
  refine Option.ext fun r => ?_
  rw [whl_iff, whl_iff]
  constructor
  · rintro ⟨n, hn⟩
    cases n with
    | zero => cases hn
    | succ n =>
      simp only [wh_it, h] at hn
      exact ⟨n, hn⟩
  · rintro ⟨n, hn⟩
    exact ⟨n + 1, by simp only [wh_it, h]; exact hn⟩
theorem whl_inr {S R : Type} {body : S → Option (S ⊕ R)} {s : S} {r : R} (h : body s = some (.inr r)) : whl body s = some r := whl_iff.mpr ⟨1, by simp only [wh_it, h]⟩
/-- a loop with an invariant and a measure ends, and its end has Q -/
theorem whl_rule {S R : Type} {body : S → Option (S ⊕ R)} (P : S → Prop) (μ : S → Nat) (Q : R → Prop) (hb : ∀ s, P s → (∃ s', body s = some (.inl s') ∧ P s' ∧ μ s' < μ s) ∨ ∃ r, body s = some (.inr r) ∧ Q r) : ∀ s, P s → ∃ r, whl body s = some r ∧ Q r := by
  have h : ∀ (n : Nat) (s : S), μ s < n → P s → ∃ r, whl body s = some r ∧ Q r := by
    intro n
    induction n with
    | zero => intro s h; omega
    | succ n ih =>
      intro s hs hP
      rcases hb s hP with ⟨s', h1, h2, h3⟩ | ⟨r, h1, h2⟩
      · rw [whl_inl h1]
        exact ih s' (by omega) h2
      · exact ⟨r, whl_inr h1, h2⟩
  intro s hP
  exact h (μ s + 1) s (by omega) hP
/-- what holds behind a body holds behind the loop -/
theorem whl_snd {S R : Type} {body : S → Option (S ⊕ R)} {E : S → Prop} {P : R → Prop} (hb : ∀ s q, body s = some q → (match q with | .inl s' => E s' | .inr r => P r) → E s) : ∀ {s : S} {r : R}, whl body s = some r → P r → E s := by
  intro s r h hP
  obtain ⟨n, h2⟩ := whl_iff.mp h
  clear h
  induction n generalizing s with
  | zero => cases h2
  | succ n ih =>
    simp only [wh_it] at h2
    split at h2
    · cases h2
    · rename_i s' hs
      exact hb s _ hs (ih h2)
    · rename_i r' hs
      cases h2
      exact hb s _ hs hP
