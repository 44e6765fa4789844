/-! which laying parts the worlds most: both sides; known at the model -/
noncomputable def dsS (n : Nat) (red : Int) (H W S : Nat → Int) (p t : Nat) (D : List Int32) (N : Nat) : List Int32 := if wRd n red (sm H W S p) t 0 0 N ∈ D then D else D ++ [wRd n red (sm H W S p) t 0 0 N]
noncomputable def dsO (n : Nat) (red : Int) (H W S : Nat → Int) (p t : Nat) (L : List Nat) : List Int32 := L.foldl (dsS n red H W S p t) []
noncomputable def aS (n : Nat) (red : Int) (H W S : Nat → Int) (L : List Nat) (o : Option Nat × Nat) (j : Nat) : Option Nat × Nat := if o.2 < (dsO n red H W S (j / 4) (j % 4) L).length then (some j, (dsO n red H W S (j / 4) (j % 4) L).length) else o
noncomputable def aO (n : Nat) (red : Int) (H W S : Nat → Int) (L : List Nat) : Nat → Option Nat × Nat
  | 0 => (none, 0)
  | k + 1 => aS n red H W S L (aO n red H W S L k) k
section PA
variable {n : Nat} {red : Int} {H W S : Nat → Int} {p t : Nat} {L : List Nat}
theorem dsS_len (D : List Int32) (N : Nat) : D.length ≤ (dsS n red H W S p t D N).length ∧ (dsS n red H W S p t D N).length ≤ D.length + 1 := by
  unfold dsS
  split
  · omega
  · rw [List.length_append]
    simp only [List.length_cons, List.length_nil]
    omega
theorem ds_len : ∀ (L : List Nat) (D : List Int32), D.length ≤ (L.foldl (dsS n red H W S p t) D).length ∧ (L.foldl (dsS n red H W S p t) D).length ≤ D.length + L.length
  | [], D => ⟨Nat.le_refl _, Nat.le_refl _⟩
  | N :: L, D => by
    have h1 := ds_len L (dsS n red H W S p t D N)
    have h2 := dsS_len (n := n) (red := red) (H := H) (W := W) (S := S) (p := p) (t := t) D N
    rw [List.foldl_cons, List.length_cons]
    omega
theorem dsO_len : (dsO n red H W S p t L).length ≤ L.length := by
  have := (ds_len (n := n) (red := red) (H := H) (W := W) (S := S) (p := p) (t := t) L []).2
  rw [List.length_nil, Nat.zero_add] at this
  exact this
theorem dsO_pos (h : 0 < L.length) : 0 < (dsO n red H W S p t L).length := by
  cases L with
  | nil => exact absurd h (by decide)
  | cons N L =>
    have h1 := (ds_len (n := n) (red := red) (H := H) (W := W) (S := S) (p := p) (t := t) L (dsS n red H W S p t [] N)).1
    have h2 : (dsS n red H W S p t [] N).length = 1 := by
      unfold dsS
      rw [if_neg (List.not_mem_nil), List.nil_append]
      rfl
    unfold dsO
    rw [List.foldl_cons]
    omega
theorem dsO_1 {N : Nat} : dsO n red H W S p t (L ++ [N]) = dsS n red H W S p t (dsO n red H W S p t L) N := by
  unfold dsO
  rw [List.foldl_append]
  rfl
theorem aO_le : ∀ k, (aO n red H W S L k).2 ≤ L.length ∧ ((aO n red H W S L k).1 = none → (aO n red H W S L k).2 = 0) ∧ ∀ j, (aO n red H W S L k).1 = some j → j < k
  | 0 => ⟨Nat.zero_le _, fun _ => rfl, fun j hj => by cases hj⟩
  | k + 1 => by
    obtain ⟨h1, h2, h3⟩ := aO_le k
    rw [aO]
    unfold aS
    split
    · refine ⟨dsO_len, (fun h => by cases h), fun j hj => ?_⟩
      cases hj
      omega
    · exact ⟨h1, h2, fun j hj => by have := h3 j hj; omega⟩
theorem aO_some (h : 0 < L.length) {k : Nat} (hk : 0 < k) : ∃ j, (aO n red H W S L k).1 = some j := by
  obtain ⟨k, rfl⟩ : ∃ k', k = k' + 1 := ⟨k - 1, by omega⟩
  rw [aO]
  unfold aS
  have h1 := dsO_pos (n := n) (red := red) (H := H) (W := W) (S := S) (p := k / 4) (t := k % 4) h
  split
  · exact ⟨k, rfl⟩
  · cases e : (aO n red H W S L k).1 with
    | some j => exact ⟨j, rfl⟩
    | none =>
      have := (aO_le (n := n) (red := red) (H := H) (W := W) (S := S) (L := L) k).2.1 e
      omega
theorem aO_none (h : L.length = 0) : ∀ k, aO n red H W S L k = (none, 0)
  | 0 => rfl
  | k + 1 => by
    rw [aO, aO_none h k]
    unfold aS
    have h1 := dsO_len (n := n) (red := red) (H := H) (W := W) (S := S) (p := k / 4) (t := k % 4) (L := L)
    rw [if_neg (by dsimp only; omega)]
end PA
/-- a row holds a list of ints -/
def rowI (s : xS) (id : Nat) (D : List Int32) : Prop := ∀ (j : Nat) (v : Int32), D[j]? = some v → s.1 id j = v
theorem rowI.fr {F : Nat → Nat → Bool} {s s' : xS} {id : Nat} {D : List Int32} (h : rowI s id D) (hf : fr F s s') (h1 : ∀ k, F id k = false) : rowI s' id D := fun j N hj => by rw [hf.i _ _ (h1 _)]; exact h j N hj
theorem mem_no {D : List Int32} {v : Int32} (h : ∀ (j : Nat) (w : Int32), j < D.length → D[j]? = some w → w ≠ v) : v ∉ D := fun hv => by
  obtain ⟨j, hj⟩ := List.mem_iff_getElem?.mp hv
  exact h j v (lt_of_get hj) hj rfl
theorem ly00 {n t : Nat} (n3 : 3 ≤ n) (n5 : n ≤ 5) (ht : t ≤ 3) : Ly n t 0 0 := ⟨n3, n5, ht, by omega, by omega, by omega, by omega⟩
def Fu79 (id k : Nat) : Bool := FRw id k || id == 79
theorem FRw_79 (id k : Nat) (h : FRw id k = true) : Fu79 id k = true := by unfold Fu79; rw [h]; rfl
def FLu (id k : Nat) : Bool := FL id k || id == 79
theorem FL_u (id k : Nat) (h : FL id k = true) : FLu id k = true := by unfold FLu; rw [h]; rfl
theorem Fu79_u (id k : Nat) (h : Fu79 id k = true) : FLu id k = true := by
  unfold Fu79 at h
  rw [Bool.or_eq_true, beq_iff_eq] at h
  rcases h with h | rfl
  · exact FL_u id k (FRw_L id k h)
  · rfl
theorem FLu_c (id k : Nat) (h : FLu id k = true) : FWc id k = true := by
  unfold FLu at h
  rw [Bool.or_eq_true, beq_iff_eq] at h
  rcases h with h | rfl
  · exact FL_Wc id k h
  · rfl
section AC
variable {s : xS} {b n pl : Nat} {red slip : Int} {x : sS} {W S : Nat → Int} {st : Int32} {rc : Nat} {Rs : Nat → Rn} {m : Nat} {G : Nat → Sg}
theorem cl_among {D : List Int32} (hD : rowI s 79 D) (hl : D.length ≤ 343) (v : Int32) : ∃ r, f122 72 v (iz D.length) s = some (s, r) ∧ ((r = iz 1 ∧ v ∈ D) ∨ (r = iz 0 ∧ v ∉ D)) := by
  have key : ok (f122 72 v (iz D.length) s) (fun r => r.1 = s ∧ ((r.2 = iz 1 ∧ v ∈ D) ∨ (r.2 = iz 0 ∧ v ∉ D))) := by
    unfold f122
    rw [ifg_pos O_72, iz0]
    refine forz (fun k w => w = s ∧ ∀ (j : Nat) (u : Int32), j < k → D[j]? = some u → u ≠ v) 0 D.length (by omega) (by omega) ⟨rfl, fun j u hj => by omega⟩ (fun k w _ hk ⟨e1, e2⟩ => ?_) (fun w ⟨e1, e2⟩ => ?_)
    · subst e1
      obtain ⟨u, hu⟩ := get_ex hk
      dsimp only
      unfold f122_2
      rw [it_le_f (by omega) (by omega) (by omega)]
      simp (disch := omega) only [R_72_12, A_79, Option.bind_some, iz_in, iz_n, nat_toNat, if_true, hD k u hu]
      by_cases q : u = v
      · rw [if_pos q, ok_map, ok_some, lp_r]
        exact ⟨rfl, Or.inl ⟨iz1, by rw [← q]; exact List.mem_of_getElem? hu⟩⟩
      · rw [if_neg q, ok_some, lp_l, iz1, iz_add]
        refine ⟨rfl, rfl, fun j u' hj hu' => ?_⟩
        by_cases r : j = k
        · subst r
          rw [hu] at hu'
          cases hu'
          exact q
        · exact e2 j u' (by omega) hu'
    · subst e1
      dsimp only
      unfold f122_2
      rw [it_le_t (by omega) (by omega) (by omega), ok_map, ok_some, lp_r]
      exact ⟨rfl, Or.inr ⟨iz0, mem_no e2⟩⟩
  obtain ⟨r, e1, e2, e3⟩ := key
  exact ⟨r.2, by rw [e1, ← e2], e3⟩
theorem cl_unlike (h : Core s b n pl red slip x W S st rc Rs) {L : List Nat} (hL : FtL s L) (hl : L.length ≤ 343) (hlt : ∀ (j N : Nat), L[j]? = some N → N < 343) {p t : Nat} (hp : p < pl) (ht : t ≤ 3) : ok (f121 72 (iz p) (iz t) s) (fun r => fr FLu s r.1 ∧ r.2 = iz (dsO n red x.1 W S p t L).length) := by
  have sq := h.cn.sq
  have hpl := h.p4
  have hLy := ly00 h.cn.2.1 h.cn.2.2 ht
  unfold f121
  rw [ifg_pos O_72]
  simp only [R_72_2, R_72_1, R_72_0, R_39_2, Option.bind_some, iz0]
  refine (cl_wput h hp hLy).bind (fun r1 ⟨a1, a2⟩ => ?_)
  have h1 := Core_scr h (a1.mono FL_z)
  simp only [h1.cn.cells, Option.bind_some]
  refine a2.bind (fun r2 ⟨b1, b2, b3⟩ => ?_)
  have h2 := Core_scr h (b1.mono FL_z)
  have hL2 : FtL r2.1 L := hL.fr b1 rfl (fun _ => rfl)
  refine forzA (A := Int32) (fun k v w => fr Fu79 r2.1 w ∧ v = iz (dsO n red x.1 W S p t (L.take k)).length ∧ rowI w 79 (dsO n red x.1 W S p t (L.take k))) 0 L.length (by omega) (by omega) ⟨fr.rf _ _, rfl, fun j v hj => by cases hj⟩ (fun k v w _ hk ⟨c1, c2, c3⟩ => ?_) (fun v w ⟨c1, c2, c3⟩ => ?_)
  · obtain ⟨N, hN⟩ := get_ex hk
    have hN3 := hlt k N hN
    have hLw : FtL w L := hL2.fr c1 rfl (fun _ => rfl)
    have ln := dsO_len (n := n) (red := red) (H := x.1) (W := W) (S := S) (p := p) (t := t) (L := L.take k)
    have l1 : (L.take k).length = k := by rw [List.length_take]; omega
    dsimp only
    unfold f121_37 f121_80
    rw [hLw.1, it_le_f (by omega) (by omega) (by omega)]
    simp (disch := omega) only [R_72_9, Option.bind_some, A_78, iz_in, iz_n, nat_toNat, if_true, hLw.2 k N hN]
    refine (cl_wreds (h2.cn.fr c1 rfl) hLy (b2.fr c1 rfl (fun _ => rfl) (fun _ => rfl)) (A := sm x.1 W S p) (fun c hc => by rw [c1.i _ _ rfl]; exact b3 c hc) (sm_b h (by omega)) (by rw [c1.i _ _ rfl]; exact h2.1.2.2.1) h.2.2.2.2.2.1 h.2.2.2.2.2.2.1 hN3).bind (fun r3 ⟨d1, d2⟩ => ?_)
    have c3' := c3.fr d1 (fun _ => rfl)
    obtain ⟨q, e1, e2⟩ := cl_among c3' (by omega) r3.2
    rw [c2, e1]
    simp only [Option.bind_some]
    rw [tk_1 hN, dsO_1]
    unfold dsS
    rw [← d2]
    rcases e2 with ⟨rfl, e2⟩ | ⟨rfl, e2⟩
    · rw [iz0, it_eq_f (by omega) (by omega) (by omega) (by omega) (by omega), if_pos e2, ok_some, lpA_l, iz1, iz_add]
      exact ⟨rfl, c1.tr (d1.mono FRw_79), rfl, c3'⟩
    · rw [iz0, it_eq_t rfl, if_neg e2]
      simp (disch := omega) only [R_72_12, W_79, Option.bind_some, iz_in, iz_n, nat_toNat, if_true, iz1, iz_add]
      rw [ok_some, lpA_l]
      refine ⟨rfl, (c1.tr (d1.mono FRw_79)).ui rfl, ?_, fun j v hj => ?_⟩
      · rw [List.length_append]
        rfl
      · rcases ap_1 hj with ⟨j1, j2⟩ | ⟨j1, j2⟩
        · show xm_up r3.1.1 79 _ r3.2 79 j = _
          rw [up_ix _ _ (by omega)]
          exact c3' j v j2
        · show xm_up r3.1.1 79 _ r3.2 79 j = _
          rw [j1, j2, up_eq]
  · have hLw : FtL w L := hL2.fr c1 rfl (fun _ => rfl)
    dsimp only
    unfold f121_37
    rw [hLw.1, it_le_t (by omega) (by omega) (by omega), ok_map, ok_some, lpA_r]
    rw [List.take_length] at c2
    exact ⟨(b1.mono FL_u).tr (c1.mono Fu79_u), c2⟩
def AkR (s : xS) (o : Option Nat × Nat) : Prop := s.1 80 2 = iz o.2 ∧ ∀ j, o.1 = some j → s.1 80 0 = iz ((j / 4 : Nat) : Int) ∧ s.1 80 1 = iz ((j % 4 : Nat) : Int)
theorem AkR.fr {F : Nat → Nat → Bool} {s' : xS} {o : Option Nat × Nat} (h : AkR s o) (hf : fr F s s') (h1 : ∀ k, F 80 k = false) : AkR s' o := ⟨by rw [hf.i _ _ (h1 _)]; exact h.1, fun j hj => by rw [hf.i _ _ (h1 _), hf.i _ _ (h1 _)]; exact h.2 j hj⟩
def AkI (s : xS) (n pl : Nat) (red : Int) (H W S : Nat → Int) (m : Nat) (G : Nat → Sg) : Prop := s.1 72 14 = iz 0 ∨ (s.1 72 14 = iz 1 ∧ AkR s (aO n red H W S (fLs n red H W S G m) (4 * pl)))
def Fak (id k : Nat) : Bool := FLu id k || id == 80
theorem FLu_ak (id k : Nat) (h : FLu id k = true) : Fak id k = true := by unfold Fak; rw [h]; rfl
theorem Fak_c (id k : Nat) (h : Fak id k = true) : FWc id k = true := by
  unfold Fak at h
  rw [Bool.or_eq_true, beq_iff_eq] at h
  rcases h with h | rfl
  · exact FLu_c id k h
  · rfl
theorem cl_findA (h : Core s b n pl red slip x W S st rc Rs) {L : List Nat} (hL : FtL s L) (hl : L.length ≤ 343) (hlt : ∀ (j N : Nat), L[j]? = some N → N < 343) : ok (f120 72 s) (fun r => fr Fak s r.1 ∧ AkR r.1 (aO n red x.1 W S L (4 * pl))) := by
  have hpl := h.p4
  unfold f120
  rw [ifg_pos O_72]
  simp (disch := omega) only [R_72_13, W_80, Option.bind_some, iz0, iz2, iz_in, iz_n, nat_toNat, if_true]
  have f0 : fr Fak s (xm_up s.1 80 ((2 : Int)).toNat (iz 0), s.2) := (fr.rf Fak s).ui (v := iz 0) (id := 80) (k := 2) rfl
  refine forz (fun P w => fr Fak s w ∧ AkR w (aO n red x.1 W S L (4 * P))) 0 pl (by omega) (by omega) ⟨f0, (by first | exact up_eqP _ _ _ _ _ | exact up_eq _ _ _ _), fun j hj => by cases hj⟩ (fun P w _ hP ⟨a1, a2⟩ => ?_) (fun w ⟨a1, a2⟩ => ?_)
  · have hw := Core_Wc h (a1.mono Fak_c)
    dsimp only
    unfold f120_9
    rw [R_72_0]
    simp only [Option.bind_some]
    rw [hw.1.1, it_le_f (by omega) (by omega) (by omega), iz0]
    refine forz (fun t z => fr Fak s z ∧ AkR z (aO n red x.1 W S L (4 * P + t))) 0 4 (by omega) (by omega) ⟨a1, a2⟩ (fun t z _ ht ⟨b1, b2⟩ => ?_) (fun z ⟨b1, b2⟩ => ?_)
    · have hz := Core_Wc h (b1.mono Fak_c)
      dsimp only
      unfold f120_22 f120_65
      rw [iz3, it_lt_f (by omega) (by omega) (by omega)]
      refine (cl_unlike hz (hL.fr b1 rfl (fun _ => rfl)) hl hlt hP (show t ≤ 3 by omega)).bind (fun r ⟨c1, c2⟩ => ?_)
      have b2' := b2.fr c1 (fun _ => rfl)
      have q1 := (aO_le (n := n) (red := red) (H := x.1) (W := W) (S := S) (L := L) (4 * P + t)).1
      have q2 := dsO_len (n := n) (red := red) (H := x.1) (W := W) (S := S) (p := P) (t := t) (L := L)
      simp (disch := omega) only [R_72_13, A_80, Option.bind_some, iz2, iz_in, iz_n, nat_toNat, if_true]
      rw [show ((2 : Int)).toNat = 2 from rfl, b2'.1, c2, show 4 * P + (t + 1) = (4 * P + t) + 1 from rfl, aO]
      unfold aS
      rw [show (4 * P + t) / 4 = P by omega, show (4 * P + t) % 4 = t by omega]
      by_cases e : (aO n red x.1 W S L (4 * P + t)).2 < (dsO n red x.1 W S P t L).length
      · rw [it_le_f (by omega) (by omega) (by omega), if_pos e]
        simp (disch := omega) only [R_72_13, W_80, Option.bind_some, iz0, iz1, iz_add, iz_in, iz_n, nat_toNat, if_true, ok_some, lp_l, true_and]
        refine ⟨(((b1.tr (c1.mono FLu_ak)).ui rfl).ui rfl).ui rfl, (by first | exact up_eqP _ _ _ _ _ | exact up_eq _ _ _ _), fun j hj => ?_⟩
        cases hj
        rw [show (4 * P + t) / 4 = P by omega, show (4 * P + t) % 4 = t by omega]
        constructor
        · dsimp only
          rw [up_ix _ _ (by omega), up_ix _ _ (by omega)]
          exact up_at _ _ rfl
        · dsimp only
          rw [up_ix _ _ (by omega)]
          exact up_at _ _ rfl
      · rw [it_le_t (by omega) (by omega) (by omega), if_neg e, ok_some, lp_l, iz1, iz_add]
        exact ⟨rfl, b1.tr (c1.mono FLu_ak), b2'⟩
    · dsimp only
      unfold f120_22
      rw [iz3, show ((4 : Nat) : Int) = 4 from rfl, it_lt_t (by omega) (by omega) (by omega), ok_map, ok_some, lp_r, lp_l, iz1, iz_add]
      exact ⟨rfl, b1, b2⟩
  · have hw := Core_Wc h (a1.mono Fak_c)
    dsimp only
    unfold f120_9
    rw [R_72_0]
    simp only [Option.bind_some]
    rw [hw.1.1, it_le_t (by omega) (by omega) (by omega), ok_map, ok_some, lp_r]
    exact ⟨a1, a2⟩
/-! the model -/
theorem mo_unlike (h : Core s b n pl red slip x W S st rc Rs) (hS : SgI s pl n m G) {p t : Nat} (hp : p < pl) (ht : t ≤ 3) : ok (f271 101 (iz p) (iz t) s) (fun r => fr Fz s r.1 ∧ r.2 = iz (dsO n red x.1 W S p t (fLs n red x.1 W S G m)).length) := by
  have hpl := h.p4
  have hLy := ly00 h.cn.2.1 h.cn.2.2 ht
  unfold f271
  rw [ifg_pos O_101, iz0]
  refine forzA (A := Int32) (fun N v w => fr Fz s w ∧ v = iz (dsO n red x.1 W S p t ((List.range N).filter (fW n red x.1 W S G m))).length ∧ rowI w 143 (dsO n red x.1 W S p t ((List.range N).filter (fW n red x.1 W S G m)))) 0 343 (by omega) (by omega) ⟨fr.rf _ _, rfl, fun j v hj => by cases hj⟩ (fun N v w _ hN ⟨c1, c2, c3⟩ => ?_) (fun v w ⟨c1, c2, c3⟩ => ?_)
  · have hw := Core_scr h c1
    dsimp only
    unfold f271_5 f271_85
    rw [iz343, it_le_f (by omega) (by omega) (by omega)]
    refine (mo_fits hw (SgI_z hS c1) hN).bind (fun r ⟨d0, d2, d3⟩ => ?_)
    have d1 := d0.mono Ffm_z
    rw [List.range_succ, fl_1]
    rcases d3 with ⟨d3, d4⟩ | ⟨d3, d4⟩
    · rw [d3, iz0, it_eq_f (by omega) (by omega) (by omega) (by omega) (by omega), if_pos d4]
      have hr := Core_scr hw d1
      refine (mo_wreds hr.2.1 h.2.2 hp hLy hN d2).bind (fun r2 ⟨e1, e2⟩ => ?_)
      have c3' : rowI r2.1 143 (dsO n red x.1 W S p t ((List.range N).filter (fW n red x.1 W S G m))) := (c3.fr d0 (fun _ => rfl)).fr e1 (fun _ => rfl)
      have f2 := (c1.tr d1).tr (e1.mono FD0_z)
      have ln := dsO_len (n := n) (red := red) (H := x.1) (W := W) (S := S) (p := p) (t := t) (L := (List.range N).filter (fW n red x.1 W S G m))
      have l2 := rg_len (f := fW n red x.1 W S G m) N
      rw [c2, dsO_1]
      unfold dsS
      rw [← e2]
      generalize hD : dsO n red x.1 W S p t ((List.range N).filter (fW n red x.1 W S G m)) = D at c3' ln ⊢
      refine forz (fun j z => z = r2.1 ∧ ∀ (i : Nat) (u : Int32), i < j → D[i]? = some u → u ≠ r2.2) 0 D.length (by omega) (by omega) ⟨rfl, fun i u hi => by omega⟩ (fun j z _ hj ⟨g1, g2⟩ => ?_) (fun z ⟨g1, g2⟩ => ?_)
      · subst g1
        obtain ⟨u, hu⟩ := get_ex hj
        dsimp only
        unfold f271_38
        rw [it_le_f (by omega) (by omega) (by omega)]
        simp (disch := omega) only [R_101_70, A_143, Option.bind_some, iz_in, iz_n, nat_toNat, if_true, c3' j u hu]
        by_cases q : u = r2.2
        · rw [if_pos q, ok_map]
          unfold f271_62 f271_84 f271_85
          simp (disch := omega) only [R_101_70, W_143, Option.bind_some, iz_in, iz_n, nat_toNat, if_true]
          rw [it_eq_f (by omega) (by omega) (by omega) (by omega) (by omega), ok_some, lp_r, lpA_l, iz1, iz_add, if_pos (by rw [← q]; exact List.mem_of_getElem? hu)]
          refine ⟨rfl, f2.ui rfl, rfl, fun i v hi => ?_⟩
          show xm_up r2.1.1 143 j r2.2 143 i = _
          by_cases r : i = j
          · subst r
            rw [hu] at hi
            cases hi
            rw [up_eq, q]
          · rw [up_ix _ _ r]
            exact c3' i v hi
        · rw [if_neg q, ok_some, lp_l, iz1, iz_add]
          refine ⟨rfl, rfl, fun i u' hi hu' => ?_⟩
          by_cases r : i = j
          · subst r
            rw [hu] at hu'
            cases hu'
            exact q
          · exact g2 i u' (by omega) hu'
      · subst g1
        dsimp only
        unfold f271_38
        rw [it_le_t (by omega) (by omega) (by omega), ok_map]
        unfold f271_62 f271_84 f271_85
        simp (disch := omega) only [R_101_70, W_143, Option.bind_some, iz_in, iz_n, nat_toNat, if_true]
        rw [ok_some, lp_r, lpA_l, iz1, iz_add, iz_add, if_neg (mem_no g2)]
        refine ⟨rfl, f2.ui rfl, ?_, fun i v hi => ?_⟩
        · rw [List.length_append]
          rfl
        · rcases ap_1 hi with ⟨j1, j2⟩ | ⟨j1, j2⟩
          · show xm_up r2.1.1 143 _ r2.2 143 i = _
            rw [up_ix _ _ (by omega)]
            exact c3' i v j2
          · show xm_up r2.1.1 143 _ r2.2 143 i = _
            rw [j1, j2, up_eq]
    · rw [d3, iz0, it_eq_t rfl, if_neg (by rw [d4]; decide), ok_some, lpA_l, iz1, iz_add]
      exact ⟨rfl, c1.tr d1, c2, c3.fr d0 (fun _ => rfl)⟩
  · dsimp only
    unfold f271_5
    rw [iz343, show ((343 : Nat) : Int) = 343 from rfl, it_le_t (by omega) (by omega) (by omega), ok_map, ok_some, lpA_r]
    exact ⟨c1, c2⟩
end AC
