/-! the worlds that fit, both sides -/
theorem tk_1 {L : List Nat} {k N : Nat} (h : L[k]? = some N) : L.take (k + 1) = L.take k ++ [N] := by
  rw [List.take_add_one, h]
  rfl
theorem ap_1 {α : Type} {F : List α} {j : Nat} {N M : α} (h : (F ++ [N])[j]? = some M) : (j < F.length ∧ F[j]? = some M) ∨ (j = F.length ∧ M = N) := by
  rw [List.getElem?_append] at h
  split at h
  · exact Or.inl ⟨by assumption, h⟩
  · have : j - F.length = 0 := by
      rcases Nat.eq_zero_or_pos (j - F.length) with q | q
      · exact q
      · rw [List.getElem?_eq_none (show [N].length ≤ j - F.length from q)] at h; cases h
    rw [this] at h
    simp at h
    exact Or.inr ⟨by omega, h.symm⟩
theorem lt_of_get {α : Type} {L : List α} {j : Nat} {N : α} (h : L[j]? = some N) : j < L.length := by
  rw [List.getElem?_eq_some_iff] at h
  exact h.1
theorem get_ex {α : Type} {L : List α} {j : Nat} (h : j < L.length) : ∃ N, L[j]? = some N := ⟨L[j], List.getElem?_eq_getElem h⟩
theorem fl_1 {L : List Nat} {p : Nat → Bool} {N : Nat} : (L ++ [N]).filter p = if p N = true then L.filter p ++ [N] else L.filter p := by
  rw [List.filter_append, List.filter_cons, List.filter_nil]
  by_cases q : p N = true
  · rw [if_pos q, if_pos q]
  · rw [if_neg q, if_neg q, List.append_nil]
/-- a row holds a list -/
def rowL (s : xS) (id : Nat) (L : List Nat) : Prop := ∀ (j N : Nat), L[j]? = some N → s.1 id j = iz (N : Nat)
theorem rowL.fr {F : Nat → Nat → Bool} {s s' : xS} {id : Nat} {L : List Nat} (h : rowL s id L) (hf : fr F s s') (h1 : ∀ k, F id k = false) : rowL s' id L := fun j N hj => by rw [hf.i _ _ (h1 _)]; exact h j N hj
/-- the cells red under world N where sight g tells -/
noncomputable def gB (n : Nat) (red : Int) (H W S : Nat → Int) (g : Sg) (N : Nat) : Int32 := wRd n red (sm H W S g.1) g.2.1 g.2.2.1 g.2.2.2.1 N
noncomputable def fW (n : Nat) (red : Int) (H W S : Nat → Int) (G : Nat → Sg) : Nat → Nat → Bool
  | 0, _ => true
  | i + 1, N => fW n red H W S G i N && decide (gB n red H W S (G i) N = (G i).2.2.2.2)
noncomputable def fLs (n : Nat) (red : Int) (H W S : Nat → Int) (G : Nat → Sg) (i : Nat) : List Nat := (List.range 343).filter (fW n red H W S G i)
section FW0
variable {n : Nat} {red : Int} {H W S : Nat → Int} {G : Nat → Sg}
theorem fW_no {i N : Nat} (h : fW n red H W S G i N = false) : ∀ j, fW n red H W S G (i + j) N = false
  | 0 => h
  | j + 1 => by
    show fW n red H W S G ((i + j) + 1) N = false
    rw [fW, fW_no h j]
    rfl
theorem fLs_s (i : Nat) : fLs n red H W S G (i + 1) = (fLs n red H W S G i).filter (fun N => decide (gB n red H W S (G i) N = (G i).2.2.2.2)) := by
  unfold fLs
  rw [List.filter_filter]
  congr 1
  funext N
  rw [fW, Bool.and_comm]
theorem fLs_len (i : Nat) : (fLs n red H W S G i).length ≤ 343 := by
  have h := List.length_filter_le (fW n red H W S G i) (List.range 343)
  rw [List.length_range] at h
  exact h
theorem fLs_lt {i j N : Nat} (h : (fLs n red H W S G i)[j]? = some N) : N < 343 := by
  have h1 := List.mem_of_getElem? h
  unfold fLs at h1
  rw [List.mem_filter, List.mem_range] at h1
  exact h1.1
theorem fLs_0 : fLs n red H W S G 0 = List.range 343 := by
  unfold fLs
  rw [List.filter_eq_self]
  intro a _
  rfl
end FW0
def FWc (id k : Nat) : Bool := FL id k || id == 78 || id == 79 || id == 80 || id == 81 || (id == 72 && Nat.ble 10 k)
theorem FL_Wc (id k : Nat) (h : FL id k = true) : FWc id k = true := by unfold FWc; rw [h]; rfl
def FWf (id k : Nat) : Bool := FL id k || id == 78 || (id == 72 && (k == 10 || k == 11))
theorem FL_Wf (id k : Nat) (h : FL id k = true) : FWf id k = true := by unfold FWf; rw [h]; rfl
theorem FWf_c (id k : Nat) (h : FWf id k = true) : FWc id k = true := by
  unfold FWf at h
  simp only [Bool.or_eq_true, Bool.and_eq_true, beq_iff_eq] at h
  rcases h with (h | rfl) | ⟨rfl, rfl | rfl⟩
  · exact FL_Wc id k h
  · rfl
  · rfl
  · rfl
def Fff (id k : Nat) : Bool := FL id k || id == 78 || (id == 72 && k == 10)
theorem FL_ff (id k : Nat) (h : FL id k = true) : Fff id k = true := by unfold Fff; rw [h]; rfl
theorem Fff_f (id k : Nat) (h : Fff id k = true) : FWf id k = true := by
  unfold Fff at h
  simp only [Bool.or_eq_true, Bool.and_eq_true, beq_iff_eq] at h
  rcases h with (h | rfl) | ⟨rfl, rfl⟩
  · exact FL_Wf id k h
  · rfl
  · rfl
theorem Fff_c (id k : Nat) (h : Fff id k = true) : FWc id k = true := FWf_c id k (Fff_f id k h)
def Fsf (id k : Nat) : Bool := FRw id k || id == 78
theorem FRw_sf (id k : Nat) (h : FRw id k = true) : Fsf id k = true := by unfold Fsf; rw [h]; rfl
theorem Fsf_ff (id k : Nat) (h : Fsf id k = true) : Fff id k = true := by
  unfold Fsf at h
  rw [Bool.or_eq_true, beq_iff_eq] at h
  rcases h with h | rfl
  · exact FL_ff id k (FRw_L id k h)
  · rfl
theorem FWc_R (id k : Nat) (h1 : 11 ≤ id) (h2 : id ≤ 20) : FWc id k = false := by
  have : id = 11 ∨ id = 12 ∨ id = 13 ∨ id = 14 ∨ id = 15 ∨ id = 16 ∨ id = 17 ∨ id = 18 ∨ id = 19 ∨ id = 20 := by omega
  rcases this with rfl | rfl | rfl | rfl | rfl | rfl | rfl | rfl | rfl | rfl <;> rfl
theorem FWc_h {id k : Nat} (h : 100 < id) : FWc id k = false := by
  unfold FWc FL
  rw [ble_f (show 50 < id by omega), show (id == 39) = false by rw [beq_eq_false_iff_ne]; omega, show (id == 78) = false by rw [beq_eq_false_iff_ne]; omega, show (id == 79) = false by rw [beq_eq_false_iff_ne]; omega, show (id == 80) = false by rw [beq_eq_false_iff_ne]; omega, show (id == 81) = false by rw [beq_eq_false_iff_ne]; omega, show (id == 72) = false by rw [beq_eq_false_iff_ne]; omega, Bool.and_false]
  rfl
section CW2
variable {s : xS} {b n pl : Nat} {red slip : Int} {x : sS} {W S : Nat → Int} {st : Int32} {rc : Nat} {Rs : Nat → Rn} {m : Nat} {G : Nat → Sg}
theorem Core_Wc {s' : xS} (h : Core s b n pl red slip x W S st rc Rs) (hf : fr FWc s s') : Core s' b n pl red slip x W S st rc Rs :=
  ⟨h.1.fr hf (fun _ => rfl) (fun _ => rfl) (fun _ => rfl) (fun _ => rfl) (fun _ => rfl) rfl FWc_R h.rc10, h.2.1.fr hf ⟨rfl, rfl, rfl, rfl, rfl⟩ (fun _ => rfl) (fun _ => rfl) (fun _ => rfl) (fun _ => rfl) (fun _ _ => rfl) (fun _ => rfl) (fun _ => rfl) (fun _ => rfl) (fun _ => rfl) (fun id k h1 _ _ => FWc_h (by omega)) h.rc10, h.2.2⟩
theorem SgI_Wc {s' : xS} (h : SgI s pl n m G) (hf : fr FWc s s') : SgI s' pl n m G := h.fr hf rfl rfl (fun _ => ⟨rfl, rfl, rfl, rfl, rfl⟩) (fun _ => ⟨rfl, rfl, rfl, rfl, rfl⟩)
/-- the list of the worlds that fit -/
def FtL (s : xS) (L : List Nat) : Prop := s.1 72 10 = iz L.length ∧ rowL s 78 L
theorem FtL.fr {F : Nat → Nat → Bool} {s' : xS} {L : List Nat} (h : FtL s L) (hf : fr F s s') (h1 : F 72 10 = false) (h2 : ∀ k, F 78 k = false) : FtL s' L := ⟨by rw [hf.i _ _ h1]; exact h.1, h.2.fr hf h2⟩
theorem sm_b (h : Core s b n pl red slip x W S st rc Rs) {p : Nat} (hp : p < 4) (c : Nat) (hc : c < n * n) : -2500 ≤ sm x.1 W S p c ∧ sm x.1 W S p c ≤ 2500 := by
  have sq := h.cn.sq
  have := Bd_sm h.bd hp (show c < 25 by omega)
  omega
/-- how a world is laid on a plate: what the class puts down first -/
theorem cl_wput (h : Core s b n pl red slip x W S st rc Rs) {p t : Nat} {u v : Int} (hp : p < pl) (hL : Ly n t u v) : ok (f27 39 (iz t) (iz u) (iz v) s) (fun z => fr FL s z.1 ∧ ok (f5 33 (iz p) (iz (n * n : Nat)) 46 z.1) (fun r => fr FL s r.1 ∧ CM r.1 n t u v ∧ ∀ c, c < n * n → r.1.1 46 c = iz (sm x.1 W S p c))) := by
  have hpl := h.p4
  have sq := h.cn.sq
  refine (cl_match h.cn hL).mono (fun r1 ⟨a1, a2⟩ => ⟨a1.mono FM_FL, ?_⟩)
  have h1 := Core_scr h (a1.mono (fun id k hk => FL_z id k (FM_FL id k hk)))
  refine (cl_copy is33 h1.1.2.2.2.2.1 (show p < 4 by omega) sq (Or.inl rfl)).mono (fun r2 ⟨b1, b2⟩ => ⟨(a1.mono FM_FL).tr (b1.mono (fun id k hk => ?_)), a2.fr b1 rfl (fun _ => rfl) (fun _ => rfl), b2⟩)
  rw [beq_iff_eq] at hk
  subst hk
  rfl
theorem cl_sift (h : Core s b n pl red slip x W S st rc Rs) (hS : SgI s pl n m G) {i : Nat} (hi : i < m) {L : List Nat} (hL : FtL s L) (hl : L.length ≤ 343) (hlt : ∀ (j N : Nat), L[j]? = some N → N < 343) : ok (f113 72 (iz i) s) (fun r => fr Fff s r.1 ∧ FtL r.1 (L.filter (fun N => decide (gB n red x.1 W S (G i) N = (G i).2.2.2.2)))) := by
  have hm := hS.1
  have sq := h.cn.sq
  obtain ⟨g1, g2, g3, g4, g5, -, -, -, -, -, gp, gL⟩ := hS.2.2.2 i hi
  have hpl := h.p4
  unfold f113
  rw [ifg_pos O_72]
  simp (disch := omega) only [R_72_2, R_72_4, R_72_5, R_72_6, R_72_1, R_72_3, R_72_0, R_39_2, Option.bind_some, A_74, A_75, A_76, iz_in, iz_n, nat_toNat, if_true, g2, g3, g4]
  refine (cl_wput h gp gL).bind (fun r1 ⟨a1, a2⟩ => ?_)
  have h1 := Core_scr h (a1.mono FL_z)
  have e1 : r1.1.1 73 i = iz (G i).1 := by rw [a1.i _ _ rfl]; exact g1
  simp (disch := omega) only [Option.bind_some, A_73, iz_in, iz_n, nat_toNat, if_true, e1, h1.cn.cells]
  refine a2.bind (fun r2 ⟨b1, b2, b3⟩ => ?_)
  have h2 := Core_scr h (b1.mono FL_z)
  have hL2 : FtL r2.1 L := hL.fr b1 rfl (fun _ => rfl)
  have e77 : r2.1.1 77 i = (G i).2.2.2.2 := by rw [b1.i _ _ rfl]; exact g5
  simp only [iz0]
  refine forzA (A := Int32) (fun k v w => fr Fsf r2.1 w ∧ v = iz (((L.take k).filter (fun N => decide (gB n red x.1 W S (G i) N = (G i).2.2.2.2))).length : Nat) ∧ rowL w 78 ((L.take k).filter (fun N => decide (gB n red x.1 W S (G i) N = (G i).2.2.2.2))) ∧ ∀ (j N : Nat), k ≤ j → L[j]? = some N → w.1 78 j = iz (N : Nat)) 0 L.length (by omega) (by omega) ⟨fr.rf _ _, rfl, fun j N hj => by simp at hj, fun j N _ hj => hL2.2 j N hj⟩ (fun k v w _ hk ⟨c1, c2, c3, c4⟩ => ?_) (fun v w ⟨c1, c2, c3, c4⟩ => ?_)
  · obtain ⟨N, hN⟩ := get_ex hk
    have hN3 := hlt k N hN
    have cn := h2.cn.fr c1 rfl
    have w10 : w.1 72 10 = iz L.length := by rw [c1.i _ _ rfl]; exact hL2.1
    have w78 := c4 k N (Nat.le_refl _) hN
    have hF : ((L.take k).filter (fun N => decide (gB n red x.1 W S (G i) N = (G i).2.2.2.2))).length ≤ k := by
      have q1 := List.length_filter_le (fun N => decide (gB n red x.1 W S (G i) N = (G i).2.2.2.2)) (L.take k)
      have q2 : (L.take k).length ≤ k := by rw [List.length_take]; omega
      omega
    dsimp only
    unfold f113_56 f113_98
    rw [w10, it_le_f (by omega) (by omega) (by omega)]
    simp (disch := omega) only [R_72_9, Option.bind_some, A_78, iz_in, iz_n, nat_toNat, if_true, w78]
    refine (cl_wreds cn gL (b2.fr c1 rfl (fun _ => rfl) (fun _ => rfl)) (A := sm x.1 W S (G i).1) (fun c hc => by rw [c1.i _ _ rfl]; exact b3 c hc) (sm_b h (by omega)) (by rw [c1.i _ _ rfl]; exact h2.1.2.2.1) h.2.2.2.2.2.1 h.2.2.2.2.2.2.1 hN3).bind (fun r3 ⟨d1, d2⟩ => ?_)
    have d78 : r3.1.1 78 k = iz N := by rw [d1.i _ _ rfl]; exact w78
    have d77 : r3.1.1 77 i = (G i).2.2.2.2 := by rw [d1.i _ _ rfl, c1.i _ _ rfl]; exact e77
    have f3 := c1.tr (d1.mono FRw_sf)
    simp (disch := omega) only [R_72_7, R_72_9, Option.bind_some, A_77, A_78, iz_in, iz_n, nat_toNat, if_true, d77, d78]
    rw [tk_1 hN, fl_1]
    by_cases q : gB n red x.1 W S (G i) N = (G i).2.2.2.2
    · rw [if_pos (d2.trans q), c2]
      simp (disch := omega) only [W_78, iz_in, iz_n, nat_toNat, if_true, Option.bind_some, iz1, iz_add]
      rw [if_pos (by rw [decide_eq_true_eq]; exact q), ok_some, lpA_l]
      refine ⟨rfl, f3.ui rfl, ?_, fun j M hj => ?_, fun j M hj1 hj2 => ?_⟩
      · rw [List.length_append]
        rfl
      · rcases ap_1 hj with ⟨j1, j2⟩ | ⟨j1, j2⟩
        · show xm_up r3.1.1 78 _ (iz N) 78 j = _
          rw [up_ix _ _ (by omega), d1.i _ _ rfl]
          exact c3 j M j2
        · show xm_up r3.1.1 78 _ (iz N) 78 j = _
          rw [j1, j2, up_eq]
      · show xm_up r3.1.1 78 _ (iz N) 78 j = _
        rw [up_ix _ _ (by omega), d1.i _ _ rfl]
        exact c4 j M (by omega) hj2
    · rw [if_neg (fun e => q (d2.symm.trans e)), if_neg (by rw [decide_eq_true_eq]; exact q), ok_some, lpA_l, iz1, iz_add]
      exact ⟨rfl, f3, c2, c3.fr d1 (fun _ => rfl), fun j M hj1 hj2 => by rw [d1.i _ _ rfl]; exact c4 j M (by omega) hj2⟩
  · have w10 : w.1 72 10 = iz L.length := by rw [c1.i _ _ rfl]; exact hL2.1
    dsimp only
    unfold f113_56
    rw [w10, it_le_t (by omega) (by omega) (by omega)]
    simp only [pI, Option.bind_some, ok_map, ok_some, lpA_r]
    rw [List.take_length] at c2 c3
    refine ⟨((b1.mono FL_ff).tr (c1.mono Fsf_ff)).ui rfl, ?_, fun j N hj => ?_⟩
    · show xm_up w.1 72 10 v 72 10 = _
      rw [up_eq, c2]
    · show xm_up w.1 72 10 v 78 j = _
      rw [up_id _ _ (by omega)]
      exact c3 j N hj
theorem cl_findF (h : Core s b n pl red slip x W S st rc Rs) (hS : SgI s pl n m G) : ok (f112 72 s) (fun r => fr Fff s r.1 ∧ FtL r.1 (fLs n red x.1 W S G m)) := by
  have hm := hS.1
  unfold f112
  rw [ifg_pos O_72]
  simp only [pI, Option.bind_some, iz0, iz343]
  have f0 : fr Fff s (xm_up s.1 72 10 (iz 343), s.2) := (fr.rf Fff s).ui (v := iz 343) (id := 72) (k := 10) rfl
  refine forz (fun N w => fr Fff s w ∧ w.1 72 10 = iz 343 ∧ ∀ j, j < N → w.1 78 j = iz (j : Nat)) 0 343 (by omega) (by omega) ⟨f0, (by first | exact up_eqP _ _ _ _ _ | exact up_eq _ _ _ _), fun j hj => by omega⟩ (fun N w _ hN ⟨a1, a2, a3⟩ => ?_) (fun w ⟨a1, a2, a3⟩ => ?_)
  · dsimp only
    unfold f112_9
    rw [iz343, it_le_f (by omega) (by omega) (by omega)]
    simp (disch := omega) only [R_72_9, W_78, Option.bind_some, iz_in, iz_n, nat_toNat, if_true, iz1, iz_add, ok_some, lp_l, true_and]
    refine ⟨a1.ui rfl, ?_, fun j hj => ?_⟩
    · show xm_up w.1 78 N _ 72 10 = _
      rw [up_id _ _ (by omega)]
      exact a2
    · show xm_up w.1 78 N _ 78 j = _
      by_cases q : j = N
      · rw [q, up_eq]
      · rw [up_ix _ _ q]
        exact a3 j (by omega)
  · dsimp only
    unfold f112_9
    rw [iz343, show ((343 : Nat) : Int) = 343 from rfl, it_le_t (by omega) (by omega) (by omega), ok_map, iz0]
    refine forz (fun i w => fr Fff s w ∧ FtL w (fLs n red x.1 W S G i)) 0 m (by omega) (by omega) ⟨a1, by rw [fLs_0, List.length_range]; exact a2, fun j N hj => ?_⟩ (fun i w _ hi ⟨b1, b2⟩ => ?_) (fun w ⟨b1, b2⟩ => ?_)
    · rw [fLs_0] at hj
      have hj1 := lt_of_get hj
      rw [List.length_range] at hj1
      rw [List.getElem?_range hj1] at hj
      cases hj
      exact a3 _ hj1
    · have hw := Core_Wc h (b1.mono Fff_c)
      have hSw := SgI_Wc hS (b1.mono Fff_c)
      dsimp only
      unfold f112_31
      rw [hSw.2.1, it_le_f (by omega) (by omega) (by omega)]
      refine (cl_sift hw hSw hi b2 (fLs_len i) (fun j N hj => fLs_lt hj)).bind (fun r ⟨c1, c2⟩ => ?_)
      rw [ok_some, lp_l, iz1, iz_add, fLs_s]
      exact ⟨rfl, b1.tr c1, c2⟩
    · have hSw := SgI_Wc hS (b1.mono Fff_c)
      dsimp only
      unfold f112_31
      rw [hSw.2.1, it_le_t (by omega) (by omega) (by omega), ok_map, ok_some, lp_r, lp_r]
      exact ⟨b1, b2⟩
/-- the kept list -/
def FtI (s : xS) (n : Nat) (red : Int) (H W S : Nat → Int) (m : Nat) (G : Nat → Sg) : Prop := s.1 72 11 = iz 0 ∨ (s.1 72 11 = iz 1 ∧ FtL s (fLs n red H W S G m))
theorem cl_count (h : Core s b n pl red slip x W S st rc Rs) (hS : SgI s pl n m G) (hF : FtI s n red x.1 W S m G) : ok (f111 72 s) (fun r => fr FWf s r.1 ∧ r.1.1 72 11 = iz 1 ∧ FtL r.1 (fLs n red x.1 W S G m) ∧ r.2 = iz (fLs n red x.1 W S G m).length) := by
  unfold f111 f111_16
  rw [ifg_pos O_72]
  rcases hF with h1 | ⟨h1, h2⟩
  · rw [h1, iz0, it_eq_t rfl]
    simp only [pI, Option.bind_some, iz1]
    have f0 : fr FWf s (xm_up s.1 72 11 (iz 1), s.2) := (fr.rf FWf s).ui (v := iz 1) (id := 72) (k := 11) rfl
    refine (cl_findF (Core_Wc h (f0.mono FWf_c)) (SgI_Wc hS (f0.mono FWf_c))).bind (fun r ⟨a1, a2, a3⟩ => ?_)
    rw [ok_some]
    exact ⟨f0.tr (a1.mono Fff_f), (a1.i 72 11 rfl).trans (by first | exact up_eqP _ _ _ _ _ | exact up_eq _ _ _ _), ⟨a2, a3⟩, a2⟩
  · rw [h1, iz0, it_eq_f (by omega) (by omega) (by omega) (by omega) (by omega), ok_some]
    exact ⟨fr.rf _ _, h1, h2, h2.1⟩
end CW2
