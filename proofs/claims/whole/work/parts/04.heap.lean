/-- the world of a heap of numbered cells: cell id lies at h + id -/
def xm_en (fty : Nat → Nat → FieldType) (cA : Nat → Nat) (h b : Nat) (σ : xH) (id : Nat) : Nat × va_E := (h + id, match σ.1[id]? with
  | none => .inr (0, [])
  | some (k, n) => if k < 20 then .inr (k, (List.range n).map (fun j => xm_rel h b (xm_fv fty σ k id j)))
    else if k < 23 then .inl (cA k, n, .inl (σ.2.1 id))
    else if k = 23 then .inl (cA k, n, .inr (.inl (σ.2.2.1 id)))
    else .inl (cA k, n, .inr (.inr (.inr (.inr (fun i => (σ.2.2.2 id i).map (fun a => h + a)))))))
def xm_w (fty : Nat → Nat → FieldType) (cA : Nat → Nat) (h b : Nat) (σ : xH) : va_W := (List.range σ.1.length).map (xm_en fty cA h b σ)
def xm_A (h : Nat) : Nat → Prop := fun q => h ≤ q
def xm_tys (cA : Nat → Nat) : List (ClassId × FieldType) := [(cA 20, xm_ty 20), (cA 21, xm_ty 21), (cA 22, xm_ty 22), (cA 23, xm_ty 23), (cA 24, xm_ty 24), (cA 25, xm_ty 25)]
theorem xm_w_at {fty : Nat → Nat → FieldType} {cA : Nat → Nat} {h b : Nat} {σ : xH} {id : Nat} (hid : id < σ.1.length) : (xm_w fty cA h b σ)[id]? = some (xm_en fty cA h b σ id) := by
  unfold xm_w
  rw [List.getElem?_map, List.getElem?_range hid]
  rfl
theorem xm_w_lt {fty : Nat → Nat → FieldType} {cA : Nat → Nat} {h b : Nat} {σ : xH} {id : Nat} {x : Nat × va_E} (hx : (xm_w fty cA h b σ)[id]? = some x) : id < σ.1.length ∧ x = xm_en fty cA h b σ id := by
  have h1 : id < (xm_w fty cA h b σ).length := (List.getElem?_eq_some_iff.mp hx).1
  have h2 : id < σ.1.length := by simpa [xm_w] using h1
  exact ⟨h2, Option.some.inj (hx.symm.trans (xm_w_at h2))⟩
theorem xm_D (fty : Nat → Nat → FieldType) (cA : Nat → Nat) (h b : Nat) (σ : xH) : va_D (xm_A h) (xm_w fty cA h b σ) := by
  refine ⟨fun i j p q hp hq he => ?_, fun k q hq => ?_⟩
  · obtain ⟨-, rfl⟩ := xm_w_lt hp
    obtain ⟨-, rfl⟩ := xm_w_lt hq
    have he : h + i = h + j := he
    omega
  · obtain ⟨-, rfl⟩ := xm_w_lt hq
    exact Nat.le_add_right h k
theorem xm_en_ext {fty : Nat → Nat → FieldType} {cA : Nat → Nat} {h b : Nat} {σ τ : xH} {id : Nat} (h0 : τ.1[id]? = σ.1[id]?) (h1 : τ.2.1 id = σ.2.1 id) (h2 : τ.2.2.1 id = σ.2.2.1 id) (h3 : τ.2.2.2 id = σ.2.2.2 id) : xm_en fty cA h b τ id = xm_en fty cA h b σ id := by
  have hf : ∀ k j, xm_fv fty τ k id j = xm_fv fty σ k id j := fun k j => by
    unfold xm_fv
    rw [h1, h2, h3]
  unfold xm_en
  rw [h0, h1, h2, h3]
  simp only [hf]
theorem xm_w_set {fty : Nat → Nat → FieldType} {cA : Nat → Nat} {h b : Nat} {σ τ : xH} {id : Nat} {x : Nat × va_E} (h0 : τ.1 = σ.1) (hid : id < σ.1.length) (he : xm_en fty cA h b τ id = x)
    (ho : ∀ j, j ≠ id → τ.2.1 j = σ.2.1 j ∧ τ.2.2.1 j = σ.2.2.1 j ∧ τ.2.2.2 j = σ.2.2.2 j) : (xm_w fty cA h b σ).set id x = xm_w fty cA h b τ := by
  refine List.ext_getElem? fun j => ?_
  by_cases hj : j < σ.1.length
  · rw [xm_w_at (by rw [h0]; exact hj), List.getElem?_set, xm_w_at hj]
    by_cases hji : id = j
    · subst hji
      rw [if_pos rfl, if_pos (by simpa [xm_w] using hid), he]
    · rw [if_neg hji]
      obtain ⟨g1, g2, g3⟩ := ho j (fun q => hji q.symm)
      rw [xm_en_ext (τ := τ) (σ := σ) (by rw [h0]) g1 g2 g3]
  · rw [List.getElem?_eq_none (by simp [xm_w]; omega), List.getElem?_eq_none (by simp [xm_w, h0]; omega)]
theorem xm_up_ne {α : Type} {f : Nat → Nat → α} {a i : Nat} {v : α} {b : Nat} (hb : b ≠ a) : xm_up f a i v b = f b := by
  funext j
  simp [xm_up, hb]
theorem xm_up_self {f : Nat → Nat → Int32} {a i : Nat} {v : Int32} : xm_up f a i v a = upd (f a) i v := by
  funext j
  simp [xm_up, upd]
theorem xm_up_selfL {f : Nat → Nat → Int64} {a i : Nat} {v : Int64} : xm_up f a i v a = vp_updL (f a) i v := by
  funext j
  simp [xm_up, vp_updL]
theorem xm_en_obj {fty : Nat → Nat → FieldType} {cA : Nat → Nat} {h b : Nat} {σ : xH} {id k n : Nat} (hk : σ.1[id]? = some (k, n)) (h20 : k < 20) : xm_en fty cA h b σ id = (h + id, .inr (k, (List.range n).map (fun j => xm_rel h b (xm_fv fty σ k id j)))) := by
  unfold xm_en
  rw [hk]
  simp only [h20, if_true]
theorem xm_en_i {fty : Nat → Nat → FieldType} {cA : Nat → Nat} {h b : Nat} {σ : xH} {id k n : Nat} (hk : σ.1[id]? = some (k, n)) (h20 : ¬ k < 20) (h23 : k < 23) : xm_en fty cA h b σ id = (h + id, .inl (cA k, n, .inl (σ.2.1 id))) := by
  unfold xm_en
  rw [hk]
  simp only [h20, h23, if_true, if_false]
theorem xm_en_l {fty : Nat → Nat → FieldType} {cA : Nat → Nat} {h b : Nat} {σ : xH} {id n : Nat} (hk : σ.1[id]? = some (23, n)) : xm_en fty cA h b σ id = (h + id, .inl (cA 23, n, .inr (.inl (σ.2.2.1 id)))) := by
  unfold xm_en
  rw [hk]
  rfl
theorem xm_en_q {fty : Nat → Nat → FieldType} {cA : Nat → Nat} {h b : Nat} {σ : xH} {id k n : Nat} (hk : σ.1[id]? = some (k, n)) (h24 : 23 < k) : xm_en fty cA h b σ id = (h + id, .inl (cA k, n, .inr (.inr (.inr (.inr (fun i => (σ.2.2.2 id i).map (fun a => h + a))))))) := by
  unfold xm_en
  rw [hk]
  simp only [show ¬ k < 20 by omega, show ¬ k < 23 by omega, show ¬ k = 23 by omega, if_false]
theorem xm_rel_rf (h b : Nat) (r : Option Nat) : xm_rel h b (va_rf r) = va_rf (r.map (fun a => h + a)) := by cases r <;> rfl
theorem xm_in_ok {i : Int32} {n : Nat} (h : xm_in i n = true) : vp_in i n := by
  unfold xm_in at h
  simp only [Bool.and_eq_true, decide_eq_true_eq] at h
  intro q
  rcases q with q | q
  · exact absurd q (Int32.not_lt.mpr h.1)
  · omega
/-- what the program must say of its classes -/
def xm_clok (Tb : List Cond) (cl : List vw_C) (fty : Nat → Nat → FieldType) : Prop := (∀ (ci : Nat) (r : vw_C), cl[ci]? = some r → (∀ w ∈ u_ws r.1 r.2.1 r.2.2, w ∈ Tb) ∧ (∀ k, k < r.2.2 → parseFieldDescriptor (r.2.1 k).2.2.1 = some (fty ci k)) ∧
  (∀ a, a < r.2.2 → ∀ b, b < r.2.2 → a ≠ b → (r.2.1 a).2.1 ≠ (r.2.1 b).2.1) ∧ ci < 20 ∧ Cond.instantiable r.1 r.2.2 ∈ Tb ∧ Cond.initialized r.1 ∈ Tb ∧ ∀ k, k < r.2.2 → fty ci k ≠ .float ∧ fty ci k ≠ .double) ∧
  (∃ r, cl[0]? = some r ∧ r.1 = "ThreePlates$Bench") ∧ (∃ r, cl[6]? = some r ∧ r.1 = "ThreePlates$Round")
/-- what the tables must say for a load or a store of a field -/
def xm_lkh (Tb : List Cond) (cl : List vw_C) (own mn : String) (q : xI) : Prop := match q.1 with
  | .getfield i => ∃ r, cl[q.2.1]? = some r ∧ q.2.2 < r.2.2 ∧ Cond.fieldLink own i (r.2.1 q.2.2).1 (r.2.1 q.2.2).2.1 (r.2.1 q.2.2).2.2.1 ∈ Tb
  | .putfield i => ∃ r, cl[q.2.1]? = some r ∧ q.2.2 < r.2.2 ∧ Cond.fieldLink own i (r.2.1 q.2.2).1 (r.2.1 q.2.2).2.1 (r.2.1 q.2.2).2.2.1 ∈ Tb ∧ ((r.2.1 q.2.2).2.2.2 = true → mn = "<init>" ∧ (r.2.1 q.2.2).1 = own)
  | _ => True
theorem xm_set_fs {fty : Nat → Nat → FieldType} {h b : Nat} {σ τ : xH} {ci id n k : Nat} {v : Value} (hk : xm_rel h b (xm_fv fty τ ci id k) = v) (ho : ∀ j, j ≠ k → xm_fv fty τ ci id j = xm_fv fty σ ci id j) :
    (List.range n).map (fun j => xm_rel h b (xm_fv fty τ ci id j)) = ((List.range n).map (fun j => xm_rel h b (xm_fv fty σ ci id j))).set k v := by
  refine List.ext_getElem? fun j => ?_
  rw [List.getElem?_set, List.getElem?_map, List.getElem?_map, List.length_map, List.length_range]
  by_cases hj : j < n
  · rw [List.getElem?_range hj]
    by_cases hjk : k = j
    · subst hjk
      rw [if_pos rfl, if_pos hj]
      exact congrArg some hk
    · rw [if_neg hjk]
      show some (xm_rel h b (xm_fv fty τ ci id j)) = some (xm_rel h b (xm_fv fty σ ci id j))
      rw [ho j (fun q => hjk q.symm)]
  · rw [List.getElem?_eq_none (by simp; omega)]
    by_cases hjk : k = j
    · rw [if_pos hjk, if_neg (by omega)]
      rfl
    · rw [if_neg hjk]
      rfl
section XH
variable {p : Program} {l0 : Launch} {e : Env} {R : Room} {s : State} {m : MethodId} {args : Array Value} {below : List Frame} {meth : Method} {c : Code} {H H0 : Heap} {locs : List Loc} {cells slots : Nat} {Q : State → Prop}
variable {cc : ByteArray} {pc : Nat} {ls : Array Slot} {h b : Nat} {Tb : List Cond} {own : String} {cl : List vw_C} {fty : Nat → Nat → FieldType} {cA : Nat → Nat} {D : va_G} {sc : Option (Nat × (Nat → Int32))}
/-- a field is stored -/
theorem xm_put {σ τ : xH} {id k n i ci : Nat} {v : Value} {r : vw_C} {st : List Value} (hx : p.tables.exec = Jvm.exec) (hb : c.code = cc) (hown : s.vm.findClass own = some m.cls) (hts : ∀ w ∈ Tb, w.before args s = true) (hcl : xm_clok Tb cl fty)
    (hr : cl[ci]? = some r) (hk : k < r.2.2) (hlk : Cond.fieldLink own i (r.2.1 k).1 (r.2.1 k).2.1 (r.2.1 k).2.2.1 ∈ Tb) (hfi : (r.2.1 k).2.2.2 = true → meth.name = "<init>" ∧ (r.2.1 k).1 = own) (hd : decode cc pc = .ok (.putfield i, 3))
    (hK : va_K D cl (xm_tys cA) s) (hP : va_P D cl (xm_w fty cA h b σ) H) (hS : va_S (xm_A h) H0 H locs) (hks : σ.1[id]? = some (ci, n)) (hkn : k < n) (h0 : τ.1 = σ.1)
    (ho : ∀ j, j ≠ id → τ.2.1 j = σ.2.1 j ∧ τ.2.2.1 j = σ.2.2.1 j ∧ τ.2.2.2 j = σ.2.2.2 j) (hn : narrow (fty ci k) (xm_rel h b v) = xm_rel h b v) (hfit : fits (fty ci k) (xm_rel h b v) = true)
    (hv : xm_fv fty τ ci id k = v) (hvo : ∀ j, j ≠ k → xm_fv fty τ ci id j = xm_fv fty σ ci id j)
    (kk : ∀ (H1 : Heap) (locs1 : List Loc), va_P D cl (xm_w fty cA h b τ) H1 → va_S (xm_A h) H0 H1 locs1 → W p l0 e R s m args below meth c H1 locs1 cells slots Q (F0 m (pc + 3) ls (st.map (xm_rel h b)))) :
    W p l0 e R s m args below meth c H locs cells slots Q (F0 m pc ls (xm_rel h b v :: .ref (h + id) :: st.map (xm_rel h b))) := by
  obtain ⟨rC, rT, rN⟩ := r
  obtain ⟨c1, c2, c3, c4, -, -⟩ := hcl.1 ci _ hr
  have hid : id < σ.1.length := (List.getElem?_eq_some_iff.mp hks).1
  have he : (xm_w fty cA h b σ)[id]? = some (h + id, .inr (ci, (List.range n).map (fun j => xm_rel h b (xm_fv fty σ ci id j)))) := by rw [xm_w_at hid, xm_en_obj hks c4]
  have hw : (xm_w fty cA h b σ).set id (h + id, .inr (ci, ((List.range n).map (fun j => xm_rel h b (xm_fv fty σ ci id j))).set k (xm_rel h b v))) = xm_w fty cA h b τ := by
    refine xm_w_set h0 hid ?_ ho
    rw [xm_en_obj (by rw [h0]; exact hks) c4, xm_set_fs (v := xm_rel h b v) (by rw [hv]) hvo]
  have kk' : ∀ (H1 : Heap) (locs1 : List Loc), va_P D cl ((xm_w fty cA h b σ).set id (h + id, .inr (ci, ((List.range n).map (fun j => xm_rel h b (xm_fv fty σ ci id j))).set k (xm_rel h b v)))) H1 → va_D (xm_A h) ((xm_w fty cA h b σ).set id (h + id, .inr (ci, ((List.range n).map (fun j => xm_rel h b (xm_fv fty σ ci id j))).set k (xm_rel h b v)))) → va_S (xm_A h) H0 H1 locs1 → W p l0 e R s m args below meth c H1 locs1 cells slots Q (F0 m (pc + 3) ls (st.map (xm_rel h b))) := by
    intro H1 locs1 g1 _ g3
    rw [hw] at g1
    exact kk H1 locs1 g1 g3
  cases hf : (rT k).2.2.2 with
  | false => exact va_put hx hb hts c1 (fty ci) c2 c3 hown hK hP (xm_D fty cA h b σ) hS id he hr k hk (hts _ hlk) (fun _ q => q) hf (c2 k hk) hn hfit (by simpa using hkn) hd kk'
  | true =>
    obtain ⟨f1, f2⟩ := hfi hf
    exact va_putF hx hb hts c1 (fty ci) c2 c3 hown hK hP (xm_D fty cA h b σ) hS id he hr k hk (hts _ hlk) (fun _ q => q) hf f1 f2 (c2 k hk) hn hfit (by simpa using hkn) hd kk'
theorem xm_isI_ok {ci k : Nat} {x : Int32} (hi : xm_isI fty ci k x = true) : xm_cat (fty ci k) = 0 ∧ narrow (fty ci k) (.int x) = .int x ∧ fits (fty ci k) (.int x) = true := by
  unfold xm_isI at hi
  cases hf : fty ci k with
  | int => exact ⟨rfl, rfl, rfl⟩
  | boolean =>
    rw [hf] at hi
    simp only [Bool.or_eq_true, beq_iff_eq] at hi
    rcases hi with rfl | rfl
    · exact ⟨rfl, rfl, rfl⟩
    · exact ⟨rfl, rfl, rfl⟩
  | _ => rw [hf] at hi; cases hi
theorem xm_cat2 {t : FieldType} (h2 : xm_cat t = 2) (a : Nat) : narrow t (.ref a) = .ref a ∧ fits t (.ref a) = true := by
  cases t <;> first | exact ⟨rfl, rfl⟩ | cases h2
set_option maxHeartbeats 4000000 in
theorem xm_h_ok {q : xI} {σ τ : xH} {st st' : List Value} (hx : p.tables.exec = Jvm.exec) (hb : c.code = cc) (hown : s.vm.findClass own = some m.cls) (hts : ∀ w ∈ Tb, w.before args s = true) (hcl : xm_clok Tb cl fty)
    (hlk : xm_lkh Tb cl own meth.name q) (hd : decode cc pc = .ok (q.1, xm_len q.1)) (hK : va_K D cl (xm_tys cA) s) (hP : va_P D cl (xm_w fty cA h b σ) H) (hS : va_S (xm_A h) H0 H locs)
    (hX : ∀ L xs, sc = some (L, xs) → va_X b L xs s H0 ∧ b < H0.size ∧ b < h) (hp : xm_h fty sc q st σ = some (st', τ))
    (kk : ∀ (H1 : Heap) (locs1 : List Loc), va_P D cl (xm_w fty cA h b τ) H1 → va_S (xm_A h) H0 H1 locs1 → W p l0 e R s m args below meth c H1 locs1 cells slots Q (F0 m (pc + xm_len q.1) ls (st'.map (xm_rel h b)))) :
    W p l0 e R s m args below meth c H locs cells slots Q (F0 m pc ls (st.map (xm_rel h b))) := by
  obtain ⟨ins, qa, qb⟩ := q
  cases ins with
  | getfield i =>
    match st, hp with
    | .ref id :: r, hq =>
      simp only [xm_h] at hq
      split at hq
      · rename_i k n hks
        split at hq
        · rename_i hc
          obtain ⟨rfl, hc⟩ := hc
          cases hq
          obtain ⟨⟨rC, rT, rN⟩, r1, r2, r3⟩ := hlk
          obtain ⟨c1, c2, c3, c4, -, -⟩ := hcl.1 _ _ r1
          have hid : id < σ.1.length := (List.getElem?_eq_some_iff.mp hks).1
          exact va_get hx hb hts c1 hown hK hP id ((xm_w_at hid).trans (by rw [xm_en_obj hks c4])) r1 qb r2 (hts _ r3) (fun _ q => q) (by rw [List.getElem?_map, List.getElem?_range hc]; rfl) hd (kk _ _ hP hS)
        · cases hq
      · cases hq
  | putfield i =>
    obtain ⟨rr, r1, r2, r3, r4⟩ := hlk
    match st, hp with
    | .int x :: .ref id :: r, hq =>
      simp only [xm_h] at hq
      split at hq
      · rename_i k n hks
        split at hq
        · rename_i hc
          obtain ⟨rfl, hc, hi⟩ := hc
          cases hq
          obtain ⟨i1, i2, i3⟩ := xm_isI_ok hi
          exact xm_put (v := .int x) (τ := (σ.1, xm_up σ.2.1 id qb x, σ.2.2.1, σ.2.2.2)) hx hb hown hts hcl r1 r2 r3 r4 hd hK hP hS hks hc rfl (fun j hj => ⟨xm_up_ne hj, rfl, rfl⟩) i2 i3 (by simp only [xm_fv, i1, xm_up, if_true]) (fun j hj => by simp only [xm_fv, xm_up, hj, if_true, if_false]) kk
        · cases hq
      · cases hq
    | .long x :: .ref id :: r, hq =>
      simp only [xm_h] at hq
      split at hq
      · rename_i k n hks
        split at hq
        · rename_i hc
          obtain ⟨rfl, hc, hi⟩ := hc
          cases hq
          exact xm_put (v := .long x) (τ := (σ.1, σ.2.1, xm_up σ.2.2.1 id qb x, σ.2.2.2)) hx hb hown hts hcl r1 r2 r3 r4 hd hK hP hS hks hc rfl (fun j hj => ⟨rfl, xm_up_ne hj, rfl⟩) (by rw [hi]; rfl) (by rw [hi]; rfl) (by simp only [xm_fv, hi, xm_cat, xm_up, if_true]) (fun j hj => by simp only [xm_fv, xm_up, hj, if_true, if_false]) kk
        · cases hq
      · cases hq
    | .ref x :: .ref id :: r, hq =>
      simp only [xm_h] at hq
      split at hq
      · rename_i k n hks
        split at hq
        · rename_i hc
          obtain ⟨rfl, hc, hi⟩ := hc
          cases hq
          obtain ⟨i2, i3⟩ := xm_cat2 hi (h + x)
          exact xm_put (v := .ref x) (τ := (σ.1, σ.2.1, σ.2.2.1, xm_up σ.2.2.2 id qb (some x))) hx hb hown hts hcl r1 r2 r3 r4 hd hK hP hS hks hc rfl (fun j hj => ⟨rfl, rfl, xm_up_ne hj⟩) i2 i3 (by simp only [xm_fv, hi, xm_up, if_true]; rfl) (fun j hj => by simp only [xm_fv, xm_up, hj, if_true, if_false]) kk
        · cases hq
      · cases hq
  | arraylength =>
    match st, hp with
    | .ref id :: r, hq =>
      simp only [xm_h] at hq
      split at hq
      · rename_i k n hks
        split at hq
        · rename_i hc
          cases hq
          have hid : id < σ.1.length := (List.getElem?_eq_some_iff.mp hks).1
          have ht : (xm_tys cA)[k - 20]? = some (cA k, xm_ty k) := by
            rcases (show k = 20 ∨ k = 21 ∨ k = 22 ∨ k = 23 ∨ k = 24 ∨ k = 25 by omega) with rfl | rfl | rfl | rfl | rfl | rfl <;> rfl
          by_cases h1 : k < 23
          · have ha := (xm_w_at (fty := fty) (cA := cA) (h := h) (b := b) hid).trans (congrArg some (xm_en_i hks (by omega) h1))
            exact va_alen hx hb hK hP id (k - 20) ha ht rfl hd (kk _ _ hP hS)
          · by_cases h2 : k = 23
            · subst h2
              have ha := (xm_w_at (fty := fty) (cA := cA) (h := h) (b := b) hid).trans (congrArg some (xm_en_l hks))
              exact va_alen hx hb hK hP id (23 - 20) ha ht rfl hd (kk _ _ hP hS)
            · have ha := (xm_w_at (fty := fty) (cA := cA) (h := h) (b := b) hid).trans (congrArg some (xm_en_q hks (by omega)))
              exact va_alen hx hb hK hP id (k - 20) ha ht rfl hd (kk _ _ hP hS)
        · cases hq
      · cases hq
    | .retAddr y :: r, hq =>
      simp only [xm_h] at hq
      split at hq
      · cases hq
        obtain ⟨x1, x2, x3⟩ := hX _ _ rfl
        exact va_slen hx hb x1 x2 (by unfold xm_A; omega) hS hd (kk _ _ hP hS)
      · cases hq
  | iaload =>
    match st, hp with
    | .int i :: .ref id :: r, hq =>
      simp only [xm_h] at hq
      split at hq
      · rename_i k n hks
        split at hq
        · rename_i hc
          obtain ⟨rfl, hi⟩ := hc
          cases hq
          have hid : id < σ.1.length := (List.getElem?_eq_some_iff.mp hks).1
          exact va_iald hx hb hK hP id 0 ((xm_w_at hid).trans (by rw [xm_en_i hks (by omega) (by omega)])) rfl (xm_in_ok hi) hd (kk _ _ hP hS)
        · cases hq
      · cases hq
    | .int i :: .retAddr y :: r, hq =>
      simp only [xm_h] at hq
      split at hq
      · split at hq
        · rename_i hi
          cases hq
          obtain ⟨x1, x2, x3⟩ := hX _ _ rfl
          exact va_sld hx hb x1 x2 (by unfold xm_A; omega) hS (xm_in_ok hi) hd (kk _ _ hP hS)
        · cases hq
      · cases hq
  | baload =>
    match st, hp with
    | .int i :: .ref id :: r, hq =>
      simp only [xm_h] at hq
      split at hq
      · rename_i k n hks
        split at hq
        · rename_i hc
          obtain ⟨hk, hi⟩ := hc
          cases hq
          have hid : id < σ.1.length := (List.getElem?_eq_some_iff.mp hks).1
          rcases hk with rfl | rfl
          · exact va_zald hx hb hK hP id 1 ((xm_w_at hid).trans (by rw [xm_en_i hks (by omega) (by omega)])) rfl (xm_in_ok hi) hd (kk _ _ hP hS)
          · exact va_bald hx hb hK hP id 2 ((xm_w_at hid).trans (by rw [xm_en_i hks (by omega) (by omega)])) rfl (xm_in_ok hi) hd (kk _ _ hP hS)
        · cases hq
      · cases hq
  | laload =>
    match st, hp with
    | .int i :: .ref id :: r, hq =>
      simp only [xm_h] at hq
      split at hq
      · rename_i k n hks
        split at hq
        · rename_i hc
          obtain ⟨rfl, hi⟩ := hc
          cases hq
          have hid : id < σ.1.length := (List.getElem?_eq_some_iff.mp hks).1
          exact va_lald hx hb hK hP id 3 ((xm_w_at hid).trans (by rw [xm_en_l hks])) rfl (xm_in_ok hi) hd (kk _ _ hP hS)
        · cases hq
      · cases hq
  | aaload =>
    match st, hp with
    | .int i :: .ref id :: r, hq =>
      simp only [xm_h] at hq
      split at hq
      · rename_i k n hks
        split at hq
        · rename_i hc
          obtain ⟨hk, hi⟩ := hc
          cases hq
          have hid : id < σ.1.length := (List.getElem?_eq_some_iff.mp hks).1
          have kk2 := kk H locs hP hS
          rw [List.map_cons, xm_rel_rf] at kk2
          rcases hk with rfl | rfl
          · have ha := (xm_w_at (fty := fty) (cA := cA) (h := h) (b := b) hid).trans (congrArg some (xm_en_q hks (by omega)))
            exact va_aldq (C := "ThreePlates$Bench") hx hb hK hP id 4 ha rfl (xm_in_ok hi) hd kk2
          · have ha := (xm_w_at (fty := fty) (cA := cA) (h := h) (b := b) hid).trans (congrArg some (xm_en_q hks (by omega)))
            exact va_aldq (C := "ThreePlates$Round") hx hb hK hP id 5 ha rfl (xm_in_ok hi) hd kk2
        · cases hq
      · cases hq
  | iastore =>
    match st, hp with
    | .int x :: .int i :: .ref id :: r, hq =>
      simp only [xm_h] at hq
      split at hq
      · rename_i k n hks
        split at hq
        · rename_i hc
          obtain ⟨rfl, hi⟩ := hc
          cases hq
          have hid : id < σ.1.length := (List.getElem?_eq_some_iff.mp hks).1
          refine va_iast hx hb hK hP (xm_D fty cA h b σ) hS id 0 ((xm_w_at hid).trans (by rw [xm_en_i hks (by omega) (by omega)])) rfl (xm_in_ok hi) hd fun H1 locs1 g1 _ g3 => kk H1 locs1 ?_ g3
          rw [← xm_w_set (fty := fty) (cA := cA) (h := h) (b := b) (σ := σ) (τ := (σ.1, xm_up σ.2.1 id i.toNatClampNeg x, σ.2.2.1, σ.2.2.2)) (id := id) (x := (h + id, .inl (cA 20, n, .inl (upd (σ.2.1 id) i.toNatClampNeg x)))) rfl hid ((xm_en_i (n := n) (by exact hks) (by omega) (by omega)).trans (by dsimp only; rw [xm_up_self])) (fun j hj => ⟨xm_up_ne hj, rfl, rfl⟩)]
          exact g1
        · cases hq
      · cases hq
  | bastore =>
    match st, hp with
    | .int x :: .int i :: .ref id :: r, hq =>
      simp only [xm_h] at hq
      split at hq
      · rename_i k n hks
        split at hq
        · rename_i hc
          obtain ⟨hk, hi⟩ := hc
          cases hq
          have hid : id < σ.1.length := (List.getElem?_eq_some_iff.mp hks).1
          rcases hk with rfl | rfl
          · refine va_zast hx hb hK hP (xm_D fty cA h b σ) hS id 1 ((xm_w_at hid).trans (by rw [xm_en_i hks (by omega) (by omega)])) rfl (xm_in_ok hi) hd fun H1 locs1 g1 _ g3 => kk H1 locs1 ?_ g3
            rw [← xm_w_set (fty := fty) (cA := cA) (h := h) (b := b) (σ := σ) (τ := (σ.1, xm_up σ.2.1 id i.toNatClampNeg (vp_nar (xm_ty 21) x), σ.2.2.1, σ.2.2.2)) (id := id) (x := (h + id, .inl (cA 21, n, .inl (upd (σ.2.1 id) i.toNatClampNeg (vp_nar .boolean x))))) rfl hid ((xm_en_i (n := n) (by exact hks) (by omega) (by omega)).trans (by dsimp only; rw [xm_up_self]; rfl)) (fun j hj => ⟨xm_up_ne hj, rfl, rfl⟩)]
            exact g1
          · refine va_bast hx hb hK hP (xm_D fty cA h b σ) hS id 2 ((xm_w_at hid).trans (by rw [xm_en_i hks (by omega) (by omega)])) rfl (xm_in_ok hi) hd fun H1 locs1 g1 _ g3 => kk H1 locs1 ?_ g3
            rw [← xm_w_set (fty := fty) (cA := cA) (h := h) (b := b) (σ := σ) (τ := (σ.1, xm_up σ.2.1 id i.toNatClampNeg (vp_nar (xm_ty 22) x), σ.2.2.1, σ.2.2.2)) (id := id) (x := (h + id, .inl (cA 22, n, .inl (upd (σ.2.1 id) i.toNatClampNeg (vp_nar .byte x))))) rfl hid ((xm_en_i (n := n) (by exact hks) (by omega) (by omega)).trans (by dsimp only; rw [xm_up_self]; rfl)) (fun j hj => ⟨xm_up_ne hj, rfl, rfl⟩)]
            exact g1
        · cases hq
      · cases hq
  | lastore =>
    match st, hp with
    | .long x :: .int i :: .ref id :: r, hq =>
      simp only [xm_h] at hq
      split at hq
      · rename_i k n hks
        split at hq
        · rename_i hc
          obtain ⟨rfl, hi⟩ := hc
          cases hq
          have hid : id < σ.1.length := (List.getElem?_eq_some_iff.mp hks).1
          refine va_last hx hb hK hP (xm_D fty cA h b σ) hS id 3 ((xm_w_at hid).trans (by rw [xm_en_l hks])) rfl (xm_in_ok hi) hd fun H1 locs1 g1 _ g3 => kk H1 locs1 ?_ g3
          rw [← xm_w_set (fty := fty) (cA := cA) (h := h) (b := b) (σ := σ) (τ := (σ.1, σ.2.1, xm_up σ.2.2.1 id i.toNatClampNeg x, σ.2.2.2)) (id := id) (x := (h + id, .inl (cA 23, n, .inr (.inl (vp_updL (σ.2.2.1 id) i.toNatClampNeg x))))) rfl hid ((xm_en_l (n := n) (by exact hks)).trans (by dsimp only; rw [xm_up_selfL])) (fun j hj => ⟨rfl, xm_up_ne hj, rfl⟩)]
          exact g1
        · cases hq
      · cases hq
  | aastore =>
    match st, hp with
    | .ref x :: .int i :: .ref id :: r, hq =>
      simp only [xm_h] at hq
      split at hq
      · rename_i k n kx nx hks hkx
        split at hq
        · rename_i hc
          obtain ⟨hk, hi⟩ := hc
          cases hq
          have hid : id < σ.1.length := (List.getElem?_eq_some_iff.mp hks).1
          have hidx : x < σ.1.length := (List.getElem?_eq_some_iff.mp hkx).1
          have hup : ∀ τ' : Nat → Nat → Option Nat, τ' = xm_up σ.2.2.2 id i.toNatClampNeg (some x) → (fun j => (τ' id j).map (fun a => h + a)) = va_up (fun j => (σ.2.2.2 id j).map (fun a => h + a)) i.toNatClampNeg (some (h + x)) := by
            intro τ' he
            subst he
            funext j
            by_cases hj : j = i.toNatClampNeg
            · simp [xm_up, va_up, hj]
            · simp [xm_up, va_up, hj]
          rcases hk with ⟨rfl, rfl⟩ | ⟨rfl, rfl⟩
          · obtain ⟨r0, e1, e2⟩ := hcl.2.1
            refine va_astq (r := r0) hx hb hK hP (xm_D fty cA h b σ) hS id 4 x 0 ((xm_w_at hid).trans (by rw [xm_en_q hks (by omega)])) (by rw [e2]; rfl) ((xm_w_at hidx).trans (by rw [xm_en_obj hkx (by omega)])) e1 (xm_in_ok hi) hd fun H1 locs1 g1 _ g3 => kk H1 locs1 ?_ g3
            rw [← xm_w_set (fty := fty) (cA := cA) (h := h) (b := b) (σ := σ) (τ := (σ.1, σ.2.1, σ.2.2.1, xm_up σ.2.2.2 id i.toNatClampNeg (some x))) (id := id) rfl hid (xm_en_q (by exact hks) (by omega)) (fun j hj => ⟨rfl, rfl, xm_up_ne hj⟩), hup _ rfl]
            exact g1
          · obtain ⟨r0, e1, e2⟩ := hcl.2.2
            refine va_astq (r := r0) hx hb hK hP (xm_D fty cA h b σ) hS id 5 x 6 ((xm_w_at hid).trans (by rw [xm_en_q hks (by omega)])) (by rw [e2]; rfl) ((xm_w_at hidx).trans (by rw [xm_en_obj hkx (by omega)])) e1 (xm_in_ok hi) hd fun H1 locs1 g1 _ g3 => kk H1 locs1 ?_ g3
            rw [← xm_w_set (fty := fty) (cA := cA) (h := h) (b := b) (σ := σ) (τ := (σ.1, σ.2.1, σ.2.2.1, xm_up σ.2.2.2 id i.toNatClampNeg (some x))) (id := id) rfl hid (xm_en_q (by exact hks) (by omega)) (fun j hj => ⟨rfl, rfl, xm_up_ne hj⟩), hup _ rfl]
            exact g1
        · cases hq
      · cases hq
  | _ => cases hp
end XH
