/-! step at the model -/
theorem lg_ite {α : Type} {a b : Int64} {x y : α} {dc : Decidable (lg_cmp a b = 0)} : @ite α (lg_cmp a b = 0) dc x y = if a = b then x else y := by
  by_cases h : a = b
  · rw [if_pos h, if_pos (cmp_eq.mpr (by rw [h]))]
  · rw [if_neg h, if_neg (fun w => h (Int64.toInt_inj.mp (cmp_eq.mp w)))]
/-- a kept word -/
def kwd (w : Int64) : Bool := if w = (1936292453 : Int64) then true else (if w = (482854663269 : Int64) then true else (if w = (7497060 : Int64) then true else (if w = (1936484720 : Int64) then true else (if w = (7102841 : Int64) then true else (if w = (28526 : Int64) then true else (if w = (1953854062 : Int64) then true else (if w = (25209 : Int64) then true else (if w = (126870957944933 : Int64) then true else (if w = (1684366704 : Int64) then true else (false))))))))))
theorem g94 (w : Int64) (s : xS) : f94 w s = some (s, if kwd w = true then iz 1 else iz 0) := by
  unfold f94 f94_80 f94_85 kwd
  simp only [lg_ite]
  by_cases h0 : w = (1936292453 : Int64)
  · rw [if_pos h0, if_pos h0]
    rw [ifg_pos (Or.inr trivial), if_pos rfl, iz1]
  · rw [if_neg h0, if_neg h0]
    by_cases h1 : w = (482854663269 : Int64)
    · rw [if_pos h1, if_pos h1]
      rw [ifg_pos (Or.inr trivial), if_pos rfl, iz1]
    · rw [if_neg h1, if_neg h1]
      by_cases h2 : w = (7497060 : Int64)
      · rw [if_pos h2, if_pos h2]
        rw [ifg_pos (Or.inr trivial), if_pos rfl, iz1]
      · rw [if_neg h2, if_neg h2]
        by_cases h3 : w = (1936484720 : Int64)
        · rw [if_pos h3, if_pos h3]
          rw [ifg_pos (Or.inr trivial), if_pos rfl, iz1]
        · rw [if_neg h3, if_neg h3]
          by_cases h4 : w = (7102841 : Int64)
          · rw [if_pos h4, if_pos h4]
            rw [ifg_pos (Or.inr trivial), if_pos rfl, iz1]
          · rw [if_neg h4, if_neg h4]
            by_cases h5 : w = (28526 : Int64)
            · rw [if_pos h5, if_pos h5]
              rw [ifg_pos (Or.inr trivial), if_pos rfl, iz1]
            · rw [if_neg h5, if_neg h5]
              by_cases h6 : w = (1953854062 : Int64)
              · rw [if_pos h6, if_pos h6]
                rw [ifg_pos (Or.inr trivial), if_pos rfl, iz1]
              · rw [if_neg h6, if_neg h6]
                by_cases h7 : w = (25209 : Int64)
                · rw [if_pos h7, if_pos h7]
                  rw [ifg_pos (Or.inr trivial), if_pos rfl, iz1]
                · rw [if_neg h7, if_neg h7]
                  by_cases h8 : w = (126870957944933 : Int64)
                  · rw [if_pos h8, if_pos h8]
                    rw [ifg_pos (Or.inr trivial), if_pos rfl, iz1]
                  · rw [if_neg h8, if_neg h8]
                    by_cases h9 : w = (1684366704 : Int64)
                    · rw [if_pos h9, if_pos h9]
                      rw [ifg_pos (Or.inr trivial), if_pos rfl, iz1]
                    · rw [if_neg h9, if_neg h9]
                      rw [ifg_pos (Or.inl trivial), if_neg (by decide), iz0]
theorem g178 (w : Int64) (s : xS) : f178 w s = some (s, if kwd w = true then iz 1 else iz 0) := by
  have h := g94 w s
  unfold f94 f94_80 f94_85 at h
  unfold f178 f178_80 f178_85
  exact h
theorem and255 : ∀ k, k < 256 → (iz ((k : Nat) - 128 : Int) &&& (255 : Int32)) = iz (((k : Nat) - 128 : Int) % 256) := by decide +kernel
theorem and_u {z : Int} (h : byR z) : iz z &&& (255 : Int32) = iz (z % 256) := by
  obtain ⟨h1, h2⟩ := h
  have := and255 (z + 128).toNat (by omega)
  rw [show (((z + 128).toNat : Nat) : Int) - 128 = z by omega] at this
  exact this
theorem u_le {z : Int} (h : byR z) : cLe (z % 256) = cLe z := by
  obtain ⟨h1, h2⟩ := h
  rw [Bool.eq_iff_iff, cLe_iff, cLe_iff]
  omega
theorem u_dg {z : Int} (h : byR z) : cDg (z % 256) = cDg z := by
  obtain ⟨h1, h2⟩ := h
  rw [Bool.eq_iff_iff, cDg_iff, cDg_iff]
  omega
section MS
variable {s : xS} {B : Nat → Int} {L : Nat}
def MTx (s : xS) (B : Nat → Int) (L : Nat) : Prop := L ≤ 1200 ∧ s.1 101 3 = iz L ∧ ∀ k, k < L → s.1 103 k = iz (B k) ∧ byR (B k)
def mK (k : Nat) (w : Int64) : Nat := if k = 0 then 0 else if k = 1 then (if kwd w = true then 3 else 2) else if k = 2 then 4 else if k = 5 then 1 else 5
def MTk (s : xS) (B : Nat → Int) (L q : Nat) : Prop := s.1 101 8 = iz (mK (tok B L q).1 (tkW B L q)) ∧ s.1 101 6 = iz (tok B L q).2.1 ∧ s.1 101 7 = iz (tok B L q).2.2 ∧ ((tok B L q).1 = 1 → s.2 101 10 = tkW B L q) ∧ ((tok B L q).1 = 2 → s.1 101 9 = iz (tkN B L q))
def Fmk (id k : Nat) : Bool := id == 101 && Nat.ble 6 k && Nat.ble k 10
theorem MTx.fr {F : Nat → Nat → Bool} {s' : xS} (h : MTx s B L) (hf : fr F s s') (h1 : F 101 3 = false) (h2 : ∀ k, F 103 k = false) : MTx s' B L := ⟨h.1, by rw [hf.i _ _ h1]; exact h.2.1, fun k hk => by rw [hf.i _ _ (h2 k)]; exact h.2.2 k hk⟩
/-- what sign tells -/
def sgn (B : Nat → Int) (L i : Nat) : Int := if i < L then B i % 256 else 0
theorem mt_sign (h : MTx s B L) {i : Nat} (hi : i ≤ 2000) : f173 101 (iz i) s = some (s, iz (sgn B L i)) := by
  have hL := h.1
  unfold f173 f173_22 sgn
  rw [ifg_pos O_101, h.2.1]
  by_cases e : i < L
  · rw [it_le_f (by omega) (by omega) (by omega), if_pos e]
    simp (disch := omega) only [R_101_1, A_103, Option.bind_some, iz_in, iz_n, nat_toNat, if_true, (h.2.2 i e).1]
    rw [and_u (h.2.2 i e).2]
  · rw [it_le_t (by omega) (by omega) (by omega), if_neg e, iz0]
theorem sgn_b (h : MTx s B L) (i : Nat) : 0 ≤ sgn B L i ∧ sgn B L i ≤ 255 := by
  unfold sgn
  split <;> omega
theorem sgn_le (h : MTx s B L) {i : Nat} : cLe (sgn B L i) = true ↔ i < L ∧ cLe (B i) = true := by
  unfold sgn
  by_cases e : i < L
  · rw [if_pos e, u_le (h.2.2 i e).2]
    exact ⟨fun r => ⟨e, r⟩, fun r => r.2⟩
  · rw [if_neg e]
    exact ⟨fun r => by rw [cLe_iff] at r; omega, fun r => absurd r.1 e⟩
theorem sgn_dg (h : MTx s B L) {i : Nat} : cDg (sgn B L i) = true ↔ i < L ∧ cDg (B i) = true := by
  unfold sgn
  by_cases e : i < L
  · rw [if_pos e, u_dg (h.2.2 i e).2]
    exact ⟨fun r => ⟨e, r⟩, fun r => r.2⟩
  · rw [if_neg e]
    exact ⟨fun r => by rw [cDg_iff] at r; omega, fun r => absurd r.1 e⟩
theorem mk_word (h : MTx s B L) {q : Nat} (hq : q < L) (hc : cLe (B q) = true) (h6 : s.1 101 6 = iz q) (h7 : s.1 101 7 = iz ((q + 1 : Nat) : Int)) : ok (whl (fun w : xS => f179_119 101 w) s) (fun r => fr Fmk s r.1 ∧ r.1.1 101 6 = iz q ∧ r.1.1 101 7 = iz (scn cLe B L q) ∧ (scn cLe B L q - q ≤ 8 → r.1.2 101 10 = wdk B q (scn cLe B L q - q)) ∧ r.1.1 101 8 = iz (mK (if scn cLe B L q - q ≤ 8 then 1 else 5) (wdk B q (scn cLe B L q - q)))) := by
  have hL := h.1
  have e0 := scn_t cLe B L hq hc
  obtain ⟨a1, a2, a3, a4⟩ := scn_all cLe B L _ (q + 1) rfl
  rw [← e0] at a1 a2 a3 a4
  have a2 := a2 (by omega)
  have a3' : ∀ i, q ≤ i → i < scn cLe B L q → i < L ∧ cLe (B i) = true := fun i h1 h2 => by
    by_cases e : i = q
    · rw [e]; exact ⟨hq, hc⟩
    · exact a3 i (by omega) h2
  refine whz (fun i w => q + 1 ≤ i ∧ fr Fmk s w ∧ w.1 101 7 = iz (i : Nat) ∧ w.1 101 6 = iz q) (e := scn cLe B L q) (fun i w hi ⟨b0, b1, b2, b3⟩ => ?_) (fun w ⟨b0, b1, b2, b3⟩ => ?_) _ (q + 1) _ rfl a1 ⟨Nat.le_refl _, fr.rf _ _, h7, h6⟩
  · have hw := h.fr b1 rfl (fun _ => rfl)
    obtain ⟨c1, c2⟩ := a3 i b0 hi
    have sb := sgn_b hw i
    unfold f179_119
    rw [b2, mt_sign hw (by omega)]
    simp only [Option.bind_some, g174 (show -128 ≤ sgn B L i by omega) sb.2, iz0, it_b]
    rw [if_pos ((sgn_le hw).mpr ⟨c1, c2⟩)]
    simp only [pI, Option.bind_some, b2, iz1, iz_add]
    rw [ok_some]
    exact ⟨_, rfl, by omega, b1.ui (id := 101) (k := 7) rfl, (by first | exact up_eqP _ _ _ _ _ | exact up_eq _ _ _ _), by dsimp only; rw [up_ix _ _ (by omega)]; exact b3⟩
  · have hw := h.fr b1 rfl (fun _ => rfl)
    have sb := sgn_b hw (scn cLe B L q)
    unfold f179_119
    rw [b2, mt_sign hw (by omega)]
    simp only [Option.bind_some, g174 (show -128 ≤ sgn B L (scn cLe B L q) by omega) sb.2, iz0, it_b]
    rw [if_neg (fun r => a4 ((sgn_le hw).mp r))]
    simp only [pL, Option.bind_some, ok_map, b3]
    have f0 : fr Fmk s (w.1, xm_up w.2 101 10 (0 : Int64)) := b1.ul (id := 101) (k := 10) rfl
    have inner := forz (body := fun y : (Int32 × xS) => f179_156 101 y.1 y.2) (fun i w => q ≤ i ∧ fr Fmk s w ∧ w.1 101 7 = iz (scn cLe B L q) ∧ w.1 101 6 = iz q ∧ w.2 101 10 = wdk B q (i - q)) q (min (scn cLe B L q) (q + 8)) (Q := fun r => fr Fmk s r.1 ∧ r.1.1 101 6 = iz q ∧ r.1.1 101 7 = iz (scn cLe B L q) ∧ (scn cLe B L q - q ≤ 8 → r.1.2 101 10 = wdk B q (scn cLe B L q - q)) ∧ r.1.1 101 8 = iz (mK (if scn cLe B L q - q ≤ 8 then 1 else 5) (wdk B q (scn cLe B L q - q)))) (s0 := (w.1, xm_up w.2 101 10 (0 : Int64))) (by omega) (by omega) ⟨Nat.le_refl _, f0, b2, b3, by rw [Nat.sub_self]; dsimp only; rw [up_eq]; rfl⟩ (fun i z _ hi ⟨d0, d1, d2, d3, d4⟩ => ?_) (fun z ⟨d0, d1, d2, d3, d4⟩ => ?_)
    · obtain ⟨v, v1, v2⟩ := inner
      exact ⟨v, v1, v, rfl, v2⟩
    · have hz := h.fr d1 rfl (fun _ => rfl)
      obtain ⟨c1, c2⟩ := a3' i d0 (by omega)
      dsimp only
      unfold f179_156
      rw [d2, d3, it_le_f (by omega) (by omega) (by omega), iz8, iz_add, it_le_f (by omega) (by omega) (by omega), mt_sign hz (by omega)]
      simp only [pL, Option.bind_some, d4]
      rw [ok_some, lp_l, iz1, iz_add]
      refine ⟨rfl, by omega, d1.ul (id := 101) (k := 10) rfl, d2, d3, ?_⟩
      dsimp only
      have eb : sgn B L i = B i := by
        have := cLe_iff.mp c2
        unfold sgn
        rw [if_pos c1]
        omega
      rw [up_eq, show i + 1 - q = (i - q) + 1 by omega, wdk, show q + (i - q) = i by omega, eb, iz8]
    · have fin : ok (f179_199 101 z) (fun r => fr Fmk s r.1 ∧ r.1.1 101 6 = iz q ∧ r.1.1 101 7 = iz (scn cLe B L q) ∧ (scn cLe B L q - q ≤ 8 → r.1.2 101 10 = wdk B q (scn cLe B L q - q)) ∧ r.1.1 101 8 = iz (mK (if scn cLe B L q - q ≤ 8 then 1 else 5) (wdk B q (scn cLe B L q - q)))) := by
        unfold f179_199 f179_233 f179_382
        rw [d2, d3, iz_sub, iz8]
        by_cases e : scn cLe B L q - q ≤ 8
        · rw [it_le_t (by omega) (by omega) (by omega), show min (scn cLe B L q) (q + 8) = scn cLe B L q by omega] at *
          simp only [d4, g178, Option.bind_some, iz0, it_b, if_pos e]
          by_cases k : kwd (wdk B q (scn cLe B L q - q)) = true
          · rw [if_pos k]
            simp only [pI, Option.bind_some, ok_some, iz3]
            refine ⟨d1.ui (id := 101) (k := 8) rfl, by rw [up_ix _ _ (by omega)]; exact d3, by rw [up_ix _ _ (by omega)]; exact d2, fun _ => d4, ?_⟩
            rw [up_eq]
            unfold mK
            rw [if_neg (by omega), if_pos rfl, if_pos k]
            rfl
          · rw [if_neg k]
            simp only [pI, Option.bind_some, ok_some, iz2]
            refine ⟨d1.ui (id := 101) (k := 8) rfl, by rw [up_ix _ _ (by omega)]; exact d3, by rw [up_ix _ _ (by omega)]; exact d2, fun _ => d4, ?_⟩
            rw [up_eq]
            unfold mK
            rw [if_neg (by omega), if_pos rfl, if_neg k]
            rfl
        · rw [it_le_f (by omega) (by omega) (by omega)]
          simp only [pI, Option.bind_some, ok_some, iz1, if_neg e]
          refine ⟨d1.ui (id := 101) (k := 8) rfl, by rw [up_ix _ _ (by omega)]; exact d3, by rw [up_ix _ _ (by omega)]; exact d2, fun r => absurd r e, ?_⟩
          rw [up_eq]
          rfl
      obtain ⟨v, v1, v2⟩ := fin
      dsimp only
      unfold f179_156
      rw [d2, d3, iz8, iz_add]
      by_cases e : scn cLe B L q ≤ min (scn cLe B L q) (q + 8)
      · rw [it_le_t (by omega) (by omega) (by omega), v1]
        exact ⟨_, rfl, v2⟩
      · rw [it_le_f (by omega) (by omega) (by omega), it_le_t (by omega) (by omega) (by omega), v1]
        exact ⟨_, rfl, v2⟩
end MS
