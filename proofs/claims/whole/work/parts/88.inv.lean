/-! what holds between calls -/
/-- the class's shop, bench and rounds -/
def KC (s : xS) (n pl : Nat) (red slip : Int) (x : sS) (W S : Nat → Int) (st : Int32) (rc : Nat) (Rs : Nat → Rn) : Prop := s.1 3 2 = iz pl ∧ s.1 3 3 = iz n ∧ s.1 3 4 = iz red ∧ s.1 3 5 = iz slip ∧ CB s 33 x.1 W S ∧ BS s 33 x ∧ s.1 33 3 = st ∧ s.1 9 1 = iz rc ∧ ∀ r, r < rc → CR s (11 + r) (Rs r)
/-- the model's -/
def KM (s : xS) (b n pl : Nat) (red slip : Int) (x : sS) (W S : Nat → Int) (st : Int32) (rc : Nat) (Rs : Nat → Rn) : Prop := Mn s b (iz n) n ∧ s.1 105 b = iz pl ∧ s.1 106 b = iz red ∧ s.1 107 b = iz slip ∧ MB s n pl x.1 W S ∧ MX s n pl x ∧ s.1 101 27 = st ∧ s.1 101 37 = iz rc ∧ (∀ r, r < rc → MR s r (Rs r)) ∧ (∀ c, c < 25 → s.1 114 (100 + c) = iz 0) ∧ s.1 117 4 = iz 0
def KV (n pl : Nat) (red slip : Int) (x : sS) (W S : Nat → Int) (rc : Nat) (Rs : Nat → Rn) : Prop := 3 ≤ n ∧ n ≤ 5 ∧ pl ≤ 4 ∧ 0 ≤ red ∧ red ≤ 20 ∧ 0 ≤ slip ∧ slip ≤ 8 ∧ Hb x ∧ Ws W S ∧ rc ≤ 10 ∧ ∀ r, r < rc → Rv pl n (Rs r)
/-- tape and fault -/
def TpI (s : xS) : Prop := ∃ T : Nat, T ≤ 1200 ∧ s.1 1 1 = iz T ∧ s.1 101 2 = iz T ∧ (∀ k, k < T → s.1 2 k = s.1 102 k) ∧ s.1 1 2 = s.1 101 4 ∧ s.1 1 3 = s.1 101 5
def NmI (s : xS) (b pl : Nat) : Prop := ∀ p, p < pl → s.2 4 p = s.2 112 (4 * b + p)
/-- feet, told by rows -/
def MFg (ft so sd : Nat → Int32) (n : Nat) (S : Nat → Int) : Prop := ∀ p, p < 4 → (sd p = 0 ∧ ∀ e, e < n * n → S (25 * p + e) = 0) ∨ (sd p = 1 ∧ ∃ (a b c : Nat) (g : Int), ft (3 * p) = iz a ∧ ft (3 * p + 1) = iz b ∧ ft (3 * p + 2) = iz c ∧ so p = iz g ∧ a < n * n ∧ b < n * n ∧ c < n * n ∧ 0 ≤ g ∧ g ≤ 9 ∧ ∀ e, e < n * n → S (25 * p + e) = sagv n a b c g e)
theorem MF_g (s : xS) (n : Nat) (S : Nat → Int) : MF s n S ↔ MFg (s.1 115) (s.1 116) (s.1 117) n S := Iff.rfl
theorem MFg.congr {ft so sd ft' so' sd' : Nat → Int32} {n : Nat} {S : Nat → Int} (h : MFg ft so sd n S) (h1 : ∀ k, k < 12 → ft' k = ft k) (h2 : ∀ k, k < 4 → so' k = so k) (h3 : ∀ k, k < 4 → sd' k = sd k) : MFg ft' so' sd' n S := by
  intro p hp
  rw [h3 p hp, h2 p hp, h1 (3 * p) (by omega), h1 (3 * p + 1) (by omega), h1 (3 * p + 2) (by omega)]
  exact h p hp
def BxM (s : xS) (q n pl : Nat) (y : sS) (W S : Nat → Int) (st : Int32) : Prop := (∀ k, k < 100 → (Us n pl k → s.1 130 (100 * q + k) = iz (y.1 k)) ∧ s.1 131 (100 * q + k) = iz (W k)) ∧ MFg (fun k => s.1 135 (15 * q + k)) (fun k => s.1 136 (5 * q + k)) (fun k => s.1 137 (5 * q + k)) n S ∧ s.1 137 (5 * q + 4) = iz 0 ∧ s.1 132 q = st ∧ s.1 133 q = y.2.1 ∧ s.1 134 q = y.2.2
def BxC (s : xS) (id : Nat) (y : sS) (W S : Nat → Int) (st : Int32) : Prop := CB s id y.1 W S ∧ BS s id y ∧ s.1 id 3 = st
def BxI (s : xS) (n pl : Nat) : Prop := ∀ q, q < 3 → (s.1 38 q = iz 0 ∧ s.1 129 q = iz (-1)) ∨ (s.1 38 q = iz 1 ∧ 0 ≤ (s.1 129 q).toInt ∧ ∃ (y : sS) (W S : Nat → Int) (st : Int32), BxC s (89 + 4 * q) y W S st ∧ BxM s q n pl y W S st ∧ Hb y ∧ Ws W S)
def HnI (s : xS) : Prop := ∃ m : Nat, m ≤ 40 ∧ s.1 86 2 = iz m ∧ s.1 101 74 = iz m ∧ ∀ k, k < m → s.1 144 k = s.1 87 k ∧ s.1 145 k = s.1 88 k ∧ ∃ a t : Int, s.1 87 k = iz a ∧ s.1 88 k = iz t ∧ 1 ≤ a ∧ a ≤ 9 ∧ 0 ≤ t ∧ t ≤ 99
abbrev Sg : Type := Nat × Nat × Int × Int × Int32
def SgI (s : xS) (pl n m : Nat) (G : Nat → Sg) : Prop := m ≤ 20 ∧ s.1 72 8 = iz m ∧ s.1 101 71 = iz m ∧ ∀ k, k < m → s.1 73 k = iz (G k).1 ∧ s.1 74 k = iz (G k).2.1 ∧ s.1 75 k = iz (G k).2.2.1 ∧ s.1 76 k = iz (G k).2.2.2.1 ∧ s.1 77 k = (G k).2.2.2.2 ∧ s.1 138 k = iz (G k).1 ∧ s.1 139 k = iz (G k).2.1 ∧ s.1 140 k = iz (G k).2.2.1 ∧ s.1 141 k = iz (G k).2.2.2.1 ∧ s.1 142 k = (G k).2.2.2.2 ∧ (G k).1 < pl ∧ Ly n (G k).2.1 (G k).2.2.1 (G k).2.2.2.1
/-- what may change between whiles: more of it -/
def Fy (id k : Nat) : Bool :=
  (id == 1 && Nat.ble 4 k) || (Nat.ble 21 id && Nat.ble id 32) || (id == 51 && Nat.ble 12 k) || id == 53 || id == 54 || (Nat.ble 56 id && Nat.ble id 71) || id == 79 || (Nat.ble 83 id && Nat.ble id 85)
def Fx (id k : Nat) : Bool := (id == 101 && (k == 3 || (Nat.ble 6 k && Nat.ble k 10) || k == 26 || k == 38 || k == 51 || (Nat.ble 61 k && Nat.ble k 64)))
  || id == 103 || (id == 113 && Nat.ble 100 k) || id == 128 || id == 143
def Fw (id k : Nat) : Bool := (Nat.ble 118 id && Nat.ble id 124 && Nat.ble 10 k) || (id == 129 && Nat.ble 3 k) || ((id == 130 || id == 131) && Nat.ble 300 k) || (Nat.ble 132 id && Nat.ble id 134 && Nat.ble 3 k) || (id == 135 && Nat.ble 45 k) || ((id == 136 || id == 137) && Nat.ble 15 k)
def Fz (id k : Nat) : Bool := FL id k || FF id k || Fy id k || Fx id k || Fw id k
section FZ
variable {s s' : xS}
theorem FL_z (id k : Nat) (h : FL id k = true) : Fz id k = true := by
  unfold Fz
  rw [h]
  simp only [Bool.or_true, Bool.true_or]
theorem FF_z (id k : Nat) (h : FF id k = true) : Fz id k = true := by
  unfold Fz
  rw [h]
  simp only [Bool.or_true, Bool.true_or]
theorem FD0_z (id k : Nat) (h : FD0 id k = true) : Fz id k = true := FF_z id k (FD_F id k h)
theorem Fy_z (id k : Nat) (h : Fy id k = true) : Fz id k = true := by
  unfold Fz
  rw [h]
  simp only [Bool.or_true, Bool.true_or]
theorem Fx_z (id k : Nat) (h : Fx id k = true) : Fz id k = true := by
  unfold Fz
  rw [h]
  simp only [Bool.or_true, Bool.true_or]
theorem Fw_z (id k : Nat) (h : Fw id k = true) : Fz id k = true := by
  unfold Fz
  rw [h]
  simp only [Bool.or_true, Bool.true_or]
theorem ble_f {a b : Nat} (h : b < a) : Nat.ble a b = false := by
  cases e : Nat.ble a b with
  | false => rfl
  | true => have := Nat.le_of_ble_eq_true e; omega
theorem KC.fr {F : Nat → Nat → Bool} {n pl : Nat} {red slip : Int} {x : sS} {W S : Nat → Int} {st : Int32} {rc : Nat} {Rs : Nat → Rn} (h : KC s n pl red slip x W S st rc Rs) (hf : fr F s s') (h1 : ∀ k, F 3 k = false) (h2 : ∀ k, F 33 k = false) (h3 : ∀ k, F 34 k = false) (h4 : ∀ k, F 35 k = false) (h5 : ∀ k, F 36 k = false) (h6 : F 9 1 = false) (h7 : ∀ id k, 11 ≤ id → id ≤ 20 → F id k = false) (hrc : rc ≤ 10) : KC s' n pl red slip x W S st rc Rs := by
  obtain ⟨a1, a2, a3, a4, a5, a6, a7, a8, a9⟩ := h
  refine ⟨by rw [hf.i _ _ (h1 _)]; exact a1, by rw [hf.i _ _ (h1 _)]; exact a2, by rw [hf.i _ _ (h1 _)]; exact a3, by rw [hf.i _ _ (h1 _)]; exact a4, a5.fr hf h3 h4 h5, ⟨fun k hk => by rw [hf.i _ _ (h3 _)]; exact a6.1 k hk, by rw [hf.i _ _ (h2 _)]; exact a6.2.1, by rw [hf.i _ _ (h2 _)]; exact a6.2.2⟩, by rw [hf.i _ _ (h2 _)]; exact a7, by rw [hf.i _ _ h6]; exact a8, fun r hr => (a9 r hr).fr hf (fun k => h7 _ k (by omega) (by omega))⟩
set_option maxHeartbeats 200000 in
theorem KC_scr {n pl : Nat} {red slip : Int} {x : sS} {W S : Nat → Int} {st : Int32} {rc : Nat} {Rs : Nat → Rn} (h : KC s n pl red slip x W S st rc Rs) (hf : fr Fz s s') (hrc : rc ≤ 10) : KC s' n pl red slip x W S st rc Rs := by
  refine h.fr hf (fun _ => rfl) (fun _ => rfl) (fun _ => rfl) (fun _ => rfl) (fun _ => rfl) rfl (fun id k h1 h2 => ?_) hrc
  have : id = 11 ∨ id = 12 ∨ id = 13 ∨ id = 14 ∨ id = 15 ∨ id = 16 ∨ id = 17 ∨ id = 18 ∨ id = 19 ∨ id = 20 := by omega
  rcases this with rfl | rfl | rfl | rfl | rfl | rfl | rfl | rfl | rfl | rfl <;> rfl
theorem KM.fr {F : Nat → Nat → Bool} {b n pl : Nat} {red slip : Int} {x : sS} {W S : Nat → Int} {st : Int32} {rc : Nat} {Rs : Nat → Rn} (h : KM s b n pl red slip x W S st rc Rs) (hf : fr F s s') (h1 : F 101 25 = false ∧ F 101 27 = false ∧ F 101 28 = false ∧ F 101 29 = false ∧ F 101 37 = false) (h2 : ∀ k, F 104 k = false) (h3 : ∀ k, F 105 k = false) (h4 : ∀ k, F 106 k = false) (h5 : ∀ k, F 107 k = false) (h6 : ∀ k, k < 100 → F 113 k = false) (h7 : ∀ k, F 114 k = false) (h8 : ∀ k, F 115 k = false) (h9 : ∀ k, F 116 k = false) (h10 : ∀ k, F 117 k = false) (h11 : ∀ id k, 118 ≤ id → id ≤ 124 → k < 10 → F id k = false) (hrc : rc ≤ 10) : KM s' b n pl red slip x W S st rc Rs := by
  obtain ⟨a1, a2, a3, a4, a5, a6, a7, a8, a9, a10, a11⟩ := h
  obtain ⟨f1, f2, f3, f4, f5⟩ := h1
  refine ⟨a1.fr hf f1 h2, by rw [hf.i _ _ (h3 _)]; exact a2, by rw [hf.i _ _ (h4 _)]; exact a3, by rw [hf.i _ _ (h5 _)]; exact a4, ⟨fun k hk => ⟨fun u => by rw [hf.i _ _ (h6 k hk)]; exact (a5.1 k hk).1 u, by rw [hf.i _ _ (h7 k)]; exact (a5.1 k hk).2⟩, ?_⟩, ⟨fun k hk => by rw [hf.i _ _ (h6 k hk.1)]; exact a6.1 k hk, by rw [hf.i _ _ f3]; exact a6.2.1, by rw [hf.i _ _ f4]; exact a6.2.2⟩, by rw [hf.i _ _ f2]; exact a7, by rw [hf.i _ _ f5]; exact a8, fun r hr => (a9 r hr).fr hf (h11 _ _ (by omega) (by omega) (by omega)) (h11 _ _ (by omega) (by omega) (by omega)) (h11 _ _ (by omega) (by omega) (by omega)) (h11 _ _ (by omega) (by omega) (by omega)) (h11 _ _ (by omega) (by omega) (by omega)) (h11 _ _ (by omega) (by omega) (by omega)) (h11 _ _ (by omega) (by omega) (by omega)), fun c hc => by rw [hf.i _ _ (h7 _)]; exact a10 c hc, by rw [hf.i _ _ (h10 _)]; exact a11⟩
  have e3 : s'.1 115 = s.1 115 := hf.ci 115 h8
  have e4 : s'.1 116 = s.1 116 := hf.ci 116 h9
  have e5 : s'.1 117 = s.1 117 := hf.ci 117 h10
  unfold MF
  rw [e3, e4, e5]
  exact a5.2
set_option maxHeartbeats 200000 in
theorem Fz_113 (k : Nat) (h : k < 100) : Fz 113 k = false := by
  have e : Fz 113 k = (Nat.ble 100 k || false || false || false) := by
    unfold Fz
    rw [show FL 113 k = false from rfl, show FF 113 k = false from rfl, show Fy 113 k = false from rfl, show Fw 113 k = false from rfl, show Fx 113 k = Nat.ble 100 k from by unfold Fx; simp]
    simp
  rw [e, ble_f h]
  rfl
set_option maxHeartbeats 200000 in
theorem Fz_118 (id k : Nat) (h1 : 118 ≤ id) (h2 : id ≤ 124) (h : k < 10) : Fz id k = false := by
  have h3 := ble_f h
  have : id = 118 ∨ id = 119 ∨ id = 120 ∨ id = 121 ∨ id = 122 ∨ id = 123 ∨ id = 124 := by omega
  rcases this with rfl | rfl | rfl | rfl | rfl | rfl | rfl <;> simp [Fz, FL, FF, FD0, FO, FS, Fy, Fx, Fw, h3] <;> decide
theorem KM_scr {b n pl : Nat} {red slip : Int} {x : sS} {W S : Nat → Int} {st : Int32} {rc : Nat} {Rs : Nat → Rn} (h : KM s b n pl red slip x W S st rc Rs) (hf : fr Fz s s') (hrc : rc ≤ 10) : KM s' b n pl red slip x W S st rc Rs := h.fr hf ⟨rfl, rfl, rfl, rfl, rfl⟩ (fun _ => rfl) (fun _ => rfl) (fun _ => rfl) (fun _ => rfl) Fz_113 (fun _ => rfl) (fun _ => rfl) (fun _ => rfl) (fun _ => rfl) Fz_118 hrc
theorem TpI.fr {F : Nat → Nat → Bool} (h : TpI s) (hf : fr F s s') (h1 : F 1 1 = false ∧ F 1 2 = false ∧ F 1 3 = false) (h2 : ∀ k, F 2 k = false) (h3 : F 101 2 = false ∧ F 101 4 = false ∧ F 101 5 = false) (h4 : ∀ k, F 102 k = false) : TpI s' := by
  obtain ⟨T, a1, a2, a3, a4, a5, a6⟩ := h
  exact ⟨T, a1, by rw [hf.i _ _ h1.1]; exact a2, by rw [hf.i _ _ h3.1]; exact a3, fun k hk => by rw [hf.i _ _ (h2 k), hf.i _ _ (h4 k)]; exact a4 k hk, by rw [hf.i _ _ h1.2.1, hf.i _ _ h3.2.1]; exact a5, by rw [hf.i _ _ h1.2.2, hf.i _ _ h3.2.2]; exact a6⟩
theorem NmI.fr {F : Nat → Nat → Bool} {b pl : Nat} (h : NmI s b pl) (hf : fr F s s') (h1 : ∀ k, F 4 k = false) (h2 : ∀ k, F 112 k = false) : NmI s' b pl := fun p hp => by rw [hf.l _ _ (h1 p), hf.l _ _ (h2 _)]; exact h p hp
theorem HnI.fr {F : Nat → Nat → Bool} (h : HnI s) (hf : fr F s s') (h1 : F 86 2 = false) (h2 : F 101 74 = false) (h3 : ∀ k, F 87 k = false) (h4 : ∀ k, F 88 k = false) (h5 : ∀ k, F 144 k = false) (h6 : ∀ k, F 145 k = false) : HnI s' := by
  obtain ⟨m, a1, a2, a3, a4⟩ := h
  exact ⟨m, a1, by rw [hf.i _ _ h1]; exact a2, by rw [hf.i _ _ h2]; exact a3, fun k hk => by rw [hf.i _ _ (h3 k), hf.i _ _ (h4 k), hf.i _ _ (h5 k), hf.i _ _ (h6 k)]; exact a4 k hk⟩
theorem SgI.fr {F : Nat → Nat → Bool} {pl n m : Nat} {G : Nat → Sg} (h : SgI s pl n m G) (hf : fr F s s') (h1 : F 72 8 = false) (h2 : F 101 71 = false) (h3 : ∀ k, F 73 k = false ∧ F 74 k = false ∧ F 75 k = false ∧ F 76 k = false ∧ F 77 k = false) (h4 : ∀ k, F 138 k = false ∧ F 139 k = false ∧ F 140 k = false ∧ F 141 k = false ∧ F 142 k = false) : SgI s' pl n m G := by
  obtain ⟨a1, a2, a3, a4⟩ := h
  exact ⟨a1, by rw [hf.i _ _ h1]; exact a2, by rw [hf.i _ _ h2]; exact a3, fun k hk => by rw [hf.i _ _ (h3 k).1, hf.i _ _ (h3 k).2.1, hf.i _ _ (h3 k).2.2.1, hf.i _ _ (h3 k).2.2.2.1, hf.i _ _ (h3 k).2.2.2.2, hf.i _ _ (h4 k).1, hf.i _ _ (h4 k).2.1, hf.i _ _ (h4 k).2.2.1, hf.i _ _ (h4 k).2.2.2.1, hf.i _ _ (h4 k).2.2.2.2]; exact a4 k hk⟩
theorem BxI.fr {F : Nat → Nat → Bool} {n pl : Nat} (h : BxI s n pl) (hf : fr F s s') (h1 : ∀ k, F 38 k = false) (h2 : ∀ id k, 89 ≤ id → id ≤ 100 → F id k = false) (h3 : ∀ k, k < 3 → F 129 k = false ∧ F 132 k = false ∧ F 133 k = false ∧ F 134 k = false) (h4 : ∀ k, k < 300 → F 130 k = false ∧ F 131 k = false) (h5 : ∀ k, k < 45 → F 135 k = false) (h6 : ∀ k, k < 15 → F 136 k = false ∧ F 137 k = false) : BxI s' n pl := by
  intro q hq
  rw [hf.i _ _ (h1 q), hf.i _ _ (h3 q hq).1]
  rcases h q hq with h0 | ⟨g1, g2, y, W, S, st, ⟨g3, g4, g5⟩, ⟨g6, g7, g8, g9, g10, g11⟩, g12⟩
  · exact Or.inl h0
  · refine Or.inr ⟨g1, g2, y, W, S, st, ⟨g3.fr hf (fun k => h2 _ k (by omega) (by omega)) (fun k => h2 _ k (by omega) (by omega)) (fun k => h2 _ k (by omega) (by omega)), ⟨fun k hk => by rw [hf.i _ _ (h2 _ _ (by omega) (by omega))]; exact g4.1 k hk, by rw [hf.i _ _ (h2 _ _ (by omega) (by omega))]; exact g4.2.1, by rw [hf.i _ _ (h2 _ _ (by omega) (by omega))]; exact g4.2.2⟩, by rw [hf.i _ _ (h2 _ _ (by omega) (by omega))]; exact g5⟩, ⟨fun k hk => ⟨fun u => by rw [hf.i _ _ (h4 _ (by omega)).1]; exact (g6 k hk).1 u, by rw [hf.i _ _ (h4 _ (by omega)).2]; exact (g6 k hk).2⟩, g7.congr (fun k hk => hf.i _ _ (h5 _ (by omega))) (fun k hk => hf.i _ _ (h6 _ (by omega)).1) (fun k hk => hf.i _ _ (h6 _ (by omega)).2), by rw [hf.i _ _ (h6 _ (by omega)).2]; exact g8, by rw [hf.i _ _ (h3 q hq).2.1]; exact g9, by rw [hf.i _ _ (h3 q hq).2.2.1]; exact g10, by rw [hf.i _ _ (h3 q hq).2.2.2]; exact g11⟩, g12⟩
end FZ
