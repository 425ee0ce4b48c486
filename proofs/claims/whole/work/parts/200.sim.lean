/-! pure lemmas for the decompiled functions -/
theorem gd_t {ρ : Type} {o : Option ρ} : gd true o = o := rfl
theorem nm_v {α ρ : Type} {e : α} {k : α → Option ρ} : nm e k = k e := rfl
theorem bnd2_s {α β ρ : Type} {a : α} {b : β} {k : α → β → Option ρ} : bnd2 (some (a, b)) k = k a b := rfl
theorem bd_s {α ρ : Type} {a : α} {k : α → Option ρ} : Option.bind (some a) k = k a := rfl
theorem ix_n {j n : Nat} (h : j < n) (hn : n ≤ 1000000) : ix (nI j) n = true := decide_eq_true (vp_in_nI h (by omega))
theorem tn_n {j : Nat} (h : j < 1000000) : (nI j).toNatClampNeg = j := nI_clamp (by omega)
theorem uI_at {h : MH} {a k : Nat} {v : Int32} : (uI h a k v).1 a k = v := by simp [uI]
theorem uI_k {h : MH} {a k j : Nat} {v : Int32} (hj : j ≠ k) : (uI h a k v).1 a j = h.1 a j := by simp [uI, hj]
theorem uI_2 {h : MH} {a k : Nat} {v : Int32} : (uI h a k v).2 = h.2 := rfl
theorem uL_1 {h : MH} {a k : Nat} {v : Int64} : (uL h a k v).1 = h.1 := rfl
theorem uL_w {h : MH} {a k : Nat} {v : Int64} : (uL h a k v).2.2 = h.2.2 := rfl
theorem uL_at {h : MH} {a k : Nat} {v : Int64} : (uL h a k v).2.1 a k = v := by simp [uL]
theorem uL_k {h : MH} {a k j : Nat} {v : Int64} (hj : j ≠ k) : (uL h a k v).2.1 a j = h.2.1 a j := by simp [uL, hj]
theorem uA_ne {h : MH} {a b : Nat} {f : Nat → Int32} (hb : b ≠ a) : (uA h a f).1 b = h.1 b := by
  funext j
  simp [uA, hb]
theorem uA_at {h : MH} {a : Nat} {f : Nat → Int32} : (uA h a f).1 a = f := by
  funext j
  simp [uA]
theorem uA_2 {h : MH} {a : Nat} {f : Nat → Int32} : (uA h a f).2 = h.2 := rfl
theorem uI_asA {h : MH} {a k : Nat} {v : Int32} : uI h a k v = uA h a (upd (h.1 a) k v) := uI_uA.symm
theorem uA_uA {h : MH} {a : Nat} {f g : Nat → Int32} : uA (uA h a f) a g = uA h a g := by
  unfold uA
  congr 1
  funext b j
  by_cases hb : b = a <;> simp [hb]
theorem uA_id {h : MH} {a : Nat} {f : Nat → Int32} (e : ∀ j, f j = h.1 a j) : uA h a f = h := by
  unfold uA
  have : (fun b j => if b = a then f j else h.1 b j) = h.1 := by
    funext b j
    by_cases hb : b = a
    · subst hb
      simp [e]
    · simp [hb]
  rw [this]
/-! loops -/
theorem lpo_it {σ β : Type} {step : σ → Option (σ ⊕ β)} (s : Nat → σ) (n : Nat) (h : ∀ i, i < n → step (s i) = some (.inl (s (i + 1)))) : lpo step (s 0) = lpo step (s n) := by
  induction n with
  | zero => rfl
  | succ n ih => rw [ih (fun i hi => h i (by omega)), lpo_in (h n (by omega))]
theorem lpo_for {σ β : Type} {step : σ → Option (σ ⊕ β)} {b : β} (s : Nat → σ) (n : Nat) (h : ∀ i, i < n → step (s i) = some (.inl (s (i + 1)))) (hx : step (s n) = some (.inr b)) : lpo step (s 0) = some b := by
  rw [lpo_it s n h, lpo_out hx]
/-- a loop that ends at the first bad place -/
theorem lpo_find {σ β : Type} {step : σ → Option (σ ⊕ β)} {b1 b2 : β} (s : Nat → σ) (n : Nat) (bad : Nat → Prop) (hg : ∀ i, i < n → ¬ bad i → step (s i) = some (.inl (s (i + 1)))) (hb : ∀ i, i < n → bad i → step (s i) = some (.inr b1)) (hx : step (s n) = some (.inr b2)) : (∃ i, i < n ∧ bad i) ∧ lpo step (s 0) = some b1 ∨ (∀ i, i < n → ¬ bad i) ∧ lpo step (s 0) = some b2 := by
  by_cases he : ∃ i, i < n ∧ bad i
  · left
    refine ⟨he, ?_⟩
    obtain ⟨m, ⟨hm, hbm⟩, hl⟩ := pk_least (fun i => i < n ∧ bad i) he
    refine lpo_for s m (fun i hi => hg i (by omega) (fun q => hl i hi ⟨by omega, q⟩)) (hb m hm hbm)
  · right
    have hh : ∀ i, i < n → ¬ bad i := fun i hi q => he ⟨i, hi, q⟩
    exact ⟨hh, lpo_for s n (fun i hi => hg i hi (hh i hi)) hx⟩
/-! indices -/
def inR (r : Int32) (n : Nat) : Bool := decide (¬ r < 0 ∧ r < nI n)
theorem inR_t {r : Int32} {n : Nat} (hn : n ≤ 1000000) (h : inR r n = true) : ∃ j, j < n ∧ r = nI j := by
  obtain ⟨h1, h2⟩ := of_decide_eq_true (p := ¬ r < 0 ∧ r < nI n) h
  rcases pk_ix r (n := n) (by omega) with q | q | ⟨j, hj, e⟩
  · exact absurd q h1
  · exact absurd h2 (Int32.not_lt.mpr q)
  · exact ⟨j, hj, e⟩
theorem inR_n {j n : Nat} (h : j < n) (hn : n ≤ 1000000) : inR (nI j) n = true := decide_eq_true ⟨nI_pos (by omega), nI_lt h (by omega)⟩
theorem inR_if {ρ : Type} {r : Int32} {n : Nat} {A B : Option ρ} {N : Int32} (hN : nI n = N) : (if r < 0 then B else if r < N then A else B) = if inR r n = true then A else B := by
  subst hN
  by_cases h1 : r < 0
  · rw [if_pos h1, if_neg (by simp [inR, h1])]
  · rw [if_neg h1]
    by_cases h2 : r < nI n
    · rw [if_pos h2, if_pos (by simp [inR, h1, h2])]
    · rw [if_neg h2, if_neg (by simp [inR, h2])]
theorem inR_b {r : Int32} {n : Nat} {N : Int32} (hN : nI n = N) : (if r < 0 then some false else if r < N then some true else some false) = some (inR r n) := by
  rw [inR_if hN]
  cases inR r n <;> rfl
theorem cIsRow {h : MH} {r : Int32} : f_X6_isRow h r = some (inR r 6) := inR_b rfl
theorem cIsText {h : MH} {r : Int32} : f_X6_isText h r = some (inR r 4) := inR_b rfl
theorem cIsCover {h : MH} {r : Int32} : f_X6_isCover h r = some (inR r 6) := inR_b rfl
theorem cIsCode {h : MH} {r : Int32} : f_X6_isCode h r = some (inR r 4) := inR_b rfl
/-- lo ≤ v ≤ hi -/
def btw (v lo hi : Int32) : Bool := decide (¬ v < lo ∧ ¬ hi < v)
theorem mIn {v lo hi : Int32} : f_X7_in v lo hi = some (btw v lo hi) := by
  unfold f_X7_in btw
  by_cases h1 : v < lo
  · simp [h1]
  · by_cases h2 : hi < v
    · simp [h1, h2]
    · simp [h1, h2]
theorem btw_inR {r : Int32} {n : Nat} {M : Int32} (hM : nI n = M) (hn : n < 1000000) : btw r 0 M = inR r (n + 1) := by
  subst hM
  unfold btw inR
  apply decide_eq_decide.mpr
  refine and_congr_right (fun h => ?_)
  rw [Int32.lt_iff_toInt_lt, Int32.lt_iff_toInt_lt, nI_toInt (by omega), nI_toInt (by omega)]
  omega
theorem mIsRow {r : Int32} : f_X7_isRow r = some (inR r 6) := by unfold f_X7_isRow; rw [mIn, bd_s, btw_inR (n := 5) (M := 5) rfl (by decide)]
theorem mIsText {r : Int32} : f_X7_isText r = some (inR r 4) := by unfold f_X7_isText; rw [mIn, bd_s, btw_inR (n := 3) (M := 3) rfl (by decide)]
theorem mIsCover {r : Int32} : f_X7_isCover r = some (inR r 6) := by unfold f_X7_isCover; rw [mIn, bd_s, btw_inR (n := 5) (M := 5) rfl (by decide)]
theorem mIsCode {r : Int32} : f_X7_isCode r = some (inR r 4) := by unfold f_X7_isCode; rw [mIn, bd_s, btw_inR (n := 3) (M := 3) rfl (by decide)]
theorem rf_rows {j : Nat} (h : j < 6) : rf 1 j = 18 + 2 * j := (by decide +kernel : ∀ j, j < 6 → rf 1 j = 18 + 2 * j) j h
theorem rf_texts {j : Nat} (h : j < 4) : rf 2 j = 30 + 2 * j := (by decide +kernel : ∀ j, j < 4 → rf 2 j = 30 + 2 * j) j h
theorem rf_covers {j : Nat} (h : j < 6) : rf 3 j = 38 + 3 * j := (by decide +kernel : ∀ j, j < 6 → rf 3 j = 38 + 3 * j) j h
theorem rf_codes {j : Nat} (h : j < 4) : rf 4 j = 56 + 2 * j := (by decide +kernel : ∀ j, j < 4 → rf 4 j = 56 + 2 * j) j h
theorem rf_Row {a : Nat} (h : shp a = (5, 0)) : rf a 0 = a + 1 := (by decide +kernel : ∀ a, a < 87 → shp a = (5, 0) → rf a 0 = a + 1) a (shp_lt (by rw [h]; simp)) h
theorem rf_Cov0 {a : Nat} (h : shp a = (1, 0)) : rf a 0 = a + 1 := (by decide +kernel : ∀ a, a < 87 → shp a = (1, 0) → rf a 0 = a + 1) a (shp_lt (by rw [h]; simp)) h
theorem rf_Cov1 {a : Nat} (h : shp a = (1, 0)) : rf a 1 = a + 2 := (by decide +kernel : ∀ a, a < 87 → shp a = (1, 0) → rf a 1 = a + 2) a (shp_lt (by rw [h]; simp)) h
theorem rf_Cod {a : Nat} (h : shp a = (0, 0)) : rf a 0 = a + 1 := (by decide +kernel : ∀ a, a < 87 → shp a = (0, 0) → rf a 0 = a + 1) a (shp_lt (by rw [h]; simp)) h
theorem sh_row {j : Nat} (h : j < 6) : shp (18 + 2 * j) = (5, 0) := (by decide +kernel : ∀ j, j < 6 → shp (18 + 2 * j) = (5, 0)) j h
theorem sh_text {j : Nat} (h : j < 4) : shp (30 + 2 * j) = (5, 0) := (by decide +kernel : ∀ j, j < 4 → shp (30 + 2 * j) = (5, 0)) j h
theorem sh_cov {j : Nat} (h : j < 6) : shp (38 + 3 * j) = (1, 0) := (by decide +kernel : ∀ j, j < 6 → shp (38 + 3 * j) = (1, 0)) j h
theorem sh_cod {j : Nat} (h : j < 4) : shp (56 + 2 * j) = (0, 0) := (by decide +kernel : ∀ j, j < 4 → shp (56 + 2 * j) = (0, 0)) j h
/-! both states, alike -/
def rowC (h : MH) (a n : Nat) (f : Nat → Int32) : Prop := h.1 a 1 = nI n ∧ ∀ i, i < n → h.1 (a + 1) i = f i
def rowM (h : MH) (za ca st r n : Nat) (f : Nat → Int32) : Prop := h.1 za r = nI n ∧ ∀ i, i < n → h.1 ca (st * r + i) = f i
def rowS (h : MH) (a za ca M r : Nat) : Prop := (h.1 a 1 = -1 ∧ h.1 za r = -9) ∨ ∃ (n : Nat) (f : Nat → Int32), n ≤ M ∧ rowC h a n f ∧ rowM h za ca M r n f
def SR (h : MH) : Prop := ∀ r, r < 6 → rowS h (18 + 2 * r) 66 67 40 r
def STx (h : MH) : Prop := ∀ t, t < 4 → rowS h (30 + 2 * t) 69 70 60 t
def covC (h : MH) (a kd n : Nat) (ds cs : Nat → Nat) (w wt : Nat) : Prop := h.1 a 2 = nI kd ∧ h.1 a 3 = nI n ∧ h.1 a 4 = nI w ∧ h.1 a 5 = nI wt ∧ ∀ i, i < n → h.1 (a + 1) i = nI (ds i) ∧ h.1 (a + 2) i = nI (cs i)
def covM (h : MH) (c kd n : Nat) (ds cs : Nat → Nat) (w wt : Nat) : Prop := h.1 72 c = nI kd ∧ h.1 71 c = nI n ∧ ((kd = 1 ∨ kd = 2) → h.1 75 c = nI w) ∧ h.1 76 c = nI wt ∧ ∀ i, i < n → h.1 73 (40 * c + i) = nI (ds i) ∧ (kd = 3 → h.1 74 (40 * c + i) = nI (cs i))
def covK (kd n : Nat) (ds cs : Nat → Nat) (w wt : Nat) : Prop := (1 ≤ n ∧ n ≤ 40 ∧ kd ≤ 4 ∧ wt < 2147483648) ∧ (∀ i, i < n → ds i ≤ 255) ∧ (kd = 3 → ∀ i, i < n → 1 ≤ cs i ∧ cs i ≤ 9 ∧ ds i < cs i) ∧ (kd ≠ 3 → ∀ i, i < n → cs i = 0) ∧ ((kd = 1 ∨ kd = 2) → 1 ≤ w ∧ w ≤ 40) ∧ (¬ (kd = 1 ∨ kd = 2) → w = 0)
def covS (h : MH) (c : Nat) : Prop := (h.1 (38 + 3 * c) 3 = 0 ∧ h.1 71 c = 0) ∨ ∃ (kd n : Nat) (ds cs : Nat → Nat) (w wt : Nat), covK kd n ds cs w wt ∧ covC h (38 + 3 * c) kd n ds cs w wt ∧ covM h c kd n ds cs w wt
def SC (h : MH) : Prop := ∀ c, c < 6 → covS h c
def codC (h : MH) (a k w : Nat) (ls : Nat → Nat) : Prop := h.1 a 1 = nI k ∧ h.1 a 2 = nI w ∧ ∀ i, i < k → h.1 (a + 1) i = nI (ls i)
def codM (h : MH) (d k w : Nat) (ls : Nat → Nat) : Prop := h.1 78 d = nI k ∧ h.1 79 d = nI w ∧ ∀ i, i < k → h.1 80 (6 * d + i) = nI (ls i)
def codK (k w : Nat) (ls : Nat → Nat) : Prop := (1 ≤ k ∧ k ≤ 6 ∧ 1 ≤ w ∧ w ≤ 12) ∧ ∀ i, i < k → ls i < 2 ^ w
def codS (h : MH) (d : Nat) : Prop := (h.1 (56 + 2 * d) 1 = 0 ∧ h.1 78 d = 0) ∨ ∃ (k w : Nat) (ls : Nat → Nat), codK k w ls ∧ codC h (56 + 2 * d) k w ls ∧ codM h d k w ls
def SK (h : MH) : Prop := ∀ d, d < 4 → codS h d
def SA (h : MH) : Prop := h.1 0 9 = h.1 64 2
def SF (h : MH) : Prop := h.2.1 16 0 = h.2.1 64 3 ∧ h.2.1 16 1 = h.2.1 64 4
def SG (h : MH) : Prop := h.1 0 10 = h.1 64 0 ∧ ∀ f, 1 ≤ f → f ≤ 5 → h.1 17 f = h.1 65 f
def SW (h : MH) : Prop := h.2.2 = 0 ∨ h.2.2 = 1
def Sim (h : MH) : Prop := SR h ∧ STx h ∧ SC h ∧ SK h ∧ SA h ∧ SF h ∧ SG h ∧ SW h
theorem sim_start : Sim h00 := by
  refine ⟨fun r hr => Or.inl ?_, fun r hr => Or.inl ?_, fun r hr => Or.inl ?_, fun r hr => Or.inl ?_, rfl, ⟨rfl, rfl⟩, ⟨rfl, fun f h1 h2 => ?_⟩, Or.inl rfl⟩
  · exact (by decide +kernel : ∀ r, r < 6 → h00.1 (18 + 2 * r) 1 = -1 ∧ h00.1 66 r = -9) r hr
  · exact (by decide +kernel : ∀ r, r < 4 → h00.1 (30 + 2 * r) 1 = -1 ∧ h00.1 69 r = -9) r hr
  · exact (by decide +kernel : ∀ r, r < 6 → h00.1 (38 + 3 * r) 3 = 0 ∧ h00.1 71 r = 0) r hr
  · exact (by decide +kernel : ∀ r, r < 4 → h00.1 (56 + 2 * r) 1 = 0 ∧ h00.1 78 r = 0) r hr
  · exact (by decide +kernel : ∀ f, f < 6 → h00.1 17 f = h00.1 65 f) f (by omega)
section SIM
variable {h h2 : MH}
theorem rowS_of {a za ca M r : Nat} (e1 : h2.1 a = h.1 a) (e2 : h2.1 (a + 1) = h.1 (a + 1)) (e3 : h2.1 za r = h.1 za r) (e4 : ∀ i, i < M → h2.1 ca (M * r + i) = h.1 ca (M * r + i)) (S : rowS h a za ca M r) : rowS h2 a za ca M r := by
  rcases S with ⟨q1, q2⟩ | ⟨n, f, hn, ⟨c1, c2⟩, m1, m2⟩
  · exact Or.inl ⟨by rw [e1]; exact q1, by rw [e3]; exact q2⟩
  · exact Or.inr ⟨n, f, hn, ⟨by rw [e1]; exact c1, fun i hi => by rw [e2]; exact c2 i hi⟩, by rw [e3]; exact m1, fun i hi => by rw [e4 i (by omega)]; exact m2 i hi⟩
theorem SR_of (e : ∀ a, (18 ≤ a ∧ a ≤ 29) ∨ a = 66 ∨ a = 67 → h2.1 a = h.1 a) (S : SR h) : SR h2 := fun r hr => rowS_of (e _ (by omega)) (e _ (by omega)) (by rw [e 66 (by omega)]) (fun i _ => by rw [e 67 (by omega)]) (S r hr)
theorem STx_of (e : ∀ a, (30 ≤ a ∧ a ≤ 37) ∨ a = 69 ∨ a = 70 → h2.1 a = h.1 a) (S : STx h) : STx h2 := fun r hr => rowS_of (e _ (by omega)) (e _ (by omega)) (by rw [e 69 (by omega)]) (fun i _ => by rw [e 70 (by omega)]) (S r hr)
/-- one row anew -/
theorem SR_upd {j : Nat} (e : ∀ a, 18 ≤ a → a ≤ 29 → a ≠ 18 + 2 * j → a ≠ 19 + 2 * j → h2.1 a = h.1 a) (e66 : ∀ r, r < 6 → r ≠ j → h2.1 66 r = h.1 66 r) (e67 : ∀ q, q < 40 * j ∨ 40 * j + 40 ≤ q → h2.1 67 q = h.1 67 q) (new : rowS h2 (18 + 2 * j) 66 67 40 j) (S : SR h) : SR h2 := by
  intro r hr
  by_cases hj : r = j
  · subst hj; exact new
  · exact rowS_of (e _ (by omega) (by omega) (by omega) (by omega)) (e _ (by omega) (by omega) (by omega) (by omega)) (e66 r hr hj) (fun i hi => e67 _ (by omega)) (S r hr)
theorem STx_upd {j : Nat} (e : ∀ a, 30 ≤ a → a ≤ 37 → a ≠ 30 + 2 * j → a ≠ 31 + 2 * j → h2.1 a = h.1 a) (e66 : ∀ r, r < 4 → r ≠ j → h2.1 69 r = h.1 69 r) (e67 : ∀ q, q < 60 * j ∨ 60 * j + 60 ≤ q → h2.1 70 q = h.1 70 q) (new : rowS h2 (30 + 2 * j) 69 70 60 j) (S : STx h) : STx h2 := by
  intro r hr
  by_cases hj : r = j
  · subst hj; exact new
  · exact rowS_of (e _ (by omega) (by omega) (by omega) (by omega)) (e _ (by omega) (by omega) (by omega) (by omega)) (e66 r hr hj) (fun i hi => e67 _ (by omega)) (S r hr)
theorem covS_of {c : Nat} (e : ∀ a, 38 + 3 * c ≤ a → a ≤ 40 + 3 * c → h2.1 a = h.1 a) (e1 : ∀ a, a = 71 ∨ a = 72 ∨ a = 75 ∨ a = 76 → h2.1 a c = h.1 a c) (e2 : ∀ i, i < 40 → h2.1 73 (40 * c + i) = h.1 73 (40 * c + i)) (e3 : ∀ i, i < 40 → h2.1 74 (40 * c + i) = h.1 74 (40 * c + i)) (S : covS h c) : covS h2 c := by
  rcases S with ⟨q1, q2⟩ | ⟨kd, n, ds, cs, w, wt, hK, ⟨c1, c2, c3, c4, c5⟩, m1, m2, m3, m4, m5⟩
  · exact Or.inl ⟨by rw [e _ (by omega) (by omega)]; exact q1, by rw [e1 _ (by omega)]; exact q2⟩
  · have hn := hK.1.2.1
    refine Or.inr ⟨kd, n, ds, cs, w, wt, hK, ⟨by rw [e _ (by omega) (by omega)]; exact c1, by rw [e _ (by omega) (by omega)]; exact c2, by rw [e _ (by omega) (by omega)]; exact c3, by rw [e _ (by omega) (by omega)]; exact c4, fun i hi => ?_⟩, by rw [e1 _ (by omega)]; exact m1, by rw [e1 _ (by omega)]; exact m2, fun q => by rw [e1 _ (by omega)]; exact m3 q, by rw [e1 _ (by omega)]; exact m4, fun i hi => ?_⟩
    · rw [e _ (by omega) (by omega), e _ (by omega) (by omega)]
      exact c5 i hi
    · rw [e2 i (by omega), e3 i (by omega)]
      exact m5 i hi
theorem SC_of (e : ∀ a, (38 ≤ a ∧ a ≤ 55) ∨ (71 ≤ a ∧ a ≤ 76) → h2.1 a = h.1 a) (S : SC h) : SC h2 := fun c hc => covS_of (fun a h1 h3 => e a (by omega)) (fun a ha => by rw [e a (by omega)]) (fun i _ => by rw [e 73 (by omega)]) (fun i _ => by rw [e 74 (by omega)]) (S c hc)
/-- one cover anew -/
theorem SC_upd {j : Nat} (e : ∀ a, 38 ≤ a → a ≤ 55 → (a < 38 + 3 * j ∨ 40 + 3 * j < a) → h2.1 a = h.1 a) (e1 : ∀ a c, a = 71 ∨ a = 72 ∨ a = 75 ∨ a = 76 → c ≠ j → h2.1 a c = h.1 a c) (e2 : ∀ a q, a = 73 ∨ a = 74 → q < 40 * j ∨ 40 * j + 40 ≤ q → h2.1 a q = h.1 a q) (new : covS h2 j) (S : SC h) : SC h2 := by
  intro c hc
  by_cases hj : c = j
  · subst hj; exact new
  · exact covS_of (fun a h1 h3 => e a (by omega) (by omega) (by omega)) (fun a ha => e1 a c ha hj) (fun i hi => e2 73 _ (by omega) (by omega)) (fun i hi => e2 74 _ (by omega) (by omega)) (S c hc)
theorem codS_of {d : Nat} (e1 : h2.1 (56 + 2 * d) = h.1 (56 + 2 * d)) (e2 : h2.1 (57 + 2 * d) = h.1 (57 + 2 * d)) (e3 : h2.1 78 d = h.1 78 d) (e4 : h2.1 79 d = h.1 79 d) (e5 : ∀ i, i < 6 → h2.1 80 (6 * d + i) = h.1 80 (6 * d + i)) (S : codS h d) : codS h2 d := by
  rcases S with ⟨q1, q2⟩ | ⟨k, w, ls, hK, ⟨c1, c2, c3⟩, m1, m2, m3⟩
  · exact Or.inl ⟨by rw [e1]; exact q1, by rw [e3]; exact q2⟩
  · have hk := hK.1.2.1
    refine Or.inr ⟨k, w, ls, hK, ⟨by rw [e1]; exact c1, by rw [e1]; exact c2, fun i hi => ?_⟩, by rw [e3]; exact m1, by rw [e4]; exact m2, fun i hi => by rw [e5 i (by omega)]; exact m3 i hi⟩
    have := c3 i hi
    rw [show 56 + 2 * d + 1 = 57 + 2 * d by omega] at this ⊢
    rw [e2]
    exact this
theorem SK_of (e : ∀ a, (56 ≤ a ∧ a ≤ 63) ∨ (78 ≤ a ∧ a ≤ 80) → h2.1 a = h.1 a) (S : SK h) : SK h2 := fun d hd => codS_of (e _ (by omega)) (e _ (by omega)) (by rw [e 78 (by omega)]) (by rw [e 79 (by omega)]) (fun i _ => by rw [e 80 (by omega)]) (S d hd)
theorem SK_upd {j : Nat} (e : ∀ a, 56 ≤ a → a ≤ 63 → a ≠ 56 + 2 * j → a ≠ 57 + 2 * j → h2.1 a = h.1 a) (e1 : ∀ a d, a = 78 ∨ a = 79 → d ≠ j → h2.1 a d = h.1 a d) (e2 : ∀ q, q < 6 * j ∨ 6 * j + 6 ≤ q → h2.1 80 q = h.1 80 q) (new : codS h2 j) (S : SK h) : SK h2 := by
  intro d hd
  by_cases hj : d = j
  · subst hj; exact new
  · exact codS_of (e _ (by omega) (by omega) (by omega) (by omega)) (e _ (by omega) (by omega) (by omega) (by omega)) (e1 78 d (by omega) hj) (e1 79 d (by omega) hj) (fun i hi => e2 _ (by omega)) (S d hd)
end SIM
/-- an answer of both, and alike behind it -/
def Op (a : Option (Int32 × MH)) (b : MH → Option (Int32 × MH)) : Prop := ∃ (v : Int32) (h1 h2 : MH), a = some (v, h1) ∧ b h1 = some (v, h2) ∧ Sim h2
/-! findings -/
def fd (h : MH) (f : Nat) : MH := uI (uI h 0 10 (nI f)) 17 f (h.1 17 f + 1)
def mt (h : MH) (f : Nat) : MH := uI (uI h 64 0 (nI f)) 65 f (h.1 65 f + 1)
theorem cFound {h : MH} {f : Nat} (h1 : 1 ≤ f) (h5 : f ≤ 5) : f_X6_found h (nI f) = some (-3, fd h f) := by
  have e : (uI h 0 10 (nI f)).1 17 = h.1 17 := uI_ne (by decide)
  simp only [f_X6_found, nm_v, ix_n (show f < 6 by omega) (by decide), gd_t, tn_n (show f < 1000000 by omega), e]
  rw [if_neg (show ¬ nI f < 1 from (nI_nlt h1 (by omega) : ¬ nI f < nI 1)), if_neg (show ¬ 5 < nI f from (nI_nlt h5 (by omega) : ¬ nI 5 < nI f))]
  rfl
theorem mMeets {h : MH} {f : Nat} (h1 : 1 ≤ f) (h5 : f ≤ 5) : f_X7_meets h (nI f) = some (-3, mt h f) := by
  have e : (uI h 64 0 (nI f)).1 65 = h.1 65 := uI_ne (by decide)
  simp only [f_X7_meets, nm_v, ix_n (show f < 6 by omega) (by decide), gd_t, tn_n (show f < 1000000 by omega), e]
  rfl
theorem fd_ne {h : MH} {f a : Nat} (h0 : a ≠ 0) (h1 : a ≠ 17) : (fd h f).1 a = h.1 a := by unfold fd; rw [uI_ne h1, uI_ne h0]
theorem mt_ne {h : MH} {f a : Nat} (h0 : a ≠ 64) (h1 : a ≠ 65) : (mt h f).1 a = h.1 a := by unfold mt; rw [uI_ne h1, uI_ne h0]
theorem sim_found {h : MH} (S : Sim h) {f : Nat} (h1 : 1 ≤ f) (h5 : f ≤ 5) : Sim (mt (fd h f) f) := by
  obtain ⟨s1, s2, s3, s4, s5, s6, s7, s8⟩ := S
  refine ⟨SR_of (fun a ha => by rw [mt_ne (by omega) (by omega), fd_ne (by omega) (by omega)]) s1, STx_of (fun a ha => by rw [mt_ne (by omega) (by omega), fd_ne (by omega) (by omega)]) s2, SC_of (fun a ha => by rw [mt_ne (by omega) (by omega), fd_ne (by omega) (by omega)]) s3, SK_of (fun a ha => by rw [mt_ne (by omega) (by omega), fd_ne (by omega) (by omega)]) s4, ?_, s6, ⟨?_, ?_⟩, s8⟩
  · show (mt (fd h f) f).1 0 9 = (mt (fd h f) f).1 64 2
    have := s5
    unfold SA at this
    simp [mt, fd, uI, this]
  · simp [mt, fd, uI]
  · intro q q1 q5
    have := s7.2 q q1 q5
    have e2 := s7.2 f h1 h5
    simp [mt, fd, uI]
    by_cases hq : q = f
    · subst hq
      simp [e2]
    · simp [hq, this]
/-- both find the same, nothing else changed -/
theorem op_found {h : MH} (S : Sim h) {f : Nat} (h1 : 1 ≤ f) (h5 : f ≤ 5) {a : Option (Int32 × MH)} {b : MH → Option (Int32 × MH)} (ea : a = f_X6_found h (nI f)) (eb : b (fd h f) = f_X7_meets (fd h f) (nI f)) : Op a b :=
  ⟨-3, fd h f, mt (fd h f) f, by rw [ea, cFound h1 h5], by rw [eb, mMeets h1 h5], sim_found S h1 h5⟩
theorem op_same {h : MH} (S : Sim h) {v : Int32} {a : Option (Int32 × MH)} {b : MH → Option (Int32 × MH)} (ea : a = some (v, h)) (eb : b h = some (v, h)) : Op a b := ⟨v, h, h, ea, eb, S⟩
