/-! T: what a walk says: if the pure answer is some r, and P r, then the walk's judgement -/
def T {ρ : Type} (P : ρ → Prop) (o : Option ρ) (G : Prop) : Prop := ∀ r, o = some r → P r → G
def gd {ρ : Type} (b : Bool) (o : Option ρ) : Option ρ := if b then o else none
def ix (i : Int32) (n : Nat) : Bool := decide (¬ (i < 0 ∨ n ≤ i.toNatClampNeg))
def irm (x y : Int32) : Int32 := x - x / y * y
def lrm (x y : Int64) : Int64 := x - x / y * y
def shl (x y : Int32) : Int32 := x <<< (y &&& 31)
def shr (x y : Int32) : Int32 := x >>> (y &&& 31)
def ushr (x y : Int32) : Int32 := (x.toUInt32 >>> (y.toUInt32 &&& Int32.toUInt32 31)).toInt32
def lshl (x : Int64) (y : Int32) : Int64 := x <<< (y.toInt64 &&& 63)
def nz (i : Int32) : Bool := decide (¬ i = 0)
def nzL (i : Int64) : Bool := decide (¬ i = 0)
theorem ix_in {i : Int32} {n : Nat} (h : ix i n = true) : vp_in i n := of_decide_eq_true (p := ¬ (i < 0 ∨ n ≤ i.toNatClampNeg)) h
theorem T_none {ρ : Type} {P : ρ → Prop} {G : Prop} : T P none G := fun _ e _ => by cases e
theorem T_some {ρ : Type} {P : ρ → Prop} {G : Prop} {r : ρ} (h : P r → G) : T P (some r) G := fun r' e p => by cases e; exact h p
theorem T_ite {ρ : Type} {P : ρ → Prop} {c : Prop} [Decidable c] {G : Prop} {A B : Option ρ} (a : c → T P A G) (b : ¬ c → T P B G) : T P (if c then A else B) G := by
  by_cases h : c
  · rw [if_pos h]; exact a h
  · rw [if_neg h]; exact b h
theorem T_gd {ρ : Type} {P : ρ → Prop} {c : Bool} {G : Prop} {A : Option ρ} (a : c = true → T P A G) : T P (gd c A) G := by
  cases c with
  | true => exact a rfl
  | false => exact T_none
def nm {α ρ : Type} (e : α) (k : α → Option ρ) : Option ρ := k e
theorem T_bind2 {α β ρ : Type} {P : ρ → Prop} {X : α → Prop} {Y : β → Prop} {G : Prop} {o : Option (α ⊕ β)} {k : α → Option ρ} {k2 : β → Option ρ} (a : T (Sum.elim X Y) o G) (b : ∀ x, T P (k x) (X x)) (b2 : ∀ x, T P (k2 x) (Y x)) : T P (o.bind (Sum.elim k k2)) G := by
  intro r e p
  cases o with
  | none => cases e
  | some x =>
    cases x with
    | inl x => exact a (.inl x) rfl (b x r e p)
    | inr x => exact a (.inr x) rfl (b2 x r e p)
theorem T_bind {α ρ : Type} {P : ρ → Prop} {X : α → Prop} {G : Prop} {o : Option α} {k : α → Option ρ} (a : T X o G) (b : ∀ x, T P (k x) (X x)) : T P (o.bind k) G := by
  intro r e p
  cases o with
  | none => cases e
  | some x => exact a x rfl (b x r e p)
/-! loops -/
def lp {σ β : Type} (step : σ → Option (σ ⊕ β)) : Nat → σ → Option β
  | 0, _ => none
  | n + 1, s => match step s with
    | none => none
    | some (.inl s') => lp step n s'
    | some (.inr b) => some b
theorem lp_mono {σ β : Type} {step : σ → Option (σ ⊕ β)} {b : β} : ∀ {n : Nat} {s : σ}, lp step n s = some b → ∀ m, n ≤ m → lp step m s = some b
  | 0, _, h, _, _ => by cases h
  | n + 1, s, h, 0, hm => by omega
  | n + 1, s, h, m + 1, hm => by
    unfold lp at h ⊢
    cases hs : step s with
    | none => rw [hs] at h; cases h
    | some x =>
      rw [hs] at h
      cases x with
      | inl s' => exact lp_mono (n := n) h m (by omega)
      | inr b' => exact h
noncomputable def lpo {σ β : Type} (step : σ → Option (σ ⊕ β)) (s : σ) : Option β := lp step (Classical.epsilon (fun n => (lp step n s).isSome = true)) s
theorem lpo_of {σ β : Type} {step : σ → Option (σ ⊕ β)} {s : σ} {b : β} (n : Nat) (h : lp step n s = some b) : lpo step s = some b := by
  have h1 : (lp step (Classical.epsilon (fun n => (lp step n s).isSome = true)) s).isSome = true := Classical.epsilon_spec (p := fun n => (lp step n s).isSome = true) ⟨n, by rw [h]; rfl⟩
  obtain ⟨b', hb'⟩ := Option.isSome_iff_exists.mp h1
  have e1 := lp_mono hb' (max n (Classical.epsilon (fun n => (lp step n s).isSome = true))) (by omega)
  have e2 := lp_mono h (max n (Classical.epsilon (fun n => (lp step n s).isSome = true))) (by omega)
  unfold lpo
  rw [hb', ← e1, e2]
theorem lpo_ex {σ β : Type} {step : σ → Option (σ ⊕ β)} {s : σ} {b : β} (h : lpo step s = some b) : ∃ n, lp step n s = some b := ⟨_, h⟩
theorem lpo_in {σ β : Type} {step : σ → Option (σ ⊕ β)} {s s' : σ} (h : step s = some (.inl s')) : lpo step s = lpo step s' := by
  cases h' : lpo step s' with
  | some b =>
    obtain ⟨n, hn⟩ := lpo_ex h'
    exact lpo_of (n + 1) (by unfold lp; rw [h]; exact hn)
  | none =>
    cases hs : lpo step s with
    | none => rfl
    | some b =>
      obtain ⟨n, hn⟩ := lpo_ex hs
      cases n with
      | zero => cases hn
      | succ n =>
        unfold lp at hn
        rw [h] at hn
        rw [lpo_of n hn] at h'
        cases h'
theorem lpo_out {σ β : Type} {step : σ → Option (σ ⊕ β)} {s : σ} {b : β} (h : step s = some (.inr b)) : lpo step s = some b := lpo_of 1 (by unfold lp; rw [h])
theorem T_loop {σ β : Type} {head : σ → Prop} {X : β → Prop} {step : σ → Option (σ ⊕ β)} (hs : ∀ s, T (Sum.elim head X) (step s) (head s)) (s : σ) : T X (lpo step s) (head s) := by
  intro r e p
  obtain ⟨n, hn⟩ := lpo_ex e
  clear e
  induction n generalizing s with
  | zero => cases hn
  | succ n ih =>
    unfold lp at hn
    cases h : step s with
    | none => rw [h] at hn; cases hn
    | some x =>
      rw [h] at hn
      cases x with
      | inl s' => exact hs s (.inl s') h (ih s' hn)
      | inr b => cases hn; exact hs s (.inr r) h p
/-! locals: what a store leaves -/
def lvset (i c : Nat) (v : Value) (lv : List (Nat × Value)) : List (Nat × Value) :=
  lv.filter (fun q => (!(q.1 == i) && !(q.1 + 1 == i && q.2.category == 2)) && Nat.blt q.1 i) ++ (i, v) :: lv.filter (fun q => ((!(q.1 == i) && (!(c == 2 && q.1 == i + 1)) && !(q.1 + 1 == i && q.2.category == 2))) && Nat.blt i q.1)
theorem lvset_1 {ls : Array Slot} {nL i : Nat} {v : Value} {lv : List (Nat × Value)} (h : lv_has ls nL ((i, v) :: lv.filter (fun q => !(q.1 == i) && !(q.1 + 1 == i && q.2.category == 2)))) : lv_has ls nL (lvset i 1 v lv) := by
  refine ⟨h.1, h.2.1, fun q hq => h.2.2 q ?_⟩
  rcases List.mem_append.mp hq with e | e
  · obtain ⟨e1, e2⟩ := List.mem_filter.mp e
    refine List.mem_cons_of_mem _ (List.mem_filter.mpr ⟨e1, ?_⟩)
    simp only [Bool.and_eq_true] at e2 ⊢
    exact e2.1
  · rcases List.mem_cons.mp e with e | e
    · rw [e]; exact List.mem_cons_self
    · obtain ⟨e1, e2⟩ := List.mem_filter.mp e
      refine List.mem_cons_of_mem _ (List.mem_filter.mpr ⟨e1, ?_⟩)
      simp only [Bool.and_eq_true] at e2 ⊢
      exact ⟨e2.1.1.1, e2.1.2⟩
theorem lvset_2 {ls : Array Slot} {nL i : Nat} {v : Value} {lv : List (Nat × Value)} (h : lv_has ls nL ((i, v) :: lv.filter (fun q => !(q.1 == i) && (!(q.1 == i + 1) && !(q.1 + 1 == i && q.2.category == 2))))) : lv_has ls nL (lvset i 2 v lv) := by
  refine ⟨h.1, h.2.1, fun q hq => h.2.2 q ?_⟩
  rcases List.mem_append.mp hq with e | e
  · obtain ⟨e1, e2⟩ := List.mem_filter.mp e
    refine List.mem_cons_of_mem _ (List.mem_filter.mpr ⟨e1, ?_⟩)
    simp only [Bool.and_eq_true] at e2 ⊢
    refine ⟨e2.1.1, ?_, e2.1.2⟩
    have h3 := Nat.blt_eq.mp e2.2
    simp
    omega
  · rcases List.mem_cons.mp e with e | e
    · rw [e]; exact List.mem_cons_self
    · obtain ⟨e1, e2⟩ := List.mem_filter.mp e
      refine List.mem_cons_of_mem _ (List.mem_filter.mpr ⟨e1, ?_⟩)
      simp only [Bool.and_eq_true] at e2 ⊢
      exact ⟨e2.1.1.1, by simpa using e2.1.1.2, e2.1.2⟩

