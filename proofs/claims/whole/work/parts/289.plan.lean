/-! prices and flips as numbers -/
def priceN (kd n : Nat) (ds : Nat → Nat) (w i k : Nat) : Nat := if kd = 3 then 12 / k else if kd = 1 then 60 / (1 + roughN n ds w i) + 1 else if kd = 2 then 2 * (60 / (1 + roughN n ds w i) + 1) else 10
theorem price_N {kd n u wt i : Nat} {ds cs : Nat → Nat} (hK : covK kd n ds cs u wt) (hi : i < n) : priceV kd n ds u i (cs i) = nI (priceN kd n ds u i (cs i)) ∧ priceN kd n ds u i (cs i) ≤ 1000 := by
  have rl := rough_le (w := u) hK.2.1 hi
  have d6 : 60 / (1 + roughN n ds u i) ≤ 60 := Nat.div_le_self _ _
  unfold priceV priceN
  by_cases k3 : kd = 3
  · have b := hK.2.2.1 k3 i hi
    have d12 : 12 / cs i ≤ 12 := Nat.div_le_self _ _
    rw [if_pos k3, if_pos k3]
    exact ⟨pk_div (a := 12) (by decide) (by omega) (by omega), (by omega)⟩
  rw [if_neg k3, if_neg k3]
  have e : 60 / nI (1 + roughN n ds u i) = nI (60 / (1 + roughN n ds u i)) := pk_div (a := 60) (by decide) (by omega) (by omega)
  by_cases k1 : kd = 1
  · rw [if_pos k1, if_pos k1, e, nI_s]
    exact ⟨rfl, (by omega)⟩
  rw [if_neg k1, if_neg k1]
  by_cases k2 : kd = 2
  · rw [if_pos k2, if_pos k2, e, nI_s, K_mulN]
    exact ⟨rfl, (by omega)⟩
  rw [if_neg k2, if_neg k2]
  exact ⟨rfl, (by decide)⟩
def flipN (kd d k : Nat) : Nat := if kd = 3 then (if k = 1 then d else if d + 1 = k then d - 1 else d + 1) else if kd = 2 then d ^^^ 2 else d ^^^ 1
theorem flip_N {kd n u wt i : Nat} {ds cs : Nat → Nat} (hK : covK kd n ds cs u wt) (hi : i < n) : flipV kd (ds i) (cs i) = nI (flipN kd (ds i) (cs i)) ∧ flipN kd (ds i) (cs i) ≤ 255 ∧ (kd = 3 → flipN kd (ds i) (cs i) < cs i) := by
  have b := hK.2.1 i hi
  unfold flipV flipN
  by_cases k3 : kd = 3
  · obtain ⟨c1, c2, c3⟩ := hK.2.2.1 k3 i hi
    rw [if_pos k3, if_pos k3]
    by_cases z : cs i = 1
    · rw [if_pos z, if_pos z]
      exact ⟨rfl, b, fun _ => c3⟩
    rw [if_neg z, if_neg z]
    by_cases y : ds i + 1 = cs i
    · rw [if_pos y, if_pos y]
      exact ⟨nIsub (b := 1) (by omega), (by omega), fun _ => (by omega)⟩
    · rw [if_neg y, if_neg y, nI_s]
      exact ⟨rfl, (by omega), fun _ => (by omega)⟩
  rw [if_neg k3, if_neg k3]
  by_cases k2 : kd = 2
  · rw [if_pos k2, if_pos k2]
    have l : ds i ^^^ 2 < 2 ^ 8 := Nat.xor_lt_two_pow (by omega) (by decide)
    exact ⟨N_xor (ds i) 2, (by omega), fun z => absurd z k3⟩
  · rw [if_neg k2, if_neg k2]
    have l : ds i ^^^ 1 < 2 ^ 8 := Nat.xor_lt_two_pow (by omega) (by decide)
    exact ⟨N_xor (ds i) 1, (by omega), fun z => absurd z k3⟩
theorem mHasN {s i : Nat} (hs : s < 2147483648) (hi : i < 32) : f_X7_has (nI s) (nI i) = some (s.testBit i) := by
  unfold f_X7_has
  rw [N_tb hs hi]
  cases s.testBit i <;> rfl
theorem lpo_indx {σ β : Type} {step : σ → Option (σ ⊕ β)} (I : Nat → σ → Prop) (Q : β → Prop) : ∀ (n : Nat) (k : Nat) (s0 : σ), I k s0 → (∀ i s, i < k + n → I i s → (∃ s2, step s = some (.inl s2) ∧ I (i + 1) s2) ∨ ∃ b, step s = some (.inr b) ∧ Q b) → (∀ s, I (k + n) s → ∃ b, step s = some (.inr b) ∧ Q b) → ∃ b, lpo step s0 = some b ∧ Q b
  | 0, k, s0, h0, _, hx => by
    obtain ⟨b, e, q⟩ := hx s0 h0
    exact ⟨b, lpo_out e, q⟩
  | n + 1, k, s0, h0, hs, hx => by
    rcases hs k s0 (by omega) h0 with ⟨s1, e, h1⟩ | ⟨b, e, q⟩
    · obtain ⟨b, e2, q⟩ := lpo_indx I Q n (k + 1) s1 h1 (fun i s hi => hs i s (by omega)) (fun s z => hx s (by rw [show k + (n + 1) = k + 1 + n by omega]; exact z))
      exact ⟨b, by rw [lpo_in e, e2], q⟩
    · exact ⟨b, lpo_out e, q⟩
/-! the plan of a block -/
def avB (kd : Nat) (cs : Nat → Nat) (wt : Nat) (O : Nat → Nat) (w b p : Nat) : Bool := !wetB kd cs wt (O (b * w + p))
def prB (kd n : Nat) (ds cs : Nat → Nat) (u : Nat) (O : Nat → Nat) (w b p : Nat) : Nat := priceN kd n ds u (O (b * w + p)) (cs (O (b * w + p)))
def tgB (kd : Nat) (ds O ls : Nat → Nat) (k w : Nat) (B : Nat → Bool) (b : Nat) : Nat := syX ls k (bsN kd ds O w b) w ^^^ bnN (fun i => B (b * k + i)) k
def rowB (B : Nat → Bool) (q : Nat) : Int32 := nI (if B q = true then 1 else 0)
theorem tg_lt {kd k w b : Nat} {ds O ls : Nat → Nat} {B : Nat → Bool} : tgB kd ds O ls k w B b < 2 ^ k := Nat.xor_lt_two_pow (syX_lt w) (bnN_lt k)
theorem tg64 {kd k w b : Nat} {ds O ls : Nat → Nat} {B : Nat → Bool} (hK : codK k w ls) : tgB kd ds O ls k w B b < 64 := Nat.lt_of_lt_of_le tg_lt (show 2 ^ k ≤ 2 ^ 6 from Nat.pow_le_pow_right (by decide) hK.1.2.1)
section PLAN
variable {h : MH} {c d r kd n k w u wt b m : Nat} {ds cs ls O : Nat → Nat} {B : Nat → Bool}
theorem cWanted (hK : codK k w ls) (hD : codC h (56 + 2 * d) k w ls) (hr : r < 6) (hR : rowC h (18 + 2 * r) (m * k) (rowB B)) (hm : m * k ≤ 40) (hb : b < m) : f_X3_bitsWanted h (56 + 2 * d) (18 + 2 * r) (nI b) = some (nI (bnN (fun i => B (b * k + i)) k)) := by
  have k6 := hK.1.2.1
  have b2 : (b + 1) * k ≤ m * k := Nat.mul_le_mul_right k hb
  have e2 : (b + 1) * k = b * k + k := Nat.succ_mul b k
  have key : f_X3_bitsWanted_L5 h (56 + 2 * d) (18 + 2 * r) (nI b) 0 0 = some (nI (bnN (fun i => B (b * k + i)) k)) := by
    unfold f_X3_bitsWanted_L5
    refine lpo_for (fun i => (nI (bnN (fun i => B (b * k + i)) i), nI i)) k (fun i hi => ?_) ?_
    · (try dsimp only)
      unfold f_X3_bitsWanted_B5
      rw [hD.1, if_pos (nI_lt hi (by omega)), lin_bw, cGet (sh_row hr) hR (by omega) (by omega), bd_s, nm_v, nI_s]
      unfold rowB
      rw [bn_step (b := fun i => B (b * k + i)) (by omega)]
    · (try dsimp only)
      unfold f_X3_bitsWanted_B5
      rw [hD.1, if_neg (nI_nlt (Nat.le_refl _) (by omega))]
  unfold f_X3_bitsWanted
  rw [key, bd_s]
abbrev dpB (kd n : Nat) (ds cs : Nat → Nat) (u wt : Nat) (O ls : Nat → Nat) (k w b : Nat) := dpN ls k (avB kd cs wt O w b) (prB kd n ds cs u O w b) w
def cB (kd n : Nat) (ds cs : Nat → Nat) (u wt : Nat) (O ls : Nat → Nat) (k w : Nat) (B : Nat → Bool) (b : Nat) : Nat := (dpB kd n ds cs u wt O ls k w b).1 (tgB kd ds O ls k w B b)
def wB (kd n : Nat) (ds cs : Nat → Nat) (u wt : Nat) (O ls : Nat → Nat) (k w : Nat) (B : Nat → Bool) (b : Nat) : Nat := (dpB kd n ds cs u wt O ls k w b).2 (tgB kd ds O ls k w B b)
theorem cPlanIn {a3 : Nat} {x4 x6 : Int32} (hc : c < 6) (hd : d < 4) (hKc : covK kd n ds cs u wt) (hC : covC h (38 + 3 * c) kd n ds cs u wt) (hK : codK k w ls) (hD : codC h (56 + 2 * d) k w ls) (hO : ∀ q, q < n → h.1 10 q = nI (O q) ∧ O q < n) (hb : b * w + w ≤ n) (E : ∀ t, t < 64 → setE h t (if t = 0 then 0 else 1000000) 0) : ∃ g, f_X3_planAll_L73 h (38 + 3 * c) (56 + 2 * d) a3 x4 (nI b) x6 0 = some g ∧ setF h g ∧ ∀ t, t < 64 → setE g t ((dpB kd n ds cs u wt O ls k w b).1 t) ((dpB kd n ds cs u wt O ls k w b).2 t) := by
  have w12 := hK.1.2.2.2
  have hn := hKc.1.2.1
  have key := lpo_ind (step := fun s : Int32 × MH => f_X3_planAll_B73 s.2 (38 + 3 * c) (56 + 2 * d) a3 x4 (nI b) x6 s.1) (fun i s => s.1 = nI i ∧ setF h s.2 ∧ ∀ t, t < 64 → setE s.2 t ((dpN ls k (avB kd cs wt O w b) (prB kd n ds cs u O w b) i).1 t) ((dpN ls k (avB kd cs wt O w b) (prB kd n ds cs u O w b) i).2 t)) (fun g => setF h g ∧ ∀ t, t < 64 → setE g t ((dpB kd n ds cs u wt O ls k w b).1 t) ((dpB kd n ds cs u wt O ls k w b).2 t)) w 0 (0, h) ⟨rfl, setF_r, E⟩ (fun i s hi I => ?_) (fun s I => ?_)
  · exact key
  · obtain ⟨v, g⟩ := s
    obtain ⟨e, F, D⟩ := I
    dsimp only at e F D
    subst e
    dsimp only
    have gC : covC g (38 + 3 * c) kd n ds cs u wt := covC_of (fun x q1 q2 => F.2 x (by omega) (by omega)) hC
    have gD : codC g (56 + 2 * d) k w ls := codC_of (fun x q1 q2 => F.2 x (by omega) (by omega)) hD
    obtain ⟨o1, o2⟩ := hO (b * w + i) (by omega)
    obtain ⟨p1, p2⟩ := price_N hKc o2
    unfold f_X3_planAll_B73
    rw [gD.2.1, if_pos (nI_lt (show i < w by omega) (by omega)), lin_bw, cPlaceAt (by omega), bd_s, F.2 10 (by decide) (by decide), o1, cIsWet (sh_cov hc) hKc gC o2, bd_s]
    cases z : wetB kd cs wt (O (b * w + i)) with
    | true =>
      refine ⟨(nI (i + 1), g), by rw [if_pos rfl, nI_s], rfl, F, ?_⟩
      have e : dpN ls k (avB kd cs wt O w b) (prB kd n ds cs u O w b) (i + 1) = dpN ls k (avB kd cs wt O w b) (prB kd n ds cs u O w b) i := if_neg (by unfold avB; rw [z]; decide)
      rw [e]
      exact D
    | false =>
      obtain ⟨g2, e2, F2, D2⟩ := cGrow (j := i) (p := prB kd n ds cs u O w b i) (col64 hK (j := i)) (by omega) p2 (fun t => dp_le) D
      rw [if_neg (by decide), cColumn (sh_cod hd) hK gD (by omega), bd_s, cPrice (sh_cov hc) hKc gC o2, bd_s, p1]
      refine ⟨(nI (i + 1), g2), ?_, rfl, setF_t F F2, ?_⟩
      · have e3 : f_X3_growSets g (nI i) (nI (colN ls k i)) (nI (priceN kd n ds u (O (b * w + i)) (cs (O (b * w + i))))) = some g2 := e2
        rw [e3, bd_s, nI_s]
      · have e : dpN ls k (avB kd cs wt O w b) (prB kd n ds cs u O w b) (i + 1) = (grC (dpN ls k (avB kd cs wt O w b) (prB kd n ds cs u O w b) i).1 (colN ls k i) (prB kd n ds cs u O w b i), grW (dpN ls k (avB kd cs wt O w b) (prB kd n ds cs u O w b) i).1 (dpN ls k (avB kd cs wt O w b) (prB kd n ds cs u O w b) i).2 (colN ls k i) i (prB kd n ds cs u O w b i)) := if_pos (by unfold avB; rw [z]; rfl)
        rw [e]
        exact D2
  · obtain ⟨v, g⟩ := s
    obtain ⟨e, F, D⟩ := I
    dsimp only at e F D
    rw [Nat.zero_add] at e D
    subst e
    dsimp only
    have gD : codC g (56 + 2 * d) k w ls := codC_of (fun x q1 q2 => F.2 x (by omega) (by omega)) hD
    unfold f_X3_planAll_B73
    exact ⟨g, by rw [gD.2.1, if_neg (nI_nlt (Nat.le_refl _) (by omega))], F, D⟩
end PLAN
