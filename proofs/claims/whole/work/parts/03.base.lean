/-! the small machine: one heap of int and long places; its cells lie at g.2.2 on -/
abbrev MH : Type := (Nat → Nat → Int32) × (Nat → Nat → Int64) × Nat
abbrev Gx : Type := va_G × (Nat → ClassId) × Nat
def rA (g : Gx) (a : Nat) : Value := .ref (g.2.2 + a)
def shpT : List (Nat × Nat) := [(6, 0), (13, 6), (13, 4), (14, 6), (15, 4), (0, 0), (10, 6), (5, 0), (10, 60), (3, 0), (10, 40), (10, 64), (10, 64), (10, 40), (4, 0), (10, 40), (2, 0), (10, 6), (5, 0), (10, 60), (5, 0), (10, 60), (5, 0), (10, 60), (5, 0), (10, 60), (5, 0), (10, 60), (5, 0), (10, 60), (5, 0), (10, 60), (5, 0), (10, 60), (5, 0), (10, 60), (5, 0), (10, 60), (1, 0), (10, 40), (10, 40), (1, 0), (10, 40), (10, 40), (1, 0), (10, 40), (10, 40), (1, 0), (10, 40), (10, 40), (1, 0), (10, 40), (10, 40), (1, 0), (10, 40), (10, 40), (0, 0), (10, 6), (0, 0), (10, 6), (0, 0), (10, 6), (0, 0), (10, 6), (7, 0), (10, 6), (10, 6), (10, 240), (10, 40), (10, 4), (10, 240), (10, 6), (10, 6), (10, 240), (10, 240), (10, 6), (10, 6), (10, 40), (10, 4), (10, 4), (10, 24), (10, 6), (11, 40), (10, 64), (10, 40), (12, 10201), (10, 8)]
def rfT : List (List Nat) := [[1, 2, 3, 4, 5, 7, 9, 14, 16, 0, 0, 17], [18, 20, 22, 24, 26, 28], [30, 32, 34, 36], [38, 41, 44, 47, 50, 53], [56, 58, 60, 62], [6], [], [8], [], [10, 11, 12, 13], [], [], [], [], [15], [], [], [], [19], [], [21], [], [23], [], [25], [], [27], [], [29], [], [31], [], [33], [], [35], [], [37], [], [39, 40], [], [], [42, 43], [], [], [45, 46], [], [], [48, 49], [], [], [51, 52], [], [], [54, 55], [], [], [57], [], [59], [], [61], [], [63], [], [0, 65, 0, 0, 0, 66, 67, 68, 69, 70, 71, 72, 73, 74, 75, 76, 0, 77, 78, 79, 80, 0, 0, 81, 82, 0, 0, 83, 84, 85, 86, 0], [], [], [], [], [], [], [], [], [], [], [], [], [], [], [], [], [], [], [], [], [], []]
def ftyT : List (List Nat) := [[0, 1, 1], [0, 0, 1, 1, 1, 1], [2, 2], [0, 0, 0, 0, 1], [0, 3], [0, 1], [0, 0, 0, 0, 0, 0, 0, 0, 0, 1, 1, 0], [1, 0, 1, 2, 2, 0, 0, 0, 0, 0, 0, 0, 0, 0, 0, 0, 1, 0, 0, 0, 0, 1, 1, 0, 0, 1, 1, 0, 0, 0, 0, 2]]
def shp (a : Nat) : Nat × Nat := shpT.getD a (99, 0)
def rf (a k : Nat) : Nat := (rfT.getD a []).getD k 0
def fty (ci : Nat) : List Nat := ftyT.getD ci []
def uI (h : MH) (a k : Nat) (v : Int32) : MH := (fun b j => if b = a ∧ j = k then v else h.1 b j, h.2)
def uL (h : MH) (a k : Nat) (v : Int64) : MH := (h.1, fun b j => if b = a ∧ j = k then v else h.2.1 b j, h.2.2)
def uA (h : MH) (a : Nat) (f : Nat → Int32) : MH := (fun b j => if b = a then f j else h.1 b j, h.2)
/-- the long row that Mark makes for itself -/
def uW (h : MH) : MH := (h.1, fun b j => if b = 87 then 0 else h.2.1 b j, 1)
abbrev cls8 : List vw_C := [(RX0, TX0, 3), (RX1, TX1, 6), (RX2, TX2, 2), (RX3, TX3, 5), (RX4, TX4, 2), (RX5, TX5, 2), (RX6, TX6, 12), (RX7, TX7, 32)]
def tys6 (f : Nat → ClassId) : List (ClassId × FieldType) := [(f 0, .int), (f 1, .boolean), (f 2, .long), (f 3, .object RX5), (f 4, .object RX1), (f 5, .object RX0)]
def fv (g : Gx) (h : MH) (a k t : Nat) : Value := match t with
  | 0 => rA g (rf a k)
  | 1 => .int (h.1 a k)
  | 2 => .long (h.2.1 a k)
  | _ => if h.2.2 = 0 then .null else rA g 87
def flds (g : Gx) (h : MH) (a : Nat) : List Nat → Nat → List Value
  | [], _ => []
  | t :: ts, k => fv g h a k t :: flds g h a ts (k + 1)
def cellT (g : Gx) (h : MH) (a : Nat) (q : Nat × Nat) : va_E := match q.1 with
  | 10 => .inl (g.2.1 0, q.2, .inl (h.1 a))
  | 11 => .inl (g.2.1 1, q.2, .inl (h.1 a))
  | 12 => .inl (g.2.1 2, q.2, .inr (.inl (h.2.1 a)))
  | 13 => .inl (g.2.1 3, q.2, .inr (.inr (.inr (.inr (fun j => some (g.2.2 + rf a j))))))
  | 14 => .inl (g.2.1 4, q.2, .inr (.inr (.inr (.inr (fun j => some (g.2.2 + rf a j))))))
  | 15 => .inl (g.2.1 5, q.2, .inr (.inr (.inr (.inr (fun j => some (g.2.2 + rf a j))))))
  | ci => .inr (ci, flds g h a (fty ci) 0)
def cellE (g : Gx) (h : MH) (a : Nat) : va_E := if a = 87 then cellT g h a (12, 5101) else cellT g h a (shp a)
def wld (g : Gx) (h : MH) : va_W := (List.range (87 + h.2.2)).map (fun a => (g.2.2 + a, cellE g h a))
def AG (g : Gx) : Nat → Prop := fun q => g.2.2 ≤ q
theorem wld_at {g : Gx} {h : MH} {a : Nat} (ha : a < 87 + h.2.2) : (wld g h)[a]? = some (g.2.2 + a, cellE g h a) := by
  unfold wld
  rw [List.getElem?_map, List.getElem?_range ha]
  rfl
theorem wld_out {g : Gx} {h : MH} {a : Nat} (ha : 87 + h.2.2 ≤ a) : (wld g h)[a]? = none := by
  unfold wld
  rw [List.getElem?_map, List.getElem?_eq_none (by simpa using ha)]
  rfl
theorem wld_D (g : Gx) (h : MH) : va_D (AG g) (wld g h) := by
  have key : ∀ (i : Nat) (p : Nat × va_E), (wld g h)[i]? = some p → p.1 = g.2.2 + i := by
    intro i p hp
    by_cases hi : i < 87 + h.2.2
    · rw [wld_at hi] at hp
      cases hp
      rfl
    · rw [wld_out (by omega)] at hp
      cases hp
  refine ⟨fun i j p q hi hj e => ?_, fun k q hq => ?_⟩
  · have h1 := key i p hi
    have h2 := key j q hj
    omega
  · rw [key k q hq]
    exact Nat.le_add_right _ _
theorem shp_lt {a : Nat} (h : (shp a).1 ≠ 99) : a < 87 := by
  by_cases hl : a < 87
  · exact hl
  · exfalso
    apply h
    have : shpT[a]? = none := List.getElem?_eq_none (by show 87 ≤ a; omega)
    simp [shp, List.getD_eq_getElem?_getD, this]
theorem fv_eq {g : Gx} {h h' : MH} {a k t : Nat} (hI : h'.1 a = h.1 a) (hL : h'.2.1 a = h.2.1 a) (hw : h'.2.2 = h.2.2) : fv g h' a k t = fv g h a k t := by
  unfold fv
  rw [hI, hL, hw]
theorem flds_eq {g : Gx} {h h' : MH} {a : Nat} (hI : h'.1 a = h.1 a) (hL : h'.2.1 a = h.2.1 a) (hw : h'.2.2 = h.2.2) : ∀ (ts : List Nat) (k : Nat), flds g h' a ts k = flds g h a ts k
  | [], _ => rfl
  | t :: ts, k => by
    show fv g h' a k t :: _ = fv g h a k t :: _
    rw [fv_eq hI hL hw, flds_eq hI hL hw ts (k + 1)]
theorem cellT_eq {g : Gx} {h h' : MH} {a : Nat} {q : Nat × Nat} (hI : h'.1 a = h.1 a) (hL : h'.2.1 a = h.2.1 a) (hw : h'.2.2 = h.2.2) : cellT g h' a q = cellT g h a q := by
  unfold cellT
  simp only [hI, hL, flds_eq hI hL hw]
theorem cellE_eq {g : Gx} {h h' : MH} {a : Nat} (hI : h'.1 a = h.1 a) (hL : h'.2.1 a = h.2.1 a) (hw : h'.2.2 = h.2.2) : cellE g h' a = cellE g h a := by
  unfold cellE
  rw [cellT_eq hI hL hw, cellT_eq hI hL hw]
theorem wld_set {g : Gx} {h h' : MH} {a : Nat} {x : va_E} (ha : a < 87 + h.2.2) (hw : h'.2.2 = h.2.2) (ho : ∀ b, b ≠ a → h'.1 b = h.1 b ∧ h'.2.1 b = h.2.1 b) (e : cellE g h' a = x) : (wld g h).set a (g.2.2 + a, x) = wld g h' := by
  apply List.ext_getElem?
  intro i
  have hlen : (wld g h).length = 87 + h.2.2 := by simp [wld]
  by_cases hi : i < 87 + h.2.2
  · by_cases hia : i = a
    · subst hia
      rw [List.getElem?_set_self (by omega), wld_at (by omega), e]
    · rw [List.getElem?_set_ne (fun q => hia q.symm), wld_at hi, wld_at (by omega), cellE_eq (ho i hia).1 (ho i hia).2 hw]
  · rw [List.getElem?_eq_none (by simp [hlen]; omega), wld_out (by omega)]
theorem flds_at {g : Gx} {h : MH} {a : Nat} : ∀ (ts : List Nat) (j k t : Nat), ts[k]? = some t → (flds g h a ts j)[k]? = some (fv g h a (j + k) t)
  | [], _, _, _, e => by simp at e
  | s :: ts, j, 0, t, e => by
    have : s = t := by simpa using e
    subst this
    rfl
  | s :: ts, j, k + 1, t, e => by
    have h1 := flds_at (g := g) (h := h) (a := a) ts (j + 1) k t (by simpa using e)
    show (flds g h a ts (j + 1))[k]? = _
    rw [h1]
    congr 2
    omega
theorem flds_len {g : Gx} {h : MH} {a : Nat} : ∀ (ts : List Nat) (j : Nat), (flds g h a ts j).length = ts.length
  | [], _ => rfl
  | s :: ts, j => by
    show (flds g h a ts (j + 1)).length + 1 = _
    rw [flds_len ts (j + 1)]
    rfl
theorem flds_off {g : Gx} {h h' : MH} {a m : Nat} (hI : ∀ j, j ≠ m → h'.1 a j = h.1 a j) (hL : ∀ j, j ≠ m → h'.2.1 a j = h.2.1 a j) (hw : h'.2.2 = h.2.2) : ∀ (ts : List Nat) (j : Nat), m < j → flds g h' a ts j = flds g h a ts j
  | [], _, _ => rfl
  | t :: ts, j, hj => by
    show fv g h' a j t :: _ = fv g h a j t :: _
    rw [flds_off hI hL hw ts (j + 1) (by omega)]
    unfold fv
    rw [hI j (by omega), hL j (by omega), hw]
theorem flds_set {g : Gx} {h h' : MH} {a m : Nat} (hI : ∀ j, j ≠ m → h'.1 a j = h.1 a j) (hL : ∀ j, j ≠ m → h'.2.1 a j = h.2.1 a j) (hw : h'.2.2 = h.2.2) : ∀ (ts : List Nat) (j k t : Nat), j + k = m → ts[k]? = some t → (flds g h a ts j).set k (fv g h' a m t) = flds g h' a ts j
  | [], _, _, _, _, e => by simp at e
  | s :: ts, j, 0, t, hm, e => by
    have : s = t := by simpa using e
    subst this
    have hj : j = m := by omega
    subst hj
    show fv g h' a j s :: flds g h a ts (j + 1) = fv g h' a j s :: flds g h' a ts (j + 1)
    rw [flds_off hI hL hw ts (j + 1) (by omega)]
  | s :: ts, j, k + 1, t, hm, e => by
    show fv g h a j s :: (flds g h a ts (j + 1)).set k _ = fv g h' a j s :: flds g h' a ts (j + 1)
    rw [flds_set hI hL hw ts (j + 1) k t (by omega) (by simpa using e)]
    congr 1
    unfold fv
    rw [hI j (by omega), hL j (by omega), hw]
theorem cellE_obj {g : Gx} {h : MH} {a ci : Nat} (hs : shp a = (ci, 0)) (hc : ci < 10) : cellE g h a = .inr (ci, flds g h a (fty ci) 0) := by
  have h1 : a ≠ 87 := fun q => by
    have := shp_lt (a := a) (by rw [hs]; show ci ≠ 99; omega)
    omega
  unfold cellE
  rw [if_neg h1, hs]
  match ci, hc with
  | 0, _ => rfl
  | 1, _ => rfl
  | 2, _ => rfl
  | 3, _ => rfl
  | 4, _ => rfl
  | 5, _ => rfl
  | 6, _ => rfl
  | 7, _ => rfl
  | 8, _ => rfl
  | 9, _ => rfl
theorem cellE_arr {g : Gx} {h : MH} {a : Nat} {q : Nat × Nat} (hs : shp a = q) (hc : q.1 ≠ 99) : cellE g h a = cellT g h a q := by
  have h1 : a ≠ 87 := fun e => by
    have := shp_lt (a := a) (by rw [hs]; exact hc)
    omega
  unfold cellE
  rw [if_neg h1, hs]
