/-! The pure machine's words: memory by places, the world that it stands for, and a row for each instruction over it. -/
abbrev Mem : Type := (Nat → Nat → Int32) × (Nat → Nat → Int64)
def up2 {α : Type} (f : Nat → Nat → α) (a j : Nat) (v : α) : Nat → Nat → α := fun b i => if b = a ∧ i = j then v else f b i
def sI (μ : Mem) (a j : Nat) (v : Int32) : Mem := (up2 μ.1 a j v, μ.2)
def sJ (μ : Mem) (a j : Nat) (v : Int64) : Mem := (μ.1, up2 μ.2 a j v)
def cpI (μ : Mem) (a sp b dp n : Nat) : Mem := (fun x => if x = b then va_cpy (μ.1 a) (μ.1 b) sp dp n else μ.1 x, μ.2)
def inb (i : Int32) (n : Nat) : Bool := !(decide (i < 0) || decide (n ≤ i.toNatClampNeg))
theorem inb_in {i : Int32} {n : Nat} (h : inb i n = true) : vp_in i n := by
  unfold inb at h; unfold vp_in; simpa using h
theorem inb_of {i : Int32} {n : Nat} (h : vp_in i n) : inb i n = true := by
  unfold vp_in at h; unfold inb; simpa using h
def rI (μ : Mem) (n a : Nat) (i : Int32) : Option Int32 := if inb i n = true then some (μ.1 a i.toNatClampNeg) else none
def wI (μ : Mem) (n a : Nat) (i : Int32) (v : Int32) : Option Mem := if inb i n = true then some (sI μ a i.toNatClampNeg v) else none
def rJ (μ : Mem) (n a : Nat) (i : Int32) : Option Int64 := if inb i n = true then some (μ.2 a i.toNatClampNeg) else none
def wJ (μ : Mem) (n a : Nat) (i : Int32) (v : Int64) : Option Mem := if inb i n = true then some (sJ μ a i.toNatClampNeg v) else none
def rR (n : Nat) (i : Int32) : Option Nat := if inb i n = true then some i.toNatClampNeg else none
def cpA (μ : Mem) (n0 a : Nat) (sp : Int32) (n1 b : Nat) (dp n : Int32) : Option Mem := if ¬ sp < 0 ∧ ¬ dp < 0 ∧ ¬ n < 0 ∧ sp.toNatClampNeg + n.toNatClampNeg ≤ n0 ∧ dp.toNatClampNeg + n.toNatClampNeg ≤ n1 then some (cpI μ a sp.toNatClampNeg b dp.toNatClampNeg n.toNatClampNeg) else none
def iMax (x y : Int32) : Int32 := if x < y then y else x
def iMin (x y : Int32) : Int32 := if y < x then y else x
def iAbs (x : Int32) : Int32 := if 0 ≤ x then x else 0 - x
def iUsh (x y : Int32) : Int32 := (x.toUInt32 >>> (y.toUInt32 &&& Int32.toUInt32 31)).toInt32
def lCmp (x y : Int64) : Int32 := if x < y then -1 else if x = y then 0 else 1
theorem ob {α β : Type} {o : Option α} {f : α → Option β} {r : β} (h : o.bind f = some r) : ∃ v, o = some v ∧ f v = some r := by
  cases o with
  | none => cases h
  | some v => exact ⟨v, rfl, h⟩
-- layout: how many places, the kind of each, an array's length, where references lead
abbrev Ly : Type := Nat × (Nat → Nat) × (Nat → Nat) × (Nat → Nat → Nat)
abbrev Ev : Type := (Nat → Nat) × va_G × (Nat → ClassId) × Ly
abbrev evA (V : Ev) : Nat → Nat := V.1
abbrev evD (V : Ev) : va_G := V.2.1
abbrev evC (V : Ev) : Nat → ClassId := V.2.2.1
abbrev evN (V : Ev) : Nat := V.2.2.2.1
abbrev evK (V : Ev) : Nat → Nat := V.2.2.2.2.1
abbrev evL (V : Ev) : Nat → Nat := V.2.2.2.2.2.1
abbrev evR (V : Ev) : Nat → Nat → Nat := V.2.2.2.2.2.2
def nfL : List Nat := vwCl.map (fun q => q.2.2)
def nf (k : Nat) : Nat := nfL.getD k 0
def isRefD (d : String) : Bool := !(d == "I" || d == "Z")
def rbL : List (List Bool) := vwCl.map (fun q => (List.range q.2.2).map (fun j => isRefD (q.2.1 j).2.2.1))
def rb (k j : Nat) : Bool := (rbL.getD k []).getD j false
def encF (V : Ev) (μ : Mem) (a j : Nat) : Value := if rb (evK V a) j = true then .ref (evA V (evR V a j)) else .int (μ.1 a j)
def enc (V : Ev) (μ : Mem) (a : Nat) : va_E :=
  if evK V a < 11 then .inr (evK V a, (List.range (nf (evK V a))).map (encF V μ a))
  else if evK V a = 11 then .inl (evC V 11, evL V a, .inl (μ.1 a))
  else if evK V a = 12 then .inl (evC V 12, evL V a, .inr (.inl (μ.2 a)))
  else .inl (evC V (evK V a), evL V a, .inr (.inr (.inr (.inr (fun i => some (evA V (evR V a i)))))))
def wl (V : Ev) (μ : Mem) : va_W := (List.range (evN V)).map (fun a => (evA V a, enc V μ a))
theorem wl_get {V : Ev} {μ : Mem} {a : Nat} (h : a < evN V) : (wl V μ)[a]? = some (evA V a, enc V μ a) := by
  unfold wl; rw [List.getElem?_map, List.getElem?_range h]; rfl
theorem wl_set {V : Ev} {μ μ2 : Mem} {a : Nat} {e : va_E} (h : a < evN V) (he : enc V μ2 a = e) (ho : ∀ b, b ≠ a → enc V μ2 b = enc V μ b) : (wl V μ).set a (evA V a, e) = wl V μ2 := by
  apply List.ext_getElem?
  intro i
  have hlen : a < (wl V μ).length := by unfold wl; simpa using h
  by_cases hi : i = a
  · subst hi
    rw [List.getElem?_set_self hlen, wl_get h, he]
  · rw [List.getElem?_set_ne (Ne.symm hi)]
    unfold wl
    rw [List.getElem?_map, List.getElem?_map]
    by_cases hn : i < evN V
    · rw [List.getElem?_range hn]; simp only [Option.map_some]; rw [ho i hi]
    · rw [List.getElem?_eq_none (by simpa using hn)]; rfl
theorem enc_obj {V : Ev} {μ : Mem} {a k : Nat} (h : evK V a = k) (hk : k < 11) : enc V μ a = .inr (k, (List.range (nf k)).map (encF V μ a)) := by
  subst h; unfold enc; rw [if_pos hk]
theorem enc_ai {V : Ev} {μ : Mem} {a n : Nat} (h : evK V a = 11) (hn : evL V a = n) : enc V μ a = .inl (evC V 11, n, .inl (μ.1 a)) := by
  subst hn; unfold enc; rw [h]; rfl
theorem enc_aj {V : Ev} {μ : Mem} {a n : Nat} (h : evK V a = 12) (hn : evL V a = n) : enc V μ a = .inl (evC V 12, n, .inr (.inl (μ.2 a))) := by
  subst hn; unfold enc; rw [h]; rfl
theorem enc_ar {V : Ev} {μ : Mem} {a k n : Nat} (h : evK V a = k) (hk : 12 < k) (hn : evL V a = n) : enc V μ a = .inl (evC V k, n, .inr (.inr (.inr (.inr (fun i => some (evA V (evR V a i))))))) := by
  subst hn; subst h; unfold enc; rw [if_neg (by omega), if_neg (by omega), if_neg (by omega)]
theorem up2_ne {α : Type} {f : Nat → Nat → α} {a b j : Nat} {v : α} (h : b ≠ a) : up2 f a j v b = f b := by
  funext i; unfold up2; rw [if_neg (fun q => h q.1)]
theorem enc_sI_ne {V : Ev} {μ : Mem} {a b j : Nat} {v : Int32} (h : b ≠ a) : enc V (sI μ a j v) b = enc V μ b := by
  have e1 : (sI μ a j v).1 b = μ.1 b := up2_ne h
  have e3 : encF V (sI μ a j v) b = encF V μ b := by funext i; unfold encF; rw [e1]
  unfold enc; rw [e3, e1]; rfl
theorem enc_sJ_ne {V : Ev} {μ : Mem} {a b j : Nat} {v : Int64} (h : b ≠ a) : enc V (sJ μ a j v) b = enc V μ b := by
  have e1 : (sJ μ a j v).2 b = μ.2 b := up2_ne h
  have e3 : encF V (sJ μ a j v) b = encF V μ b := rfl
  unfold enc; rw [e3, e1]; rfl
theorem map_set {α : Type} {f g : Nat → α} {n j : Nat} {v : α} (hj : g j = v) (ho : ∀ i, i ≠ j → g i = f i) : ((List.range n).map f).set j v = (List.range n).map g := by
  apply List.ext_getElem?
  intro i
  by_cases hi : i = j
  · subst hi
    by_cases hn : i < n
    · rw [List.getElem?_set_self (by simpa using hn), List.getElem?_map, List.getElem?_range hn]; simp [hj]
    · rw [List.getElem?_eq_none (by simpa using hn), List.getElem?_eq_none (by simpa using hn)]
  · rw [List.getElem?_set_ne (Ne.symm hi), List.getElem?_map, List.getElem?_map]
    by_cases hn : i < n
    · rw [List.getElem?_range hn]; simp only [Option.map_some]; rw [ho i hi]
    · rw [List.getElem?_eq_none (by simpa using hn)]; rfl
theorem enc_sI_obj {V : Ev} {μ : Mem} {a j k : Nat} {v : Int32} (h : evK V a = k) (hk : k < 11) (hr : rb k j = false) : enc V (sI μ a j v) a = .inr (k, ((List.range (nf k)).map (encF V μ a)).set j (.int v)) := by
  rw [enc_obj h hk]
  subst h
  rw [map_set (g := encF V (sI μ a j v) a)]
  · unfold encF sI up2; rw [hr]; simp
  · intro i hi; unfold encF sI up2; simp [hi]
theorem enc_sI_ai {V : Ev} {μ : Mem} {a j n : Nat} {v : Int32} (h : evK V a = 11) (hn : evL V a = n) : enc V (sI μ a j v) a = .inl (evC V 11, n, .inl (upd (μ.1 a) j v)) := by
  rw [enc_ai h hn]
  have : (sI μ a j v).1 a = upd (μ.1 a) j v := by funext i; simp [sI, up2, upd]
  rw [this]
theorem enc_sJ_aj {V : Ev} {μ : Mem} {a j n : Nat} {v : Int64} (h : evK V a = 12) (hn : evL V a = n) : enc V (sJ μ a j v) a = .inl (evC V 12, n, .inr (.inl (vp_updL (μ.2 a) j v))) := by
  rw [enc_aj h hn]
  have : (sJ μ a j v).2 a = vp_updL (μ.2 a) j v := by funext i; simp [sJ, up2, vp_updL]
  rw [this]
theorem enc_cpI_ne {V : Ev} {μ : Mem} {a sp b dp n x : Nat} (h : x ≠ b) : enc V (cpI μ a sp b dp n) x = enc V μ x := by
  have e1 : (cpI μ a sp b dp n).1 x = μ.1 x := by unfold cpI; simp [h]
  have e3 : encF V (cpI μ a sp b dp n) x = encF V μ x := by funext i; unfold encF; rw [e1]
  unfold enc; rw [e3, e1]; rfl
theorem enc_cpI_ai {V : Ev} {μ : Mem} {a sp b dp n m : Nat} (h : evK V b = 11) (hn : evL V b = m) : enc V (cpI μ a sp b dp n) b = .inl (evC V 11, m, .inl (va_cpy (μ.1 a) (μ.1 b) sp dp n)) := by
  rw [enc_ai h hn]
  have : (cpI μ a sp b dp n).1 b = va_cpy (μ.1 a) (μ.1 b) sp dp n := by unfold cpI; simp
  rw [this]
