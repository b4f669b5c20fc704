/-! constructors: worlds that grow -/
def rmN (d mc ms : Nat) : Room := { frames := d, cells := mc, slots := ms, locals := 40 * d }
abbrev Zt : Type := Nat → Nat → Bool
def encGF (V : Ev) (μ : Mem) (z : Zt) (a j : Nat) : Value := if rb (evK V a) j = true then (if z a j = true then .ref (evA V (evR V a j)) else .null) else .int (μ.1 a j)
def encG (V : Ev) (μ : Mem) (z : Zt) (a : Nat) : va_E :=
  if evK V a < 11 then .inr (evK V a, (List.range (nf (evK V a))).map (encGF V μ z a))
  else if evK V a = 11 then .inl (evC V 11, evL V a, .inl (μ.1 a))
  else if evK V a = 12 then .inl (evC V 12, evL V a, .inr (.inl (μ.2 a)))
  else .inl (evC V (evK V a), evL V a, .inr (.inr (.inr (.inr (fun i => if z a i = true then some (evA V (evR V a i)) else none)))))
def wlG (V : Ev) (μ : Mem) (z : Zt) (n : Nat) : va_W := (List.range n).map (fun a => (evA V a, encG V μ z a))
def sA (V : Ev) (ad : Nat → Nat) : Ev := (ad, V.2)
def upA (ad : Nat → Nat) (n q : Nat) : Nat → Nat := fun a => if a = n then q else ad a
theorem upA_n {ad : Nat → Nat} {n q : Nat} : upA ad n q n = q := if_pos rfl
theorem upA_ne {ad : Nat → Nat} {n q a : Nat} (h : a ≠ n) : upA ad n q a = ad a := if_neg h
def okZ (V : Ev) (z : Zt) (n : Nat) : Prop := ∀ a j, a < n → z a j = true → evR V a j < n
def zu (z : Zt) (a j : Nat) : Zt := fun b i => if b = a ∧ i = j then true else z b i
theorem zu_at {z : Zt} {a j : Nat} : zu z a j a j = true := if_pos ⟨rfl, rfl⟩
theorem zu_ne {z : Zt} {a j b i : Nat} (h : ¬ (b = a ∧ i = j)) : zu z a j b i = z b i := if_neg h
theorem wlG_get {V : Ev} {μ : Mem} {z : Zt} {n a : Nat} (h : a < n) : (wlG V μ z n)[a]? = some (evA V a, encG V μ z a) := by
  unfold wlG; rw [List.getElem?_map, List.getElem?_range h]; rfl
theorem encG_ad {V : Ev} {ad ad2 : Nat → Nat} {μ : Mem} {z : Zt} {a : Nat} (h : ∀ j, z a j = true → ad2 (evR V a j) = ad (evR V a j)) : encG (sA V ad2) μ z a = encG (sA V ad) μ z a := by
  have e1 : encGF (sA V ad2) μ z a = encGF (sA V ad) μ z a := by
    funext j
    unfold encGF
    by_cases hr : rb (evK V a) j = true
    · have hr1 : rb (evK (sA V ad2) a) j = true := hr
      have hr2 : rb (evK (sA V ad) a) j = true := hr
      rw [if_pos hr1, if_pos hr2]
      by_cases hz : z a j = true
      · rw [if_pos hz, if_pos hz]
        show Value.ref (ad2 (evR V a j)) = Value.ref (ad (evR V a j))
        rw [h j hz]
      · rw [if_neg hz, if_neg hz]
    · have hr1 : ¬ rb (evK (sA V ad2) a) j = true := hr
      have hr2 : ¬ rb (evK (sA V ad) a) j = true := hr
      rw [if_neg hr1, if_neg hr2]
  have e2 : (fun i => if z a i = true then some (evA (sA V ad2) (evR (sA V ad2) a i)) else none) = (fun i => if z a i = true then some (evA (sA V ad) (evR (sA V ad) a i)) else none) := by
    funext i
    by_cases hz : z a i = true
    · rw [if_pos hz, if_pos hz]
      show some (ad2 (evR V a i)) = some (ad (evR V a i))
      rw [h i hz]
    · rw [if_neg hz, if_neg hz]
  unfold encG
  rw [e1, e2]
  rfl
theorem wlG_push {V : Ev} {ad : Nat → Nat} {μ : Mem} {z : Zt} {n q : Nat} (h : okZ V z n) : wlG (sA V (upA ad n q)) μ z (n + 1) = wlG (sA V ad) μ z n ++ [(q, encG (sA V (upA ad n q)) μ z n)] := by
  unfold wlG
  rw [List.range_succ, List.map_append]
  congr 1
  · apply List.map_congr_left
    intro a ha
    have ha := List.mem_range.mp ha
    show (upA ad n q a, encG (sA V (upA ad n q)) μ z a) = (ad a, encG (sA V ad) μ z a)
    rw [upA_ne (by omega), encG_ad (fun j hz => upA_ne (by have := h a j ha hz; omega))]
  · show [(upA ad n q n, _)] = _
    rw [upA_n]
theorem wlG_set {V : Ev} {μ μ2 : Mem} {z z2 : Zt} {n a : Nat} {e : va_E} (h : a < n) (he : encG V μ2 z2 a = e) (ho : ∀ b, b ≠ a → encG V μ2 z2 b = encG V μ z b) : (wlG V μ z n).set a (evA V a, e) = wlG V μ2 z2 n := by
  apply List.ext_getElem?
  intro i
  have hlen : a < (wlG V μ z n).length := by unfold wlG; simpa using h
  by_cases hi : i = a
  · subst hi
    rw [List.getElem?_set_self hlen, wlG_get h, he]
  · rw [List.getElem?_set_ne (Ne.symm hi)]
    unfold wlG
    rw [List.getElem?_map, List.getElem?_map]
    by_cases hn : i < n
    · rw [List.getElem?_range hn]; simp only [Option.map_some]; rw [ho i hi]
    · rw [List.getElem?_eq_none (by simpa using hn)]; rfl
theorem encG_obj {V : Ev} {μ : Mem} {z : Zt} {a k : Nat} (h : evK V a = k) (hk : k < 11) : encG V μ z a = .inr (k, (List.range (nf k)).map (encGF V μ z a)) := by
  subst h; unfold encG; rw [if_pos hk]
theorem encG_ai {V : Ev} {μ : Mem} {z : Zt} {a n : Nat} (h : evK V a = 11) (hn : evL V a = n) : encG V μ z a = .inl (evC V 11, n, .inl (μ.1 a)) := by
  subst hn; unfold encG; rw [h]; rfl
theorem encG_aj {V : Ev} {μ : Mem} {z : Zt} {a n : Nat} (h : evK V a = 12) (hn : evL V a = n) : encG V μ z a = .inl (evC V 12, n, .inr (.inl (μ.2 a))) := by
  subst hn; unfold encG; rw [h]; rfl
theorem encG_ar {V : Ev} {μ : Mem} {z : Zt} {a k n : Nat} (h : evK V a = k) (hk : 12 < k) (hn : evL V a = n) : encG V μ z a = .inl (evC V k, n, .inr (.inr (.inr (.inr (fun i => if z a i = true then some (evA V (evR V a i)) else none))))) := by
  subst hn; subst h; unfold encG; rw [if_neg (by omega), if_neg (by omega), if_neg (by omega)]
theorem encG_sI_ne {V : Ev} {μ : Mem} {z : Zt} {a b j : Nat} {v : Int32} (h : b ≠ a) : encG V (sI μ a j v) z b = encG V μ z b := by
  have e1 : (sI μ a j v).1 b = μ.1 b := up2_ne h
  have e3 : encGF V (sI μ a j v) z b = encGF V μ z b := by funext i; unfold encGF; rw [e1]
  unfold encG; rw [e3, e1]; rfl
theorem encG_zu_ne {V : Ev} {μ : Mem} {z : Zt} {a b j : Nat} (h : b ≠ a) : encG V μ (zu z a j) b = encG V μ z b := by
  have e : ∀ i, zu z a j b i = z b i := fun i => zu_ne (fun q => h q.1)
  have e3 : encGF V μ (zu z a j) b = encGF V μ z b := by funext i; unfold encGF; rw [e i]
  have e4 : (fun i => if zu z a j b i = true then some (evA V (evR V b i)) else none) = (fun i => if z b i = true then some (evA V (evR V b i)) else none) := by funext i; rw [e i]
  unfold encG; rw [e3, e4]
theorem encG_sI_obj {V : Ev} {μ : Mem} {z : Zt} {a j k : Nat} {v : Int32} (h : evK V a = k) (hk : k < 11) (hr : rb k j = false) : encG V (sI μ a j v) z a = .inr (k, ((List.range (nf k)).map (encGF V μ z a)).set j (.int v)) := by
  rw [encG_obj h hk]
  subst h
  rw [map_set (g := encGF V (sI μ a j v) z a)]
  · unfold encGF sI up2; rw [hr]; simp
  · intro i hi; unfold encGF sI up2; simp [hi]
theorem encG_zu_obj {V : Ev} {μ : Mem} {z : Zt} {a j k : Nat} (h : evK V a = k) (hk : k < 11) (hr : rb k j = true) : encG V μ (zu z a j) a = .inr (k, ((List.range (nf k)).map (encGF V μ z a)).set j (.ref (evA V (evR V a j)))) := by
  rw [encG_obj h hk]
  subst h
  rw [map_set (g := encGF V μ (zu z a j) a)]
  · unfold encGF; rw [hr, zu_at]; simp
  · intro i hi
    have : zu z a j a i = z a i := zu_ne (fun q => hi q.2)
    unfold encGF; rw [this]
theorem encG_sI_ai {V : Ev} {μ : Mem} {z : Zt} {a j n : Nat} {v : Int32} (h : evK V a = 11) (hn : evL V a = n) : encG V (sI μ a j v) z a = .inl (evC V 11, n, .inl (upd (μ.1 a) j v)) := by
  rw [encG_ai h hn]
  have : (sI μ a j v).1 a = upd (μ.1 a) j v := by funext i; simp [sI, up2, upd]
  rw [this]
theorem encG_zu_ar {V : Ev} {μ : Mem} {z : Zt} {a j k n : Nat} (h : evK V a = k) (hk : 12 < k) (hn : evL V a = n) : encG V μ (zu z a j) a = .inl (evC V k, n, .inr (.inr (.inr (.inr (va_up (fun i => if z a i = true then some (evA V (evR V a i)) else none) j (some (evA V (evR V a j)))))))) := by
  rw [encG_ar h hk hn]
  have : (fun i => if zu z a j a i = true then some (evA V (evR V a i)) else none) = va_up (fun i => if z a i = true then some (evA V (evR V a i)) else none) j (some (evA V (evR V a j))) := by
    funext i
    unfold va_up
    by_cases hi : i = j
    · rw [hi, zu_at]; simp
    · rw [zu_ne (fun q => hi q.2)]; simp [hi]
  rw [this]
def AO (U : State) : Prop := va_AO RX0 U ∧ va_AO RX3 U ∧ va_AO RX4 U
theorem AO.moved {s U : State} (h : s.vm.Alike U.vm) (H : AO s) : AO U := ⟨H.1.moved h, H.2.1.moved h, H.2.2.moved h⟩
/-- from this frame, over this growing world, the machine comes to Q -/
def GN (X : Cx) (ad : Nat → Nat) (pc : Nat) (lv : List (Nat × Value)) (st : List Value) (μ : Mem) (z : Zt) (n k m : Nat) : Prop :=
  ∀ (H : Heap) (locs : List Loc) (ls : Array Slot), va_P (evD (xV X)) vwCl (wlG (sA (xV X) ad) μ z n) H → va_D (xA X) (wlG (sA (xV X) ad) μ z n) → va_S (xA X) (xs X).heap H locs → lv_has ls (xn X) lv → W (xp X) (xl X) (xe X) (xR X) (xs X) (xm X) (xa X) (xb X) (xme X) (xc X) H locs k m (xQ X) (F0 (xm X) pc ls st)
def FN (X : Cx) (cc : ByteArray) (own : String) (d mc ms : Nat) : Prop :=
  (xp X).tables.exec = Jvm.exec ∧ (xc X).code = cc ∧ (xc X).maxLocals = xn X ∧ (xs X).vm.findClass own = some (xm X).cls ∧ (∀ w ∈ TT, w.before (xa X) (xs X) = true) ∧ va_K (evD (xV X)) vwCl (tysV (xV X)) (xs X) ∧ (∀ q, (xs X).heap.size ≤ q → xA X q) ∧ xR X = rmN d mc ms ∧ (xme X).locks = false ∧ NW (xs X) ∧ AO (xs X) ∧ (xme X).name = "<init>"
section
variable {X : Cx} {cc : ByteArray} {own : String} {d mc ms pc : Nat} {ad : Nat → Nat} {lv lv' : List (Nat × Value)} {st : List Value} {μ : Mem} {z : Zt} {n k m : Nat}
theorem gn_iconst (hX : FN X cc own d mc ms) {i : Int} {v : Int32} (dg : decode cc pc = .ok (.iconst i, 1)) (hv1 : Int32.ofInt i = v) (h : GN X ad (pc + 1) lv (.int v :: st) μ z n k m) : GN X ad pc lv st μ z n k m := fun H locs ls hP hD hS hv => lv_iconst hX.1 hX.2.1 dg hv1 (h H locs ls hP hD hS hv)
theorem gn_bipush (hX : FN X cc own d mc ms) {i : Int} {v : Int32} (dg : decode cc pc = .ok (.bipush i, 2)) (hv1 : (Int8.ofInt i).toInt32 = v) (h : GN X ad (pc + 2) lv (.int v :: st) μ z n k m) : GN X ad pc lv st μ z n k m := fun H locs ls hP hD hS hv => lv_bipush hX.1 hX.2.1 dg hv1 (h H locs ls hP hD hS hv)
theorem gn_sipush (hX : FN X cc own d mc ms) {i : Int} {v : Int32} (dg : decode cc pc = .ok (.sipush i, 3)) (hv1 : (Int16.ofInt i).toInt32 = v) (h : GN X ad (pc + 3) lv (.int v :: st) μ z n k m) : GN X ad pc lv st μ z n k m := fun H locs ls hP hD hS hv => lv_sipush hX.1 hX.2.1 dg hv1 (h H locs ls hP hD hS hv)
theorem gn_aload_n (hX : FN X cc own d mc ms) {i : Fin 4} {x : Nat} (dg : decode cc pc = .ok (.aload_n i, 1)) (q : Nat) (hq : lv[q]? = some ((i : Nat), .ref x)) (h : GN X ad (pc + 1) lv (.ref x :: st) μ z n k m) : GN X ad pc lv st μ z n k m := fun H locs ls hP hD hS hv => lv_aload_n hX.1 hX.2.1 dg rfl (lv_at hv q hq) (h H locs ls hP hD hS hv)
theorem gn_iload_n (hX : FN X cc own d mc ms) {i : Fin 4} {x : Int32} (dg : decode cc pc = .ok (.iload_n i, 1)) (q : Nat) (hq : lv[q]? = some ((i : Nat), .int x)) (h : GN X ad (pc + 1) lv (.int x :: st) μ z n k m) : GN X ad pc lv st μ z n k m := fun H locs ls hP hD hS hv => lv_iload_n hX.1 hX.2.1 dg rfl (lv_at hv q hq) (h H locs ls hP hD hS hv)
theorem gn_istore_n (hX : FN X cc own d mc ms) {i : Fin 4} {x : Int32} (dg : decode cc pc = .ok (.istore_n i, 1)) (lv2 : List (Nat × Value)) (hn : (i : Nat) < xn X) (hl : ((i : Nat), Value.int x) :: lv.filter (fun q => !(q.1 == (i : Nat)) && !(q.1 + 1 == (i : Nat) && q.2.category == 2)) = lv2) (h : GN X ad (pc + 1) lv2 st μ z n k m) : GN X ad pc lv (.int x :: st) μ z n k m := fun H locs ls hP hD hS hv => lv_istore_n hX.1 hX.2.1 dg rfl hv hn hl (fun ls2 hv2 => h H locs ls2 hP hD hS hv2)
theorem gn_iinc (hX : FN X cc own d mc ms) {i : Nat} {c : Int} {x : Int32} (dg : decode cc pc = .ok (.iinc i c, 3)) (q : Nat) (v : Int32) (lv2 : List (Nat × Value)) (hq : lv[q]? = some (i, .int x)) (hv1 : Int32.ofInt c = v) (hn : i < xn X) (hl : (i, Value.int (x + v)) :: lv.filter (fun q => !(q.1 == i) && !(q.1 + 1 == i && q.2.category == 2)) = lv2) (h : GN X ad (pc + 3) lv2 st μ z n k m) : GN X ad pc lv st μ z n k m := fun H locs ls hP hD hS hv => lv_iinc hX.1 hX.2.1 dg hv hq (by rw [hv1]) hn hl (fun ls2 hv2 => h H locs ls2 hP hD hS hv2)
theorem gn_sub (ks : List Nat) (hl : lv_pick lv ks = lv') (h : GN X ad pc lv' st μ z n k m) : GN X ad pc lv st μ z n k m := fun H locs ls hP hD hS hv => h H locs ls hP hD hS (lv_sub hv ks hl)
theorem gn_obj (hX : FN X cc own d mc ms) {index a : Nat} (dg : decode cc pc = .ok (.invokespecial index, 3)) (hl : Cond.methodLink own index objectInit ∈ TT) (hd : 1 ≤ d) (hs : (st.map fun v => v.category).sum ≤ 8) (h : GN X ad (pc + 3) lv st μ z n k m) : GN X ad pc lv (.ref a :: st) μ z n k m := by
  intro H locs ls hP hD hS hv
  have hts := hX.2.2.2.2.1
  have hR := hX.2.2.2.2.2.2.2.1
  refine W.objInit hX.1 hX.2.1 hX.2.2.2.1 (hts _ hl) (hts _ (by decide +kernel)) (hts _ (by decide +kernel)) rfl (by rw [hX.2.2.1]; exact hv.1) rfl dg (by rw [hR]; exact hd) (by rw [hR]; show 0 + (st.map fun v => v.category).sum + 12 ≤ 40 * d; omega) ?_
  exact W.eq (g2 := F0 (xm X) (pc + 3) ls st) rfl (h H locs ls hP hD hS hv)
end
