def TT : List Cond := lw_tbl.filter goodWord
theorem TTm {w : Cond} (h : w ∈ lw_tbl) (g : goodWord w = true) : w ∈ TT := List.mem_filter.mpr ⟨h, g⟩
theorem TTin {ws : List Cond} (h : ws.all (fun w => decide (w ∈ lw_tbl) && goodWord w) = true) : ∀ w ∈ ws, w ∈ TT := fun w hw => by
  have h1 := List.all_eq_true.mp h w hw
  simp only [Bool.and_eq_true, decide_eq_true_eq] at h1
  exact TTm h1.1 h1.2
/-- the links of a nest mate's private methods -/
def nestL : List (String × Nat × MethodName) := [(RX1, 22, yX9_isFrom), (RX3, 38, yX9_isFrom), (RX6, 61, yX9_isFrom), (RX7, 19, yX9_isFrom), (RX8, 32, yX9_isFrom), (RX9, 9, yX6_init), (RX0, 11, yX1_init), (RX4, 28, yX3_init), (RX6, 11, yX7_init), (RX6, 20, yX1_init), (RX8, 25, yX2_init), (RX8, 31, yX0_init)]
def NW (U : State) : Prop := ∀ q ∈ nestL, va_Nw (.methodLinkNest q.1 q.2.1 q.2.2 RX9) U
theorem NW.warm {s U : State} (hW : s.WarmedH U.vm) (h : NW s) : NW U := fun q hq => va_Nw.warmM hW (h q hq)
theorem NW.same {s U : State} (hW : s.vm = U.vm) (h : NW s) : NW U := fun q hq => va_Nw.same rfl hW (h q hq)
def rm (d : Nat) : Room := { frames := d, cells := 0, slots := 0, locals := 40 * d }
def tysV (V : Ev) : List (ClassId × FieldType) := [(evC V 11, .int), (evC V 12, .long), (evC V 13, .object RX0), (evC V 14, .object RX3), (evC V 15, .object RX4)]
abbrev Cx : Type := Program × Launch × Env × Room × State × MethodId × Array Value × List Frame × Method × Code × Nat × Ev × (Nat → Prop) × (State → Prop)
abbrev xp (X : Cx) : Program := X.1
abbrev xl (X : Cx) : Launch := X.2.1
abbrev xe (X : Cx) : Env := X.2.2.1
abbrev xR (X : Cx) : Room := X.2.2.2.1
abbrev xs (X : Cx) : State := X.2.2.2.2.1
abbrev xm (X : Cx) : MethodId := X.2.2.2.2.2.1
abbrev xa (X : Cx) : Array Value := X.2.2.2.2.2.2.1
abbrev xb (X : Cx) : List Frame := X.2.2.2.2.2.2.2.1
abbrev xme (X : Cx) : Method := X.2.2.2.2.2.2.2.2.1
abbrev xc (X : Cx) : Code := X.2.2.2.2.2.2.2.2.2.1
abbrev xn (X : Cx) : Nat := X.2.2.2.2.2.2.2.2.2.2.1
abbrev xV (X : Cx) : Ev := X.2.2.2.2.2.2.2.2.2.2.2.1
abbrev xA (X : Cx) : Nat → Prop := X.2.2.2.2.2.2.2.2.2.2.2.2.1
abbrev xQ (X : Cx) : State → Prop := X.2.2.2.2.2.2.2.2.2.2.2.2.2
/-- from this frame, with this memory behind it, the machine comes to Q -/
def Gd (X : Cx) (pc : Nat) (lv : List (Nat × Value)) (st : List Value) (μ : Mem) : Prop :=
  ∀ (H : Heap) (locs : List Loc) (ls : Array Slot), va_P (evD (xV X)) vwCl (wl (xV X) μ) H → va_D (xA X) (wl (xV X) μ) → va_S (xA X) (xs X).heap H locs → lv_has ls (xn X) lv → W (xp X) (xl X) (xe X) (xR X) (xs X) (xm X) (xa X) (xb X) (xme X) (xc X) H locs 0 0 (xQ X) (F0 (xm X) pc ls st)
/-- what stands fast in a walk -/
def Fx (X : Cx) (cc : ByteArray) (own : String) (d : Nat) : Prop :=
  (xp X).tables.exec = Jvm.exec ∧ (xc X).code = cc ∧ (xc X).maxLocals = xn X ∧ (xs X).vm.findClass own = some (xm X).cls ∧ (∀ w ∈ TT, w.before (xa X) (xs X) = true) ∧ va_K (evD (xV X)) vwCl (tysV (xV X)) (xs X) ∧ (∀ q, (xs X).heap.size ≤ q → xA X q) ∧ (∀ a, evK (xV X) a < 16 → a < evN (xV X)) ∧ (∀ a, a < evN (xV X) → xA X (evA (xV X) a)) ∧ xR X = rm d ∧ (xme X).locks = false ∧ NW (xs X)
section
variable {X : Cx} {cc : ByteArray} {own : String} {d pc : Nat} {lv lv' : List (Nat × Value)} {st : List Value} {μ : Mem}
theorem so_sub (ks : List Nat) (hl : lv_pick lv ks = lv') (h : Gd X pc lv' st μ) : Gd X pc lv st μ := fun H locs ls hP hD hS hv => h H locs ls hP hD hS (lv_sub hv ks hl)
theorem so_iconst (hX : Fx X cc own d) {n : Int} {v : Int32} (dg : decode cc pc = .ok (.iconst n, 1)) (hv1 : Int32.ofInt n = v) (h : Gd X (pc + 1) lv (.int v :: st) μ) : Gd X pc lv (st) μ := fun H locs ls hP hD hS hv => lv_iconst hX.1 hX.2.1 dg hv1 (h H locs ls hP hD hS hv)
theorem so_bipush (hX : Fx X cc own d) {n : Int} {v : Int32} (dg : decode cc pc = .ok (.bipush n, 2)) (hv1 : (Int8.ofInt n).toInt32 = v) (h : Gd X (pc + 2) lv (.int v :: st) μ) : Gd X pc lv (st) μ := fun H locs ls hP hD hS hv => lv_bipush hX.1 hX.2.1 dg hv1 (h H locs ls hP hD hS hv)
theorem so_sipush (hX : Fx X cc own d) {n : Int} {v : Int32} (dg : decode cc pc = .ok (.sipush n, 3)) (hv1 : (Int16.ofInt n).toInt32 = v) (h : Gd X (pc + 3) lv (.int v :: st) μ) : Gd X pc lv (st) μ := fun H locs ls hP hD hS hv => lv_sipush hX.1 hX.2.1 dg hv1 (h H locs ls hP hD hS hv)
theorem so_lconst (hX : Fx X cc own d) {n : Fin 2} {v : Int64} (dg : decode cc pc = .ok (.lconst n, 1)) (hv1 : Int64.ofNat (n : Nat) = v) (h : Gd X (pc + 1) lv (.long v :: st) μ) : Gd X pc lv (st) μ := fun H locs ls hP hD hS hv => lv_lconst hX.1 hX.2.1 dg hv1 (h H locs ls hP hD hS hv)
theorem so_null (hX : Fx X cc own d)  (dg : decode cc pc = .ok (.aconst_null, 1))  (h : Gd X (pc + 1) lv (.null :: st) μ) : Gd X pc lv (st) μ := fun H locs ls hP hD hS hv => lv_null hX.1 hX.2.1 dg  (h H locs ls hP hD hS hv)
theorem so_iload_n (hX : Fx X cc own d) {k : Fin 4} {x : Int32} (dg : decode cc pc = .ok (.iload_n k, 1)) (q : Nat) (hq : lv[q]? = some ((k : Nat), .int x)) (h : Gd X (pc + 1) lv (.int x :: st) μ) : Gd X pc lv (st) μ := fun H locs ls hP hD hS hv => lv_iload_n hX.1 hX.2.1 dg rfl (lv_at hv q hq) (h H locs ls hP hD hS hv)
theorem so_iload (hX : Fx X cc own d) {i : Nat} {x : Int32} (dg : decode cc pc = .ok (.iload i, 2)) (q : Nat) (hq : lv[q]? = some (i, .int x)) (h : Gd X (pc + 2) lv (.int x :: st) μ) : Gd X pc lv (st) μ := fun H locs ls hP hD hS hv => lv_iload hX.1 hX.2.1 dg (lv_at hv q hq) (h H locs ls hP hD hS hv)
theorem so_istore (hX : Fx X cc own d) {i : Nat} {x : Int32} (dg : decode cc pc = .ok (.istore i, 2)) (lv2 : List (Nat × Value)) (hn : i < xn X) (hl : (i, Value.int x) :: lv.filter (fun q => !(q.1 == i) && !(q.1 + 1 == i && q.2.category == 2)) = lv2) (h : Gd X (pc + 2) lv2 st μ) : Gd X pc lv (.int x :: st) μ := fun H locs ls hP hD hS hv => lv_istore hX.1 hX.2.1 dg hv hn hl (fun ls2 hv2 => h H locs ls2 hP hD hS hv2)
theorem so_istore_n (hX : Fx X cc own d) {k : Fin 4} {x : Int32} (dg : decode cc pc = .ok (.istore_n k, 1)) (lv2 : List (Nat × Value)) (hn : (k : Nat) < xn X) (hl : ((k : Nat), Value.int x) :: lv.filter (fun q => !(q.1 == (k : Nat)) && !(q.1 + 1 == (k : Nat) && q.2.category == 2)) = lv2) (h : Gd X (pc + 1) lv2 st μ) : Gd X pc lv (.int x :: st) μ := fun H locs ls hP hD hS hv => lv_istore_n hX.1 hX.2.1 dg rfl hv hn hl (fun ls2 hv2 => h H locs ls2 hP hD hS hv2)
theorem so_lload_n (hX : Fx X cc own d) {k : Fin 4} {x : Int64} (dg : decode cc pc = .ok (.lload_n k, 1)) (q : Nat) (hq : lv[q]? = some ((k : Nat), .long x)) (h : Gd X (pc + 1) lv (.long x :: st) μ) : Gd X pc lv (st) μ := fun H locs ls hP hD hS hv => lv_lload_n hX.1 hX.2.1 dg rfl (lv_at hv q hq) (h H locs ls hP hD hS hv)
theorem so_lload (hX : Fx X cc own d) {i : Nat} {x : Int64} (dg : decode cc pc = .ok (.lload i, 2)) (q : Nat) (hq : lv[q]? = some (i, .long x)) (h : Gd X (pc + 2) lv (.long x :: st) μ) : Gd X pc lv (st) μ := fun H locs ls hP hD hS hv => lv_lload hX.1 hX.2.1 dg (lv_at hv q hq) (h H locs ls hP hD hS hv)
theorem so_lstore (hX : Fx X cc own d) {i : Nat} {x : Int64} (dg : decode cc pc = .ok (.lstore i, 2)) (lv2 : List (Nat × Value)) (hn : i + 1 < xn X) (hl : (i, Value.long x) :: lv.filter (fun q => !(q.1 == i) && (!(q.1 == i + 1) && !(q.1 + 1 == i && q.2.category == 2))) = lv2) (h : Gd X (pc + 2) lv2 st μ) : Gd X pc lv (.long x :: st) μ := fun H locs ls hP hD hS hv => lv_lstore hX.1 hX.2.1 dg hv hn hl (fun ls2 hv2 => h H locs ls2 hP hD hS hv2)
theorem so_lstore_n (hX : Fx X cc own d) {k : Fin 4} {x : Int64} (dg : decode cc pc = .ok (.lstore_n k, 1)) (lv2 : List (Nat × Value)) (hn : (k : Nat) + 1 < xn X) (hl : ((k : Nat), Value.long x) :: lv.filter (fun q => !(q.1 == (k : Nat)) && (!(q.1 == (k : Nat) + 1) && !(q.1 + 1 == (k : Nat) && q.2.category == 2))) = lv2) (h : Gd X (pc + 1) lv2 st μ) : Gd X pc lv (.long x :: st) μ := fun H locs ls hP hD hS hv => lv_lstore_n hX.1 hX.2.1 dg rfl hv hn hl (fun ls2 hv2 => h H locs ls2 hP hD hS hv2)
theorem so_aload_n (hX : Fx X cc own d) {k : Fin 4} {x : Nat} (dg : decode cc pc = .ok (.aload_n k, 1)) (q : Nat) (hq : lv[q]? = some ((k : Nat), .ref x)) (h : Gd X (pc + 1) lv (.ref x :: st) μ) : Gd X pc lv (st) μ := fun H locs ls hP hD hS hv => lv_aload_n hX.1 hX.2.1 dg rfl (lv_at hv q hq) (h H locs ls hP hD hS hv)
theorem so_aload (hX : Fx X cc own d) {i : Nat} {x : Nat} (dg : decode cc pc = .ok (.aload i, 2)) (q : Nat) (hq : lv[q]? = some (i, .ref x)) (h : Gd X (pc + 2) lv (.ref x :: st) μ) : Gd X pc lv (st) μ := fun H locs ls hP hD hS hv => lv_aload hX.1 hX.2.1 dg (lv_at hv q hq) (h H locs ls hP hD hS hv)
theorem so_astore (hX : Fx X cc own d) {i : Nat} {x : Nat} (dg : decode cc pc = .ok (.astore i, 2)) (lv2 : List (Nat × Value)) (hn : i < xn X) (hl : (i, Value.ref x) :: lv.filter (fun q => !(q.1 == i) && !(q.1 + 1 == i && q.2.category == 2)) = lv2) (h : Gd X (pc + 2) lv2 st μ) : Gd X pc lv (.ref x :: st) μ := fun H locs ls hP hD hS hv => lv_astore hX.1 hX.2.1 dg hv hn hl (fun ls2 hv2 => h H locs ls2 hP hD hS hv2)
theorem so_astore_n (hX : Fx X cc own d) {k : Fin 4} {x : Nat} (dg : decode cc pc = .ok (.astore_n k, 1)) (lv2 : List (Nat × Value)) (hn : (k : Nat) < xn X) (hl : ((k : Nat), Value.ref x) :: lv.filter (fun q => !(q.1 == (k : Nat)) && !(q.1 + 1 == (k : Nat) && q.2.category == 2)) = lv2) (h : Gd X (pc + 1) lv2 st μ) : Gd X pc lv (.ref x :: st) μ := fun H locs ls hP hD hS hv => lv_astore_n hX.1 hX.2.1 dg rfl hv hn hl (fun ls2 hv2 => h H locs ls2 hP hD hS hv2)
theorem so_aload_nN (hX : Fx X cc own d) {k : Fin 4} (dg : decode cc pc = .ok (.aload_n k, 1)) (q : Nat) (hq : lv[q]? = some ((k : Nat), .null)) (h : Gd X (pc + 1) lv (.null :: st) μ) : Gd X pc lv (st) μ := fun H locs ls hP hD hS hv => lv_aload_nN hX.1 hX.2.1 dg rfl (lv_at hv q hq) (h H locs ls hP hD hS hv)
theorem so_aloadN (hX : Fx X cc own d) {i : Nat} (dg : decode cc pc = .ok (.aload i, 2)) (q : Nat) (hq : lv[q]? = some (i, .null)) (h : Gd X (pc + 2) lv (.null :: st) μ) : Gd X pc lv (st) μ := fun H locs ls hP hD hS hv => lv_aloadN hX.1 hX.2.1 dg (lv_at hv q hq) (h H locs ls hP hD hS hv)
theorem so_astoreN (hX : Fx X cc own d) {i : Nat} (dg : decode cc pc = .ok (.astore i, 2)) (lv2 : List (Nat × Value)) (hn : i < xn X) (hl : (i, Value.null) :: lv.filter (fun q => !(q.1 == i) && !(q.1 + 1 == i && q.2.category == 2)) = lv2) (h : Gd X (pc + 2) lv2 st μ) : Gd X pc lv (.null :: st) μ := fun H locs ls hP hD hS hv => lv_astoreN hX.1 hX.2.1 dg hv hn hl (fun ls2 hv2 => h H locs ls2 hP hD hS hv2)
theorem so_astore_nN (hX : Fx X cc own d) {k : Fin 4} (dg : decode cc pc = .ok (.astore_n k, 1)) (lv2 : List (Nat × Value)) (hn : (k : Nat) < xn X) (hl : ((k : Nat), Value.null) :: lv.filter (fun q => !(q.1 == (k : Nat)) && !(q.1 + 1 == (k : Nat) && q.2.category == 2)) = lv2) (h : Gd X (pc + 1) lv2 st μ) : Gd X pc lv (.null :: st) μ := fun H locs ls hP hD hS hv => lv_astore_nN hX.1 hX.2.1 dg rfl hv hn hl (fun ls2 hv2 => h H locs ls2 hP hD hS hv2)
theorem so_iinc (hX : Fx X cc own d) {i : Nat} {n : Int} {x : Int32} (dg : decode cc pc = .ok (.iinc i n, 3)) (q : Nat) (v : Int32) (lv2 : List (Nat × Value)) (hq : lv[q]? = some (i, .int x)) (hv1 : Int32.ofInt n = v) (hn : i < xn X) (hl : (i, Value.int (x + v)) :: lv.filter (fun q => !(q.1 == i) && !(q.1 + 1 == i && q.2.category == 2)) = lv2) (h : Gd X (pc + 3) lv2 st μ) : Gd X pc lv st μ := fun H locs ls hP hD hS hv => lv_iinc hX.1 hX.2.1 dg hv hq (by rw [hv1]) hn hl (fun ls2 hv2 => h H locs ls2 hP hD hS hv2)
theorem so_iadd (hX : Fx X cc own d) {x y : Int32} (dg : decode cc pc = .ok (.iadd, 1))  (h : Gd X (pc + 1) lv (.int (x + y) :: st) μ) : Gd X pc lv (.int y :: .int x :: st) μ := fun H locs ls hP hD hS hv => lv_iadd hX.1 hX.2.1 dg  (h H locs ls hP hD hS hv)
theorem so_isub (hX : Fx X cc own d) {x y : Int32} (dg : decode cc pc = .ok (.isub, 1))  (h : Gd X (pc + 1) lv (.int (x - y) :: st) μ) : Gd X pc lv (.int y :: .int x :: st) μ := fun H locs ls hP hD hS hv => lv_isub hX.1 hX.2.1 dg  (h H locs ls hP hD hS hv)
theorem so_imul (hX : Fx X cc own d) {x y : Int32} (dg : decode cc pc = .ok (.imul, 1))  (h : Gd X (pc + 1) lv (.int (x * y) :: st) μ) : Gd X pc lv (.int y :: .int x :: st) μ := fun H locs ls hP hD hS hv => lv_imul hX.1 hX.2.1 dg  (h H locs ls hP hD hS hv)
theorem so_iand (hX : Fx X cc own d) {x y : Int32} (dg : decode cc pc = .ok (.iand, 1))  (h : Gd X (pc + 1) lv (.int (x &&& y) :: st) μ) : Gd X pc lv (.int y :: .int x :: st) μ := fun H locs ls hP hD hS hv => lv_iand hX.1 hX.2.1 dg  (h H locs ls hP hD hS hv)
theorem so_ior (hX : Fx X cc own d) {x y : Int32} (dg : decode cc pc = .ok (.ior, 1))  (h : Gd X (pc + 1) lv (.int (x ||| y) :: st) μ) : Gd X pc lv (.int y :: .int x :: st) μ := fun H locs ls hP hD hS hv => lv_ior hX.1 hX.2.1 dg  (h H locs ls hP hD hS hv)
theorem so_ixor (hX : Fx X cc own d) {x y : Int32} (dg : decode cc pc = .ok (.ixor, 1))  (h : Gd X (pc + 1) lv (.int (x ^^^ y) :: st) μ) : Gd X pc lv (.int y :: .int x :: st) μ := fun H locs ls hP hD hS hv => lv_ixor hX.1 hX.2.1 dg  (h H locs ls hP hD hS hv)
theorem so_ishl (hX : Fx X cc own d) {x y : Int32} (dg : decode cc pc = .ok (.ishl, 1))  (h : Gd X (pc + 1) lv (.int (x <<< (y &&& 31)) :: st) μ) : Gd X pc lv (.int y :: .int x :: st) μ := fun H locs ls hP hD hS hv => lv_ishl hX.1 hX.2.1 dg  (h H locs ls hP hD hS hv)
theorem so_ishr (hX : Fx X cc own d) {x y : Int32} (dg : decode cc pc = .ok (.ishr, 1))  (h : Gd X (pc + 1) lv (.int (x >>> (y &&& 31)) :: st) μ) : Gd X pc lv (.int y :: .int x :: st) μ := fun H locs ls hP hD hS hv => lv_ishr hX.1 hX.2.1 dg  (h H locs ls hP hD hS hv)
theorem so_idiv (hX : Fx X cc own d) {x y : Int32} (dg : decode cc pc = .ok (.idiv, 1)) (hne : ¬ y = 0) (h : Gd X (pc + 1) lv (.int (x / y) :: st) μ) : Gd X pc lv (.int y :: .int x :: st) μ := fun H locs ls hP hD hS hv => lv_idiv hX.1 hX.2.1 dg hne (h H locs ls hP hD hS hv)
theorem so_irem (hX : Fx X cc own d) {x y : Int32} (dg : decode cc pc = .ok (.irem, 1)) (hne : ¬ y = 0) (h : Gd X (pc + 1) lv (.int (x - x / y * y) :: st) μ) : Gd X pc lv (.int y :: .int x :: st) μ := fun H locs ls hP hD hS hv => lv_irem hX.1 hX.2.1 dg hne (h H locs ls hP hD hS hv)
theorem so_ineg (hX : Fx X cc own d) {x : Int32} (dg : decode cc pc = .ok (.ineg, 1))  (h : Gd X (pc + 1) lv (.int (0 - x) :: st) μ) : Gd X pc lv (.int x :: st) μ := fun H locs ls hP hD hS hv => lv_ineg hX.1 hX.2.1 dg  (h H locs ls hP hD hS hv)
theorem so_iushr (hX : Fx X cc own d) {x y : Int32} (dg : decode cc pc = .ok (.iushr, 1))  (h : Gd X (pc + 1) lv (.int (iUsh x y) :: st) μ) : Gd X pc lv (.int y :: .int x :: st) μ := fun H locs ls hP hD hS hv => lv_iushr hX.1 hX.2.1 dg rfl (h H locs ls hP hD hS hv)
theorem so_ladd (hX : Fx X cc own d) {x y : Int64} (dg : decode cc pc = .ok (.ladd, 1))  (h : Gd X (pc + 1) lv (.long (x + y) :: st) μ) : Gd X pc lv (.long y :: .long x :: st) μ := fun H locs ls hP hD hS hv => lv_ladd hX.1 hX.2.1 dg  (h H locs ls hP hD hS hv)
theorem so_lsub (hX : Fx X cc own d) {x y : Int64} (dg : decode cc pc = .ok (.lsub, 1))  (h : Gd X (pc + 1) lv (.long (x - y) :: st) μ) : Gd X pc lv (.long y :: .long x :: st) μ := fun H locs ls hP hD hS hv => lv_lsub hX.1 hX.2.1 dg  (h H locs ls hP hD hS hv)
theorem so_lmul (hX : Fx X cc own d) {x y : Int64} (dg : decode cc pc = .ok (.lmul, 1))  (h : Gd X (pc + 1) lv (.long (x * y) :: st) μ) : Gd X pc lv (.long y :: .long x :: st) μ := fun H locs ls hP hD hS hv => lv_lmul hX.1 hX.2.1 dg  (h H locs ls hP hD hS hv)
theorem so_land (hX : Fx X cc own d) {x y : Int64} (dg : decode cc pc = .ok (.land, 1))  (h : Gd X (pc + 1) lv (.long (x &&& y) :: st) μ) : Gd X pc lv (.long y :: .long x :: st) μ := fun H locs ls hP hD hS hv => lv_land hX.1 hX.2.1 dg  (h H locs ls hP hD hS hv)
theorem so_lor (hX : Fx X cc own d) {x y : Int64} (dg : decode cc pc = .ok (.lor, 1))  (h : Gd X (pc + 1) lv (.long (x ||| y) :: st) μ) : Gd X pc lv (.long y :: .long x :: st) μ := fun H locs ls hP hD hS hv => lv_lor hX.1 hX.2.1 dg  (h H locs ls hP hD hS hv)
theorem so_lxor (hX : Fx X cc own d) {x y : Int64} (dg : decode cc pc = .ok (.lxor, 1))  (h : Gd X (pc + 1) lv (.long (x ^^^ y) :: st) μ) : Gd X pc lv (.long y :: .long x :: st) μ := fun H locs ls hP hD hS hv => lv_lxor hX.1 hX.2.1 dg  (h H locs ls hP hD hS hv)
theorem so_lshl (hX : Fx X cc own d) {x : Int64} {y : Int32} (dg : decode cc pc = .ok (.lshl, 1))  (h : Gd X (pc + 1) lv (.long (x <<< (y.toInt64 &&& 63)) :: st) μ) : Gd X pc lv (.int y :: .long x :: st) μ := fun H locs ls hP hD hS hv => lv_lshl hX.1 hX.2.1 dg rfl (h H locs ls hP hD hS hv)
theorem so_i2l (hX : Fx X cc own d) {x : Int32} (dg : decode cc pc = .ok (.i2l, 1))  (h : Gd X (pc + 1) lv (.long x.toInt64 :: st) μ) : Gd X pc lv (.int x :: st) μ := fun H locs ls hP hD hS hv => lv_i2l hX.1 hX.2.1 dg rfl (h H locs ls hP hD hS hv)
theorem so_l2i (hX : Fx X cc own d) {x : Int64} (dg : decode cc pc = .ok (.l2i, 1))  (h : Gd X (pc + 1) lv (.int x.toInt32 :: st) μ) : Gd X pc lv (.long x :: st) μ := fun H locs ls hP hD hS hv => lv_l2i hX.1 hX.2.1 dg rfl (h H locs ls hP hD hS hv)
theorem so_lcmp (hX : Fx X cc own d) {x y : Int64} (dg : decode cc pc = .ok (.lcmp, 1))  (h : Gd X (pc + 1) lv (.int (lg_cmp x y) :: st) μ) : Gd X pc lv (.long y :: .long x :: st) μ := fun H locs ls hP hD hS hv => W.lcmp hX.1 hX.2.1 dg  (h H locs ls hP hD hS hv)
theorem so_dup (hX : Fx X cc own d) {va : Value} (dg : decode cc pc = .ok (.dup, 1)) (hc : va.category = 1) (h : Gd X (pc + 1) lv (va :: va :: st) μ) : Gd X pc lv (va :: st) μ := fun H locs ls hP hD hS hv => lv_dup hX.1 hX.2.1 dg hc (h H locs ls hP hD hS hv)
theorem so_pop (hX : Fx X cc own d) {va : Value} (dg : decode cc pc = .ok (.pop, 1)) (hc : va.category = 1) (h : Gd X (pc + 1) lv (st) μ) : Gd X pc lv (va :: st) μ := fun H locs ls hP hD hS hv => lv_pop hX.1 hX.2.1 dg hc (h H locs ls hP hD hS hv)
theorem so_dup2 (hX : Fx X cc own d) {va vb : Value} (dg : decode cc pc = .ok (.dup2, 1)) (hc : va.category = 1) (hc2 : vb.category = 1) (h : Gd X (pc + 1) lv (va :: vb :: va :: vb :: st) μ) : Gd X pc lv (va :: vb :: st) μ := fun H locs ls hP hD hS hv => lv_dup2_11 hX.1 hX.2.1 dg hc hc2 (h H locs ls hP hD hS hv)
theorem so_if_eq (hX : Fx X cc own d) {x : Int32} {off : Int} (tgt : Nat) (dg : decode cc pc = .ok (.ifCond .eq off, 3)) (ht : (pc : Int) + off = (tgt : Int)) (kt : x = 0 → Gd X tgt lv st μ) (kf : ¬ (x = 0) → Gd X (pc + 3) lv st μ) : Gd X pc lv (.int x :: st) μ := fun H locs ls hP hD hS hv => lv_if_eq hX.1 hX.2.1 dg ht (fun z => kt z H locs ls hP hD hS hv) (fun z => kf z H locs ls hP hD hS hv)
theorem so_icmp_eq (hX : Fx X cc own d) {x y : Int32} {off : Int} (tgt : Nat) (dg : decode cc pc = .ok (.if_icmp .eq off, 3)) (ht : (pc : Int) + off = (tgt : Int)) (kt : x = y → Gd X tgt lv st μ) (kf : ¬ (x = y) → Gd X (pc + 3) lv st μ) : Gd X pc lv (.int y :: .int x :: st) μ := fun H locs ls hP hD hS hv => lv_icmp_eq hX.1 hX.2.1 dg ht (fun z => kt z H locs ls hP hD hS hv) (fun z => kf z H locs ls hP hD hS hv)
theorem so_if_ne (hX : Fx X cc own d) {x : Int32} {off : Int} (tgt : Nat) (dg : decode cc pc = .ok (.ifCond .ne off, 3)) (ht : (pc : Int) + off = (tgt : Int)) (kt : ¬ x = 0 → Gd X tgt lv st μ) (kf : x = 0 → Gd X (pc + 3) lv st μ) : Gd X pc lv (.int x :: st) μ := fun H locs ls hP hD hS hv => lv_if_ne hX.1 hX.2.1 dg ht (fun z => kt z H locs ls hP hD hS hv) (fun z => kf z H locs ls hP hD hS hv)
theorem so_icmp_ne (hX : Fx X cc own d) {x y : Int32} {off : Int} (tgt : Nat) (dg : decode cc pc = .ok (.if_icmp .ne off, 3)) (ht : (pc : Int) + off = (tgt : Int)) (kt : ¬ x = y → Gd X tgt lv st μ) (kf : x = y → Gd X (pc + 3) lv st μ) : Gd X pc lv (.int y :: .int x :: st) μ := fun H locs ls hP hD hS hv => lv_icmp_ne hX.1 hX.2.1 dg ht (fun z => kt z H locs ls hP hD hS hv) (fun z => kf z H locs ls hP hD hS hv)
theorem so_if_lt (hX : Fx X cc own d) {x : Int32} {off : Int} (tgt : Nat) (dg : decode cc pc = .ok (.ifCond .lt off, 3)) (ht : (pc : Int) + off = (tgt : Int)) (kt : x < 0 → Gd X tgt lv st μ) (kf : ¬ (x < 0) → Gd X (pc + 3) lv st μ) : Gd X pc lv (.int x :: st) μ := fun H locs ls hP hD hS hv => lv_if_lt hX.1 hX.2.1 dg ht (fun z => kt z H locs ls hP hD hS hv) (fun z => kf z H locs ls hP hD hS hv)
theorem so_icmp_lt (hX : Fx X cc own d) {x y : Int32} {off : Int} (tgt : Nat) (dg : decode cc pc = .ok (.if_icmp .lt off, 3)) (ht : (pc : Int) + off = (tgt : Int)) (kt : x < y → Gd X tgt lv st μ) (kf : ¬ (x < y) → Gd X (pc + 3) lv st μ) : Gd X pc lv (.int y :: .int x :: st) μ := fun H locs ls hP hD hS hv => lv_icmp_lt hX.1 hX.2.1 dg ht (fun z => kt z H locs ls hP hD hS hv) (fun z => kf z H locs ls hP hD hS hv)
theorem so_if_ge (hX : Fx X cc own d) {x : Int32} {off : Int} (tgt : Nat) (dg : decode cc pc = .ok (.ifCond .ge off, 3)) (ht : (pc : Int) + off = (tgt : Int)) (kt : 0 ≤ x → Gd X tgt lv st μ) (kf : ¬ (0 ≤ x) → Gd X (pc + 3) lv st μ) : Gd X pc lv (.int x :: st) μ := fun H locs ls hP hD hS hv => lv_if_ge hX.1 hX.2.1 dg ht (fun z => kt z H locs ls hP hD hS hv) (fun z => kf z H locs ls hP hD hS hv)
theorem so_icmp_ge (hX : Fx X cc own d) {x y : Int32} {off : Int} (tgt : Nat) (dg : decode cc pc = .ok (.if_icmp .ge off, 3)) (ht : (pc : Int) + off = (tgt : Int)) (kt : y ≤ x → Gd X tgt lv st μ) (kf : ¬ (y ≤ x) → Gd X (pc + 3) lv st μ) : Gd X pc lv (.int y :: .int x :: st) μ := fun H locs ls hP hD hS hv => lv_icmp_ge hX.1 hX.2.1 dg ht (fun z => kt z H locs ls hP hD hS hv) (fun z => kf z H locs ls hP hD hS hv)
theorem so_if_gt (hX : Fx X cc own d) {x : Int32} {off : Int} (tgt : Nat) (dg : decode cc pc = .ok (.ifCond .gt off, 3)) (ht : (pc : Int) + off = (tgt : Int)) (kt : 0 < x → Gd X tgt lv st μ) (kf : ¬ (0 < x) → Gd X (pc + 3) lv st μ) : Gd X pc lv (.int x :: st) μ := fun H locs ls hP hD hS hv => lv_if_gt hX.1 hX.2.1 dg ht (fun z => kt z H locs ls hP hD hS hv) (fun z => kf z H locs ls hP hD hS hv)
theorem so_icmp_gt (hX : Fx X cc own d) {x y : Int32} {off : Int} (tgt : Nat) (dg : decode cc pc = .ok (.if_icmp .gt off, 3)) (ht : (pc : Int) + off = (tgt : Int)) (kt : y < x → Gd X tgt lv st μ) (kf : ¬ (y < x) → Gd X (pc + 3) lv st μ) : Gd X pc lv (.int y :: .int x :: st) μ := fun H locs ls hP hD hS hv => lv_icmp_gt hX.1 hX.2.1 dg ht (fun z => kt z H locs ls hP hD hS hv) (fun z => kf z H locs ls hP hD hS hv)
theorem so_if_le (hX : Fx X cc own d) {x : Int32} {off : Int} (tgt : Nat) (dg : decode cc pc = .ok (.ifCond .le off, 3)) (ht : (pc : Int) + off = (tgt : Int)) (kt : x ≤ 0 → Gd X tgt lv st μ) (kf : ¬ (x ≤ 0) → Gd X (pc + 3) lv st μ) : Gd X pc lv (.int x :: st) μ := fun H locs ls hP hD hS hv => lv_if_le hX.1 hX.2.1 dg ht (fun z => kt z H locs ls hP hD hS hv) (fun z => kf z H locs ls hP hD hS hv)
theorem so_icmp_le (hX : Fx X cc own d) {x y : Int32} {off : Int} (tgt : Nat) (dg : decode cc pc = .ok (.if_icmp .le off, 3)) (ht : (pc : Int) + off = (tgt : Int)) (kt : x ≤ y → Gd X tgt lv st μ) (kf : ¬ (x ≤ y) → Gd X (pc + 3) lv st μ) : Gd X pc lv (.int y :: .int x :: st) μ := fun H locs ls hP hD hS hv => lv_icmp_le hX.1 hX.2.1 dg ht (fun z => kt z H locs ls hP hD hS hv) (fun z => kf z H locs ls hP hD hS hv)
theorem so_goto (hX : Fx X cc own d) {off : Int} (tgt : Nat) (dg : decode cc pc = .ok (.goto off, 3)) (ht : (pc : Int) + off = (tgt : Int)) (h : Gd X tgt lv st μ) : Gd X pc lv st μ := fun H locs ls hP hD hS hv => lv_goto hX.1 hX.2.1 dg ht (h H locs ls hP hD hS hv)
theorem so_ifnull (hX : Fx X cc own d) {x : Nat} {off : Int} (dg : decode cc pc = .ok (.ifnull off, 3)) (h : Gd X (pc + 3) lv st μ) : Gd X pc lv (.ref x :: st) μ := fun H locs ls hP hD hS hv => lv_ifnull hX.1 hX.2.1 dg (h H locs ls hP hD hS hv)
theorem so_ifnullN (hX : Fx X cc own d) {off : Int} (tgt : Nat) (dg : decode cc pc = .ok (.ifnull off, 3)) (ht : (pc : Int) + off = (tgt : Int)) (h : Gd X tgt lv st μ) : Gd X pc lv (.null :: st) μ := fun H locs ls hP hD hS hv => lv_ifnullN hX.1 hX.2.1 dg ht (h H locs ls hP hD hS hv)
theorem so_ifnonnull (hX : Fx X cc own d) {x : Nat} {off : Int} (tgt : Nat) (dg : decode cc pc = .ok (.ifnonnull off, 3)) (ht : (pc : Int) + off = (tgt : Int)) (h : Gd X tgt lv st μ) : Gd X pc lv (.ref x :: st) μ := fun H locs ls hP hD hS hv => lv_ifnonnull hX.1 hX.2.1 dg ht (h H locs ls hP hD hS hv)
theorem so_ifnonnullN (hX : Fx X cc own d) {off : Int} (dg : decode cc pc = .ok (.ifnonnull off, 3)) (h : Gd X (pc + 3) lv st μ) : Gd X pc lv (.null :: st) μ := fun H locs ls hP hD hS hv => lv_ifnonnullN hX.1 hX.2.1 dg (h H locs ls hP hD hS hv)
theorem so_tabIn (hX : Fx X cc own d) {dflt lo hi : Int} {offs : Array Int} {len : Nat} {x : Int32} {off : Int} (tgt : Nat) (dg : decode cc pc = .ok (.tableswitch dflt lo hi offs, len)) (h1 : ¬ x.toInt < lo) (h2 : ¬ hi < x.toInt) (ho : offs[(x.toInt - lo).toNat]? = some off) (ht : (pc : Int) + off = (tgt : Int)) (h : Gd X tgt lv st μ) : Gd X pc lv (.int x :: st) μ := fun H locs ls hP hD hS hv => lv_tableIn hX.1 hX.2.1 dg h1 h2 ho ht (h H locs ls hP hD hS hv)
theorem so_tabOut (hX : Fx X cc own d) {dflt lo hi : Int} {offs : Array Int} {len : Nat} {x : Int32} (tgt : Nat) (dg : decode cc pc = .ok (.tableswitch dflt lo hi offs, len)) (h1 : x.toInt < lo ∨ hi < x.toInt) (ht : (pc : Int) + dflt = (tgt : Int)) (h : Gd X tgt lv st μ) : Gd X pc lv (.int x :: st) μ := fun H locs ls hP hD hS hv => lv_tableOut hX.1 hX.2.1 dg h1 ht (h H locs ls hP hD hS hv)
/-- field j of class ci, by the pool's place index in own's file -/
def Fl (own : String) (index ci j : Nat) : Prop := ∃ (C : String) (T : u_T) (N : Nat), vwCl[ci]? = some (C, T, N) ∧ j < N ∧ (∀ w ∈ u_ws C T N, w ∈ TT) ∧ Cond.fieldLink own index (T j).1 (T j).2.1 (T j).2.2.1 ∈ TT
/-- field j of class ci may be written anywhere: not final, an int or a boolean -/
def Fw (ci j : Nat) (ty : FieldType) : Prop := ∃ (C : String) (T : u_T) (N : Nat) (ty0 : Nat → FieldType), vwCl[ci]? = some (C, T, N) ∧ (∀ k, k < N → parseFieldDescriptor (T k).2.2.1 = some (ty0 k)) ∧ (∀ a, a < N → ∀ b, b < N → a ≠ b → (T a).2.1 ≠ (T b).2.1) ∧ (T j).2.2.2 = false ∧ parseFieldDescriptor (T j).2.2.1 = some ty
theorem so_getI (hX : Fx X cc own d) {a index ci j : Nat} (dg : decode cc pc = .ok (.getfield index, 3)) (hf : Fl own index ci j) (hk : evK (xV X) a = ci) (hci : ci < 11) (hr : rb ci j = false) (hj : j < nf ci) (h : Gd X (pc + 3) lv (.int (μ.1 a j) :: st) μ) : Gd X pc lv (.ref (evA (xV X) a) :: st) μ := by
  intro H locs ls hP hD hS hv
  obtain ⟨C, T, N, h1, h2, h3, h4⟩ := hf
  have ha : a < evN (xV X) := hX.2.2.2.2.2.2.2.1 a (by omega)
  refine va_get (D := evD (xV X)) (ci := ci) (v := .int (μ.1 a j)) (C := C) (T := T) (N := N) hX.1 hX.2.1 hX.2.2.2.2.1 h3 hX.2.2.2.1 hX.2.2.2.2.2.1 hP a ((wl_get ha).trans (by rw [enc_obj hk hci])) h1 j h2 (hX.2.2.2.2.1 _ h4) (fun _ h9 => h9) ?_ dg (h H locs ls hP hD hS hv)
  rw [List.getElem?_map, List.getElem?_range hj]
  simp only [Option.map_some, encF, hk, hr]; rfl
theorem so_getR (hX : Fx X cc own d) {a index ci j : Nat} (b : Nat) (dg : decode cc pc = .ok (.getfield index, 3)) (hf : Fl own index ci j) (hk : evK (xV X) a = ci) (hci : ci < 11) (hr : rb ci j = true) (hj : j < nf ci) (hb : evR (xV X) a j = b) (h : Gd X (pc + 3) lv (.ref (evA (xV X) b) :: st) μ) : Gd X pc lv (.ref (evA (xV X) a) :: st) μ := by
  intro H locs ls hP hD hS hv
  obtain ⟨C, T, N, h1, h2, h3, h4⟩ := hf
  have ha : a < evN (xV X) := hX.2.2.2.2.2.2.2.1 a (by omega)
  refine va_get (D := evD (xV X)) (ci := ci) (v := .ref (evA (xV X) b)) (C := C) (T := T) (N := N) hX.1 hX.2.1 hX.2.2.2.2.1 h3 hX.2.2.2.1 hX.2.2.2.2.2.1 hP a ((wl_get ha).trans (by rw [enc_obj hk hci])) h1 j h2 (hX.2.2.2.2.1 _ h4) (fun _ h9 => h9) ?_ dg (h H locs ls hP hD hS hv)
  rw [List.getElem?_map, List.getElem?_range hj]
  simp only [Option.map_some, encF, hk, hr, hb]; rfl
theorem so_put (hX : Fx X cc own d) {a index ci j : Nat} {x : Int32} {ty : FieldType} (dg : decode cc pc = .ok (.putfield index, 3)) (hf : Fl own index ci j) (hw : Fw ci j ty) (hk : evK (xV X) a = ci) (hci : ci < 11) (hr : rb ci j = false) (hj : j < nf ci) (hn1 : narrow ty (.int x) = .int x) (hn2 : fits ty (.int x) = true) (h : Gd X (pc + 3) lv st (sI μ a j x)) : Gd X pc lv (.int x :: .ref (evA (xV X) a) :: st) μ := by
  intro H locs ls hP hD hS hv
  obtain ⟨C, T, N, h1, h2, h3, h4⟩ := hf
  obtain ⟨C2, T2, N2, ty0, g1, g2, g3, g4, g5⟩ := hw
  rw [h1] at g1; cases g1
  have ha : a < evN (xV X) := hX.2.2.2.2.2.2.2.1 a (by omega)
  refine va_put (D := evD (xV X)) (ci := ci) (v := .int x) (ty := ty) (C := C) (T := T) (N := N) hX.1 hX.2.1 hX.2.2.2.2.1 h3 ty0 g2 g3 hX.2.2.2.1 hX.2.2.2.2.2.1 hP hD hS a ((wl_get ha).trans (by rw [enc_obj hk hci])) h1 j h2 (hX.2.2.2.2.1 _ h4) (fun _ h9 => h9) g4 g5 hn1 hn2 (by simpa using hj) dg (fun H1 locs1 hP1 hD1 hS1 => ?_)
  rw [wl_set (μ2 := sI μ a j x) ha (enc_sI_obj hk hci hr) (fun b hb => enc_sI_ne hb)] at hP1 hD1
  exact h H1 locs1 ls hP1 hD1 hS1 hv
theorem so_iald (hX : Fx X cc own d) {a n : Nat} {i v : Int32} (dg : decode cc pc = .ok (.iaload, 1)) (hk : evK (xV X) a = 11) (hn : evL (xV X) a = n) (hr : rI μ n a i = some v) (h : Gd X (pc + 1) lv (.int v :: st) μ) : Gd X pc lv (.int i :: .ref (evA (xV X) a) :: st) μ := by
  intro H locs ls hP hD hS hv
  have ha : a < evN (xV X) := hX.2.2.2.2.2.2.2.1 a (by omega)
  unfold rI at hr
  by_cases hi : inb i n = true
  · rw [if_pos hi] at hr; cases hr
    exact va_iald hX.1 hX.2.1 hX.2.2.2.2.2.1 hP a 0 ((wl_get ha).trans (by rw [enc_ai hk hn])) rfl (inb_in hi) dg (h H locs ls hP hD hS hv)
  · rw [if_neg hi] at hr; cases hr
theorem so_lald (hX : Fx X cc own d) {a n : Nat} {i : Int32} {v : Int64} (dg : decode cc pc = .ok (.laload, 1)) (hk : evK (xV X) a = 12) (hn : evL (xV X) a = n) (hr : rJ μ n a i = some v) (h : Gd X (pc + 1) lv (.long v :: st) μ) : Gd X pc lv (.int i :: .ref (evA (xV X) a) :: st) μ := by
  intro H locs ls hP hD hS hv
  have ha : a < evN (xV X) := hX.2.2.2.2.2.2.2.1 a (by omega)
  unfold rJ at hr
  by_cases hi : inb i n = true
  · rw [if_pos hi] at hr; cases hr
    exact va_lald hX.1 hX.2.1 hX.2.2.2.2.2.1 hP a 1 ((wl_get ha).trans (by rw [enc_aj hk hn])) rfl (inb_in hi) dg (h H locs ls hP hD hS hv)
  · rw [if_neg hi] at hr; cases hr
theorem so_iast (hX : Fx X cc own d) {a n : Nat} {i x : Int32} {μ2 : Mem} (dg : decode cc pc = .ok (.iastore, 1)) (hk : evK (xV X) a = 11) (hn : evL (xV X) a = n) (hr : wI μ n a i x = some μ2) (h : Gd X (pc + 1) lv st μ2) : Gd X pc lv (.int x :: .int i :: .ref (evA (xV X) a) :: st) μ := by
  intro H locs ls hP hD hS hv
  have ha : a < evN (xV X) := hX.2.2.2.2.2.2.2.1 a (by omega)
  unfold wI at hr
  by_cases hi : inb i n = true
  · rw [if_pos hi] at hr; cases hr
    refine va_iast hX.1 hX.2.1 hX.2.2.2.2.2.1 hP hD hS a 0 ((wl_get ha).trans (by rw [enc_ai hk hn])) rfl (inb_in hi) dg (fun H1 locs1 hP1 hD1 hS1 => ?_)
    rw [wl_set (μ2 := sI μ a i.toNatClampNeg x) ha (enc_sI_ai hk hn) (fun b hb => enc_sI_ne hb)] at hP1 hD1
    exact h H1 locs1 ls hP1 hD1 hS1 hv
  · rw [if_neg hi] at hr; cases hr
theorem so_last (hX : Fx X cc own d) {a n : Nat} {i : Int32} {x : Int64} {μ2 : Mem} (dg : decode cc pc = .ok (.lastore, 1)) (hk : evK (xV X) a = 12) (hn : evL (xV X) a = n) (hr : wJ μ n a i x = some μ2) (h : Gd X (pc + 1) lv st μ2) : Gd X pc lv (.long x :: .int i :: .ref (evA (xV X) a) :: st) μ := by
  intro H locs ls hP hD hS hv
  have ha : a < evN (xV X) := hX.2.2.2.2.2.2.2.1 a (by omega)
  unfold wJ at hr
  by_cases hi : inb i n = true
  · rw [if_pos hi] at hr; cases hr
    refine va_last hX.1 hX.2.1 hX.2.2.2.2.2.1 hP hD hS a 1 ((wl_get ha).trans (by rw [enc_aj hk hn])) rfl (inb_in hi) dg (fun H1 locs1 hP1 hD1 hS1 => ?_)
    rw [wl_set (μ2 := sJ μ a i.toNatClampNeg x) ha (enc_sJ_aj hk hn) (fun b hb => enc_sJ_ne hb)] at hP1 hD1
    exact h H1 locs1 ls hP1 hD1 hS1 hv
  · rw [if_neg hi] at hr; cases hr
theorem so_aald (hX : Fx X cc own d) {a n k t0 j b : Nat} {C : String} {i : Int32} (dg : decode cc pc = .ok (.aaload, 1)) (hk : evK (xV X) a = k) (hk1 : 12 < k) (hk2 : k < 16) (hn : evL (xV X) a = n) (ht : (tysV (xV X))[t0]? = some (evC (xV X) k, .object C)) (hr : rR n i = some j) (hb : evR (xV X) a j = b) (h : Gd X (pc + 1) lv (.ref (evA (xV X) b) :: st) μ) : Gd X pc lv (.int i :: .ref (evA (xV X) a) :: st) μ := by
  intro H locs ls hP hD hS hv
  have ha : a < evN (xV X) := hX.2.2.2.2.2.2.2.1 a (by omega)
  unfold rR at hr
  by_cases hi : inb i n = true
  · rw [if_pos hi] at hr; cases hr; subst hb
    exact va_aldq (f := fun i => some (evA (xV X) (evR (xV X) a i))) hX.1 hX.2.1 hX.2.2.2.2.2.1 hP a t0 ((wl_get ha).trans (by rw [enc_ar hk hk1 hn])) ht (inb_in hi) dg (h H locs ls hP hD hS hv)
  · rw [if_neg hi] at hr; cases hr
theorem so_alenI (hX : Fx X cc own d) {a n : Nat} (dg : decode cc pc = .ok (.arraylength, 1)) (hk : evK (xV X) a = 11) (hn : evL (xV X) a = n) (h : Gd X (pc + 1) lv (.int (nI n) :: st) μ) : Gd X pc lv (.ref (evA (xV X) a) :: st) μ := by
  intro H locs ls hP hD hS hv
  have ha : a < evN (xV X) := hX.2.2.2.2.2.2.2.1 a (by omega)
  exact va_alen (x := (n, .inl (μ.1 a))) hX.1 hX.2.1 hX.2.2.2.2.2.1 hP a 0 ((wl_get ha).trans (by rw [enc_ai hk hn])) rfl rfl dg (h H locs ls hP hD hS hv)
theorem so_alenJ (hX : Fx X cc own d) {a n : Nat} (dg : decode cc pc = .ok (.arraylength, 1)) (hk : evK (xV X) a = 12) (hn : evL (xV X) a = n) (h : Gd X (pc + 1) lv (.int (nI n) :: st) μ) : Gd X pc lv (.ref (evA (xV X) a) :: st) μ := by
  intro H locs ls hP hD hS hv
  have ha : a < evN (xV X) := hX.2.2.2.2.2.2.2.1 a (by omega)
  exact va_alen (x := (n, .inr (.inl (μ.2 a)))) hX.1 hX.2.1 hX.2.2.2.2.2.1 hP a 1 ((wl_get ha).trans (by rw [enc_aj hk hn])) rfl rfl dg (h H locs ls hP hD hS hv)
end
