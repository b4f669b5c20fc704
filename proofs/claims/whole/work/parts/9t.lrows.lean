/-! the law's walk: two worlds side by side -/
def LG (X : Cx) (U : Ev) (pc : Nat) (lv : List (Nat × Value)) (st : List Value) (μc μm : Mem) : Prop :=
  ∀ (H : Heap) (locs : List Loc) (ls : Array Slot), va_P (evD (xV X)) vwCl (wl (xV X) μc) H → va_P (evD U) vwCl (wl U μm) H → va_S (xA X) (xs X).heap H locs → lv_has ls 4 lv → W (xp X) (xl X) (xe X) (xR X) (xs X) (xm X) (xa X) (xb X) (xme X) (xc X) H locs 600000 7302250 (xQ X) (F0 (xm X) pc ls st)
/-- the two worlds: known, their cells apart and free -/
def Wd (X : Cx) (V : Ev) : Prop := va_K (evD V) vwCl (tysV V) (xs X) ∧ (∀ a, a < evN V → xA X (evA V a)) ∧ (∀ μ, va_D (fun _ => True) (wl V μ))
def FL (X : Cx) (U : Ev) (b L : Nat) (ys : Nat → Int32) : Prop :=
  (xp X).tables.exec = Jvm.exec ∧ (xc X).code = cL_law ∧ (xc X).maxLocals = 4 ∧ (xs X).vm.findClass RL = some (xm X).cls ∧ (∀ w ∈ TT, w.before (xa X) (xs X) = true) ∧ (∀ q, (xs X).heap.size ≤ q → xA X q) ∧ xR X = room_1 ∧ NW (xs X) ∧ Wd X (xV X) ∧ Wd X U ∧ (∀ a c, a < evN (xV X) → c < evN U → evA (xV X) a ≠ evA U c) ∧ va_X b L ys (xs X) (xs X).heap ∧ b < (xs X).heap.size ∧ ¬ xA X b
theorem lg_kept {X : Cx} {V U : Ev} {H H2 : Heap} {μ : Mem} (hap : ∀ a c, a < evN V → c < evN U → evA V a ≠ evA U c) (hU : va_P (evD U) vwCl (wl U μ) H) (hk : ∀ q : Nat, q < H.size → ¬ AA V H.size q → H2[q]? = H[q]?) : va_P (evD U) vwCl (wl U μ) H2 := by
  intro i q hq
  have hat := hU i q hq
  refine hat.kept (hk _ hat.lt (fun hz => ?_))
  by_cases hi : i < evN U
  · rw [wl_get hi] at hq
    cases hq
    rcases hz with ⟨a, ha, hz⟩ | hz
    · exact hap a i ha hi hz.symm
    · exact absurd hz (Nat.not_le.mpr hat.lt)
  · unfold wl at hq; rw [List.getElem?_eq_none (by simpa using hi)] at hq; cases hq
section
variable {X : Cx} {U : Ev} {b L pc : Nat} {ys : Nat → Int32} {lv lv' : List (Nat × Value)} {st st0 rest As : List Value} {μc μm μ2 : Mem} {rv : Option Value}
theorem lg_call {V V2 : Ev} {H : Heap} {locs : List Loc} {ls : Array Slot} {ν ν2 : Mem} (hbig : ∀ q, (xs X).heap.size ≤ q → xA X q) (hA : ∀ a, a < evN V → xA X (evA V a)) (hap : ∀ a c, a < evN V → c < evN V2 → evA V a ≠ evA V2 c) (a : Array Value) (hU : va_P (evD V2) vwCl (wl V2 ν2) H) (hS : va_S (xA X) (xs X).heap H locs) (hr : va_Run (xp X) (xl X) (xe X) (xR X) (xs X) (xm X) (xa X) (xb X) (xme X) (xc X) H locs 600000 7302250 0 0 (F0 (xm X) pc ls st0) rest (Qct V H.size ν rv a) (AA V H.size)) (h : ∀ (H2 : Heap) (locs2 : List Loc), va_P (evD V) vwCl (wl V ν) H2 → va_P (evD V2) vwCl (wl V2 ν2) H2 → va_S (xA X) (xs X).heap H2 locs2 → W (xp X) (xl X) (xe X) (xR X) (xs X) (xm X) (xa X) (xb X) (xme X) (xc X) H2 locs2 600000 7302250 (xQ X) (F0 (xm X) (pc + 3) ls (rv.toList ++ rest))) : W (xp X) (xl X) (xe X) (xR X) (xs X) (xm X) (xa X) (xb X) (xme X) (xc X) H locs 600000 7302250 (xQ X) (F0 (xm X) pc ls st0) := by
  intro T hT X1
  obtain ⟨v, st₀, t, T', Lc, h0, X2, hL, e1, e2, ⟨hv1, hP2, hz, hk⟩, st⟩ := hr T hT X1
  cases hv1
  rw [h0] at hz hk
  have hAA : ∀ q, AA V H.size q → xA X q := by
    intro q hq
    rcases hq with ⟨a, ha, rfl⟩ | hq
    · exact hA a ha
    · exact hbig q (Nat.le_trans hS.1 hq)
  obtain ⟨t2, a1, b1⟩ := h T'.heap (locs ++ Lc) (by rw [e1]; exact hP2) (lg_kept (X := X) hap hU (by rw [e1]; exact hk)) ⟨Nat.le_trans hS.1 (by rw [e1]; exact hz), fun q h1 h2 => by rw [e1, hk q (Nat.lt_of_lt_of_le h1 hS.1) (fun z => h2 (hAA q z))]; exact hS.2.1 q h1 h2, fun q hq => by
      rcases List.mem_append.mp hq with h | h
      · exact hS.2.2 q h
      · exact hAA _ (hL q h)⟩ T' rfl X2
  exact ⟨t2, st t2 a1, b1⟩
theorem lg_run {V : Ev} {H : Heap} {locs : List Loc} {ls : Array Slot} {ν ν2 : Mem} (hX : FL X U b L ys) (hV : Wd X V) (hP : va_P (evD V) vwCl (wl V ν) H) {ci index n maxL dc : Nat} {y : MethodName} {bytes : ByteArray} {ret : Option FieldType} {q : vw_C} (dg : decode cL_law pc = .ok (.invokevirtual index, 3)) (hM : CT (xl X) V y bytes maxL ret dc (.ref (evA V 0) :: As) ν ν2 rv) (hw : Mw y bytes maxL ret n) (hw2 : MwV y) (hl : Cond.methodLink RL index y ∈ TT) (hk : evK V 0 = ci) (hci : ci < 11) (h0 : 0 < evN V) (hq : vwCl[ci]? = some q) (hq1 : q.1 = y.cls) (hst : st0 = As.reverse ++ .ref (evA V 0) :: rest) (hn : As.length = n) (hd : dc ≤ 60) (hm : maxL ≤ 21) (hs : (rest.map fun v => v.category).sum ≤ 8) (hsz : ls.size = 4) : va_Run (xp X) (xl X) (xe X) (xR X) (xs X) (xm X) (xa X) (xb X) (xme X) (xc X) H locs 600000 7302250 0 0 (F0 (xm X) pc ls st0) rest (Qct V H.size ν2 rv (Value.ref (evA V 0) :: As).toArray) (AA V H.size) := by
  obtain ⟨x1, x2, x3, x4, hts, x6, hR, hN, -⟩ := hX
  obtain ⟨g1, g2, g3⟩ := hw
  refine va_runV (As := As) (rest := rest) (n := n) ⟨x1, x2, x3, x4, hts⟩ (hM H.size) ⟨callB_of n hts (gi_code g2) rfl rfl rfl (hts _ g1) (hts _ hl) g3 ?_, hts _ hw2.1, hts _ hw2.2⟩ ⟨pct_blind, ?_, fun S hS hW => ⟨rfl, by rw [hS], by rw [hS]; exact hP, va_K.moved hW.alike hV.1, hV.2.2 ν, NW.warm hW hN⟩⟩ rfl hn hsz hst (lv_room hs) dg ⟨by rw [hR]; exact Nat.le_refl _, by rw [hR]; exact Nat.le_refl _⟩
  · rw [hR]; unfold rm room_1; exact ⟨by show dc + 1 ≤ 2048; omega, by show 8 + (maxL + 11) + 40 * dc ≤ 84000; omega⟩
  · rw [← hq1]
    exact va_recv hV.1 hP (ci := ci) (q0 := 0) hq ((wl_get h0).trans (by rw [enc_obj hk hci]))
/-- a call of the class, a call of the model -/
theorem lg_callC (hX : FL X U b L ys) (hL : (xV X).2.2.2 = lyC) {index n maxL dc : Nat} {y : MethodName} {bytes : ByteArray} {ret : Option FieldType} (dg : decode cL_law pc = .ok (.invokevirtual index, 3)) (hM : CT (xl X) (xV X) y bytes maxL ret dc (.ref (evA (xV X) 0) :: As) μc μ2 rv) (hw : Mw y bytes maxL ret n) (hw2 : MwV y) (hl : Cond.methodLink RL index y ∈ TT) (hq1 : RX9 = y.cls) (hst : st0 = As.reverse ++ .ref (evA (xV X) 0) :: rest) (hn : As.length = n) (hd : dc ≤ 60) (hm : maxL ≤ 21) (hs : (rest.map fun v => v.category).sum ≤ 8) (h : LG X U (pc + 3) lv (rv.toList ++ rest) μ2 μm) : LG X U pc lv st0 μc μm := fun H locs ls hP hP2 hS hv =>
  lg_call (V := xV X) (V2 := U) hX.2.2.2.2.2.1 hX.2.2.2.2.2.2.2.2.1.2.1 hX.2.2.2.2.2.2.2.2.2.2.1 _ hP2 hS (lg_run hX hX.2.2.2.2.2.2.2.2.1 hP dg hM hw hw2 hl (ekC hL rfl) (by decide) (by unfold evN; rw [hL]; decide) rfl hq1 hst hn hd hm hs hv.1) (fun H2 locs2 p1 p2 s2 => h H2 locs2 ls p1 p2 s2 hv)
theorem lg_callM (hX : FL X U b L ys) (hL : U.2.2.2 = lyM) {index n maxL dc : Nat} {y : MethodName} {bytes : ByteArray} {ret : Option FieldType} (dg : decode cL_law pc = .ok (.invokevirtual index, 3)) (hM : CT (xl X) U y bytes maxL ret dc (.ref (evA U 0) :: As) μm μ2 rv) (hw : Mw y bytes maxL ret n) (hw2 : MwV y) (hl : Cond.methodLink RL index y ∈ TT) (hq1 : RX10 = y.cls) (hst : st0 = As.reverse ++ .ref (evA U 0) :: rest) (hn : As.length = n) (hd : dc ≤ 60) (hm : maxL ≤ 21) (hs : (rest.map fun v => v.category).sum ≤ 8) (h : LG X U (pc + 3) lv (rv.toList ++ rest) μc μ2) : LG X U pc lv st0 μc μm := fun H locs ls hP hP2 hS hv =>
  lg_call (V := U) (V2 := xV X) hX.2.2.2.2.2.1 hX.2.2.2.2.2.2.2.2.2.1.2.1 (fun a c ha hc => (hX.2.2.2.2.2.2.2.2.2.2.1 c a hc ha).symm) _ hP hS (lg_run hX hX.2.2.2.2.2.2.2.2.2.1 hP2 dg hM hw hw2 hl (ekM hL rfl) (by decide) (by unfold evN; rw [hL]; decide) rfl hq1 hst hn hd hm hs hv.1) (fun H2 locs2 p1 p2 s2 => h H2 locs2 ls p2 p1 s2 hv)
theorem lg_iconst (hX : FL X U b L ys) {n : Int} {v : Int32} (dg : decode cL_law pc = .ok (.iconst n, 1)) (hv1 : Int32.ofInt n = v) (h : LG X U (pc + 1) lv (.int v :: st) μc μm) : LG X U pc lv st μc μm := fun H locs ls hP hP2 hS hv => lv_iconst hX.1 hX.2.1 dg hv1 (h H locs ls hP hP2 hS hv)
theorem lg_bipush (hX : FL X U b L ys) {n : Int} {v : Int32} (dg : decode cL_law pc = .ok (.bipush n, 2)) (hv1 : (Int8.ofInt n).toInt32 = v) (h : LG X U (pc + 2) lv (.int v :: st) μc μm) : LG X U pc lv st μc μm := fun H locs ls hP hP2 hS hv => lv_bipush hX.1 hX.2.1 dg hv1 (h H locs ls hP hP2 hS hv)
theorem lg_aload_n (hX : FL X U b L ys) {i : Fin 4} {x : Nat} (dg : decode cL_law pc = .ok (.aload_n i, 1)) (q : Nat) (hq : lv[q]? = some ((i : Nat), .ref x)) (h : LG X U (pc + 1) lv (.ref x :: st) μc μm) : LG X U pc lv st μc μm := fun H locs ls hP hP2 hS hv => lv_aload_n hX.1 hX.2.1 dg rfl (lv_at hv q hq) (h H locs ls hP hP2 hS hv)
theorem lg_iload_n (hX : FL X U b L ys) {i : Fin 4} {x : Int32} (dg : decode cL_law pc = .ok (.iload_n i, 1)) (q : Nat) (hq : lv[q]? = some ((i : Nat), .int x)) (h : LG X U (pc + 1) lv (.int x :: st) μc μm) : LG X U pc lv st μc μm := fun H locs ls hP hP2 hS hv => lv_iload_n hX.1 hX.2.1 dg rfl (lv_at hv q hq) (h H locs ls hP hP2 hS hv)
theorem lg_iadd (hX : FL X U b L ys) {x y : Int32} (dg : decode cL_law pc = .ok (.iadd, 1)) (h : LG X U (pc + 1) lv (.int (x + y) :: st) μc μm) : LG X U pc lv (.int y :: .int x :: st) μc μm := fun H locs ls hP hP2 hS hv => lv_iadd hX.1 hX.2.1 dg (h H locs ls hP hP2 hS hv)
theorem lg_isub (hX : FL X U b L ys) {x y : Int32} (dg : decode cL_law pc = .ok (.isub, 1)) (h : LG X U (pc + 1) lv (.int (x - y) :: st) μc μm) : LG X U pc lv (.int y :: .int x :: st) μc μm := fun H locs ls hP hP2 hS hv => lv_isub hX.1 hX.2.1 dg (h H locs ls hP hP2 hS hv)
theorem lg_iand (hX : FL X U b L ys) {x y : Int32} (dg : decode cL_law pc = .ok (.iand, 1)) (h : LG X U (pc + 1) lv (.int (x &&& y) :: st) μc μm) : LG X U pc lv (.int y :: .int x :: st) μc μm := fun H locs ls hP hP2 hS hv => lv_iand hX.1 hX.2.1 dg (h H locs ls hP hP2 hS hv)
theorem lg_sld (hX : FL X U b L ys) {i : Nat} {v : Int32} (dg : decode cL_law pc = .ok (.iaload, 1)) (hv1 : v = nI i) (hi : i < L) (hL : L < 100000) (h : LG X U (pc + 1) lv (.int (ys i) :: st) μc μm) : LG X U pc lv (.int v :: .ref b :: st) μc μm := fun H locs ls hP hP2 hS hv => by
  subst hv1
  have h2 := h H locs ls hP hP2 hS hv
  have e : (nI i).toNatClampNeg = i := nI_clamp (by omega)
  exact va_sld hX.1 hX.2.1 hX.2.2.2.2.2.2.2.2.2.2.2.1 hX.2.2.2.2.2.2.2.2.2.2.2.2.1 hX.2.2.2.2.2.2.2.2.2.2.2.2.2 hS (vp_in_nI hi (by omega)) dg (by rw [e]; exact h2)
theorem lg_slen (hX : FL X U b L ys) (dg : decode cL_law pc = .ok (.arraylength, 1)) (h : LG X U (pc + 1) lv (.int (nI L) :: st) μc μm) : LG X U pc lv (.ref b :: st) μc μm := fun H locs ls hP hP2 hS hv => va_slen hX.1 hX.2.1 hX.2.2.2.2.2.2.2.2.2.2.2.1 hX.2.2.2.2.2.2.2.2.2.2.2.2.1 hX.2.2.2.2.2.2.2.2.2.2.2.2.2 hS dg (h H locs ls hP hP2 hS hv)
theorem lg_icmp_gt (hX : FL X U b L ys) {x y : Int32} {off : Int} (tgt : Nat) (dg : decode cL_law pc = .ok (.if_icmp .gt off, 3)) (ht : (pc : Int) + off = (tgt : Int)) (kt : y < x → LG X U tgt lv st μc μm) (kf : ¬ (y < x) → LG X U (pc + 3) lv st μc μm) : LG X U pc lv (.int y :: .int x :: st) μc μm := fun H locs ls hP hP2 hS hv => lv_icmp_gt hX.1 hX.2.1 dg ht (fun q => kt q H locs ls hP hP2 hS hv) (fun q => kf q H locs ls hP hP2 hS hv)
theorem lg_icmp_eq (hX : FL X U b L ys) {x : Int32} {off : Int} (tgt : Nat) (dg : decode cL_law pc = .ok (.if_icmp .eq off, 3)) (ht : (pc : Int) + off = (tgt : Int)) (kt : LG X U tgt lv st μc μm) : LG X U pc lv (.int x :: .int x :: st) μc μm := fun H locs ls hP hP2 hS hv => lv_icmp_eq hX.1 hX.2.1 dg ht (fun _ => kt H locs ls hP hP2 hS hv) (fun q => absurd rfl q)
theorem lg_goto (hX : FL X U b L ys) {off : Int} (tgt : Nat) (dg : decode cL_law pc = .ok (.goto off, 3)) (ht : (pc : Int) + off = (tgt : Int)) (h : LG X U tgt lv st μc μm) : LG X U pc lv st μc μm := fun H locs ls hP hP2 hS hv => lv_goto hX.1 hX.2.1 dg ht (h H locs ls hP hP2 hS hv)
theorem lg_iinc (hX : FL X U b L ys) {i : Nat} {c : Int} {x : Int32} (dg : decode cL_law pc = .ok (.iinc i c, 3)) (q : Nat) (v : Int32) (lv2 : List (Nat × Value)) (hq : lv[q]? = some (i, .int x)) (hv1 : Int32.ofInt c = v) (hn : i < 4) (hl : (i, Value.int (x + v)) :: lv.filter (fun q => !(q.1 == i) && !(q.1 + 1 == i && q.2.category == 2)) = lv2) (h : LG X U (pc + 3) lv2 st μc μm) : LG X U pc lv st μc μm := fun H locs ls hP hP2 hS hv => lv_iinc hX.1 hX.2.1 dg hv hq (by rw [hv1]) hn hl (fun ls2 hv2 => h H locs ls2 hP hP2 hS hv2)
theorem lg_sub (ks : List Nat) (hl : lv_pick lv ks = lv') (h : LG X U pc lv' st μc μm) : LG X U pc lv st μc μm := fun H locs ls hP hP2 hS hv => h H locs ls hP hP2 hS (lv_sub hv ks hl)
theorem lg_tabIn (hX : FL X U b L ys) {dflt lo hi : Int} {offs : Array Int} {len : Nat} {x : Int32} {off : Int} (tgt : Nat) (dg : decode cL_law pc = .ok (.tableswitch dflt lo hi offs, len)) (h1 : ¬ x.toInt < lo) (h2 : ¬ hi < x.toInt) (ho : offs[(x.toInt - lo).toNat]? = some off) (ht : (pc : Int) + off = (tgt : Int)) (h : LG X U tgt lv st μc μm) : LG X U pc lv (.int x :: st) μc μm := fun H locs ls hP hP2 hS hv => lv_tableIn hX.1 hX.2.1 dg h1 h2 ho ht (h H locs ls hP hP2 hS hv)
theorem lg_tabOut (hX : FL X U b L ys) {dflt lo hi : Int} {offs : Array Int} {len : Nat} {x : Int32} (tgt : Nat) (dg : decode cL_law pc = .ok (.tableswitch dflt lo hi offs, len)) (h1 : x.toInt < lo ∨ hi < x.toInt) (ht : (pc : Int) + dflt = (tgt : Int)) (h : LG X U tgt lv st μc μm) : LG X U pc lv (.int x :: st) μc μm := fun H locs ls hP hP2 hS hv => lv_tableOut hX.1 hX.2.1 dg h1 ht (h H locs ls hP hP2 hS hv)
/-- a word of the script is pushed -/
theorem lg_arg (hX : FL X U b L ys) {i j : Nat} {n : Int} {v x : Int32} (d0 : decode cL_law pc = .ok (.aload_n 0, 1)) (d1 : decode cL_law (pc + 1) = .ok (.iload_n 3, 1)) (d2 : decode cL_law (pc + 2) = .ok (.iconst n, 1)) (d3 : decode cL_law (pc + 3) = .ok (.iadd, 1)) (d4 : decode cL_law (pc + 4) = .ok (.iaload, 1)) (h0 : lv[0]? = some (0, .ref b)) (h3 : lv[3]? = some (3, .int x)) (hv1 : Int32.ofInt n = v) (hv2 : x + v = nI (i + j)) (hi : i + j < L) (hL : L < 100000) (h : LG X U (pc + 5) lv (.int (ys (i + j)) :: st) μc μm) : LG X U pc lv st μc μm :=
  lg_aload_n hX d0 0 h0 (lg_iload_n hX d1 3 h3 (lg_iconst hX d2 hv1 (lg_iadd hX d3 (lg_sld hX d4 hv2 hi hL h))))
theorem lg_arg6 (hX : FL X U b L ys) {i j : Nat} {n : Int} {v x : Int32} (d0 : decode cL_law pc = .ok (.aload_n 0, 1)) (d1 : decode cL_law (pc + 1) = .ok (.iload_n 3, 1)) (d2 : decode cL_law (pc + 2) = .ok (.bipush n, 2)) (d3 : decode cL_law (pc + 4) = .ok (.iadd, 1)) (d4 : decode cL_law (pc + 5) = .ok (.iaload, 1)) (h0 : lv[0]? = some (0, .ref b)) (h3 : lv[3]? = some (3, .int x)) (hv1 : (Int8.ofInt n).toInt32 = v) (hv2 : x + v = nI (i + j)) (hi : i + j < L) (hL : L < 100000) (h : LG X U (pc + 6) lv (.int (ys (i + j)) :: st) μc μm) : LG X U pc lv st μc μm :=
  lg_aload_n hX d0 0 h0 (lg_iload_n hX d1 3 h3 (lg_bipush hX d2 hv1 (lg_iadd hX d3 (lg_sld hX d4 hv2 hi hL h))))
end
