/-! calls, returns, a method's start -/
def AA (V : Ev) (sz : Nat) : Nat → Prop := fun q => (∃ a, a < evN V ∧ q = evA V a) ∨ sz ≤ q
def vr (V : Ev) (o : Option Nat) : Value := match o with
  | none => .null
  | some k => .ref (evA V k)
theorem wl_D {V : Ev} {μ μ2 : Mem} {A : Nat → Prop} (h : va_D A (wl V μ)) : va_D A (wl V μ2) := by
  have key : ∀ (k : Nat) (q : Nat × va_E), (wl V μ2)[k]? = some q → ∃ q0 : Nat × va_E, (wl V μ)[k]? = some q0 ∧ q0.1 = q.1 := by
    intro k q hk
    by_cases hn : k < evN V
    · rw [wl_get hn] at hk; cases hk; exact ⟨_, wl_get hn, rfl⟩
    · unfold wl at hk; rw [List.getElem?_eq_none (by simpa using hn)] at hk; cases hk
  refine ⟨fun i j x y hi hj hxy => ?_, fun k q hk => ?_⟩
  · obtain ⟨x0, h1, h2⟩ := key i x hi
    obtain ⟨y0, h3, h4⟩ := key j y hj
    exact h.1 i j x0 y0 h1 h3 (h2.trans (hxy.trans h4.symm))
  · obtain ⟨q0, h1, h2⟩ := key k q hk
    rw [← h2]; exact h.2 k q0 h1
def Pct (V : Ev) (μ : Mem) (sz : Nat) : State → Prop := fun U => U.heap.size = sz ∧ va_P (evD V) vwCl (wl V μ) U.heap ∧ va_K (evD V) vwCl (tysV V) U ∧ va_D (fun _ => True) (wl V μ) ∧ NW U
def Qct (V : Ev) (sz : Nat) (μ2 : Mem) (rv : Option Value) : Array Value → State → Outcome → State → Prop := fun _ st oc t => oc = .returned rv ∧ va_P (evD V) vwCl (wl V μ2) t.heap ∧ va_F (AA V sz) st t
/-- a method's contract over memories: from μ, with these arguments, it returns rv and leaves μ2 -/
def CT (l : Launch) (V : Ev) (y : MethodName) (bytes : ByteArray) (maxL : Nat) (ret : Option FieldType) (d : Nat) (av : List Value) (μ μ2 : Mem) (rv : Option Value) : Prop :=
  ∀ sz, Met l y (Cond.code y bytes maxL ret :: TT) (rm d) (va_Pc av (Pct V μ sz)) (Qct V sz μ2 rv) 0 0 (AA V sz)
theorem TT_good : ∀ w ∈ TT, (w.onTables && w.keeps) = true ∨ ∃ ty, w = .arrayClass ty := fun w h => good_of_word (List.mem_filter.mp h).2
theorem gi_code {y : MethodName} {bytes : ByteArray} {maxL : Nat} {ret : Option FieldType} (h : Cond.code y bytes maxL ret ∈ TT) : GoodIn TT (Cond.code y bytes maxL ret :: TT) := fun w hw => by
  rcases List.mem_cons.mp hw with rfl | hw
  · exact ⟨h, TT_good _ h⟩
  · exact ⟨hw, TT_good _ hw⟩
/-- the words of a method of an object, of a static one -/
def Mw (y : MethodName) (bytes : ByteArray) (maxL : Nat) (ret : Option FieldType) (n : Nat) : Prop := Cond.initialized y.cls ∈ TT ∧ Cond.code y bytes maxL ret ∈ TT ∧ (y.cls ≠ "java/lang/invoke/MethodHandle" ∧ y.cls ≠ "java/lang/invoke/VarHandle" ∧ (parseMethodDescriptor y.desc).map (fun d => d.parameters.length) = some n)
def MwV (y : MethodName) : Prop := Cond.instanceMethod y ∈ TT ∧ Cond.selects y.cls y y ∈ TT
section
variable {X : Cx} {cc : ByteArray} {own : String} {d pc : Nat} {lv lv' : List (Nat × Value)} {st st0 rest As : List Value} {μ μ2 : Mem} {rv : Option Value}
theorem so_call (hX : Fx X cc own d) (a : Array Value) (hr : ∀ (H : Heap) (locs : List Loc) (ls : Array Slot), va_P (evD (xV X)) vwCl (wl (xV X) μ) H → va_D (xA X) (wl (xV X) μ) → lv_has ls (xn X) lv → va_Run (xp X) (xl X) (xe X) (xR X) (xs X) (xm X) (xa X) (xb X) (xme X) (xc X) H locs 0 0 0 0 (F0 (xm X) pc ls st0) rest (Qct (xV X) H.size μ2 rv a) (AA (xV X) H.size)) (h : Gd X (pc + 3) lv (rv.toList ++ rest) μ2) : Gd X pc lv st0 μ := by
  intro H locs ls hP hD hS hv T hT X1
  obtain ⟨v, st₀, t, T', L, h0, X2, hL, e1, e2, ⟨hv1, hP2, hz, hk⟩, st⟩ := hr H locs ls hP hD hv T hT X1
  cases hv1
  rw [h0] at hz hk
  have hAA : ∀ q, AA (xV X) H.size q → xA X q := by
    intro q hq
    rcases hq with ⟨a, ha, rfl⟩ | hq
    · exact hX.2.2.2.2.2.2.2.2.1 a ha
    · exact hX.2.2.2.2.2.2.1 q (Nat.le_trans hS.1 hq)
  obtain ⟨t2, a1, b1⟩ := h T'.heap (locs ++ L) ls (by rw [e1]; exact hP2) (wl_D hD) ⟨Nat.le_trans hS.1 (by rw [e1]; exact hz), fun q h1 h2 => by rw [e1, hk q (Nat.lt_of_lt_of_le h1 hS.1) (fun z => h2 (hAA q z))]; exact hS.2.1 q h1 h2, fun q hq => by
      rcases List.mem_append.mp hq with h | h
      · exact hS.2.2 q h
      · exact hAA _ (hL q h)⟩ hv T' rfl X2
  exact ⟨t2, st t2 a1, b1⟩
theorem pct_blind {V : Ev} {sz : Nat} {av : List Value} : FrameBlind (va_Pc av (Pct V μ sz)) := fun a U g mk q => by
  obtain ⟨q0, q1, qP, qK, qD, qN⟩ := q
  exact ⟨q0, q1, qP, va_K.moved (u := U) (U := U.calling g mk a) (Vm.Alike.refl U.vm) qK, qD, NW.same rfl qN⟩
theorem pct_at (hX : Fx X cc own d) {H : Heap} {av : List Value} (hP : va_P (evD (xV X)) vwCl (wl (xV X) μ) H) (hD : va_D (xA X) (wl (xV X) μ)) : ∀ U : State, U.heap = H → (xs X).WarmedH U.vm → va_Pc av (Pct (xV X) μ H.size) av.toArray U := fun U hU hW => ⟨rfl, by rw [hU], by rw [hU]; exact hP, va_K.moved hW.alike hX.2.2.2.2.2.1, hD.weaken (fun _ _ _ _ => trivial), NW.warm hW hX.2.2.2.2.2.2.2.2.2.2.2⟩
theorem so_callV (hX : Fx X cc own d) {b ci index n maxL dc : Nat} {y : MethodName} {bytes : ByteArray} {ret : Option FieldType} {q : vw_C} (dg : decode cc pc = .ok (.invokevirtual index, 3)) (hM : CT (xl X) (xV X) y bytes maxL ret dc (.ref (evA (xV X) b) :: As) μ μ2 rv) (hw : Mw y bytes maxL ret n) (hw2 : MwV y) (hl : Cond.methodLink own index y ∈ TT) (hk : evK (xV X) b = ci) (hci : ci < 11) (hq : vwCl[ci]? = some q) (hq1 : q.1 = y.cls) (hst : st0 = As.reverse ++ .ref (evA (xV X) b) :: rest) (hn : As.length = n) (hd : dc + 1 ≤ d) (hm : maxL ≤ 21) (hs : (rest.map fun v => v.category).sum ≤ 8) (h : Gd X (pc + 3) lv (rv.toList ++ rest) μ2) : Gd X pc lv st0 μ := by
  refine so_call hX (Value.ref (evA (xV X) b) :: As).toArray (fun H locs ls hP hD hv => ?_) h
  have hts := hX.2.2.2.2.1
  have hR := hX.2.2.2.2.2.2.2.2.2.1
  have ha : b < evN (xV X) := hX.2.2.2.2.2.2.2.1 b (by omega)
  obtain ⟨g1, g2, g3⟩ := hw
  refine va_runV (As := As) (rest := rest) (n := n) ⟨hX.1, hX.2.1, hX.2.2.1, hX.2.2.2.1, hts⟩ (hM H.size) ⟨callB_of n hts (gi_code g2) rfl rfl rfl (hts _ g1) (hts _ hl) g3 ?_, hts _ hw2.1, hts _ hw2.2⟩ ⟨pct_blind, ?_, pct_at hX hP hD⟩ rfl hn hv.1 hst (lv_room hs) dg ⟨by rw [hR]; exact Nat.zero_le _, by rw [hR]; exact Nat.zero_le _⟩
  · rw [hR]; unfold rm; exact ⟨hd, by show 8 + (maxL + 11) + 40 * dc ≤ 40 * d; omega⟩
  · rw [← hq1]
    exact va_recv hX.2.2.2.2.2.1 hP (ci := ci) (q0 := b) hq ((wl_get ha).trans (by rw [enc_obj hk hci]))
theorem so_callS (hX : Fx X cc own d) {index n maxL dc : Nat} {y : MethodName} {bytes : ByteArray} {ret : Option FieldType} (dg : decode cc pc = .ok (.invokestatic index, 3)) (hM : CT (xl X) (xV X) y bytes maxL ret dc As μ μ2 rv) (hw : Mw y bytes maxL ret n) (hw2 : Cond.static y ∈ TT) (hl : Cond.methodLink own index y ∈ TT) (hst : st0 = As.reverse ++ rest) (hn : As.length = n) (hd : dc + 1 ≤ d) (hm : maxL ≤ 21) (hs : (rest.map fun v => v.category).sum ≤ 8) (h : Gd X (pc + 3) lv (rv.toList ++ rest) μ2) : Gd X pc lv st0 μ := by
  refine so_call hX As.toArray (fun H locs ls hP hD hv => ?_) h
  have hts := hX.2.2.2.2.1
  have hR := hX.2.2.2.2.2.2.2.2.2.1
  obtain ⟨g1, g2, g3⟩ := hw
  refine va_runS (As := As) (rest := rest) (n := n) ⟨hX.1, hX.2.1, hX.2.2.1, hX.2.2.2.1, hts⟩ (hM H.size) ⟨callB_of n hts (gi_code g2) rfl rfl rfl (hts _ g1) (hts _ hl) g3 ?_, hts _ hw2⟩ ⟨pct_blind, pct_at hX hP hD⟩ rfl hn hv.1 hst (lv_room hs) dg ⟨by rw [hR]; exact Nat.zero_le _, by rw [hR]; exact Nat.zero_le _⟩
  rw [hR]; unfold rm; exact ⟨hd, by show 8 + (maxL + 11) + 40 * dc ≤ 40 * d; omega⟩
theorem so_callSN (hX : Fx X cc own d) {index n maxL dc : Nat} {y : MethodName} {bytes : ByteArray} {ret : Option FieldType} (dg : decode cc pc = .ok (.invokestatic index, 3)) (hM : CT (xl X) (xV X) y bytes maxL ret dc As μ μ2 rv) (hw : Mw y bytes maxL ret n) (hw2 : Cond.static y ∈ TT) (hl : (own, index, y) ∈ nestL) (hst : st0 = As.reverse ++ rest) (hn : As.length = n) (hd : dc + 1 ≤ d) (hm : maxL ≤ 21) (hs : (rest.map fun v => v.category).sum ≤ 8) (h : Gd X (pc + 3) lv (rv.toList ++ rest) μ2) : Gd X pc lv st0 μ := by
  refine so_call hX As.toArray (fun H locs ls hP hD hv => ?_) h
  have hts := hX.2.2.2.2.1
  have hR := hX.2.2.2.2.2.2.2.2.2.1
  obtain ⟨g1, g2, g3⟩ := hw
  refine va_runSN (host := RX9) (As := As) (rest := rest) (n := n) ⟨hX.1, hX.2.1, hX.2.2.1, hX.2.2.2.1, hts⟩ (hM H.size) ⟨va_cnB n hts (gi_code g2) rfl rfl rfl ?_ (hts _ g1) g3 ?_, hts _ hw2, trivial⟩ ⟨pct_blind, pct_at hX hP hD⟩ rfl hn hv.1 hst (lv_room hs) dg ⟨by rw [hR]; exact Nat.zero_le _, by rw [hR]; exact Nat.zero_le _⟩
  · exact hX.2.2.2.2.2.2.2.2.2.2.2 _ hl
  · rw [hR]; unfold rm; exact ⟨hd, by show 8 + (maxL + 11) + 40 * dc ≤ 40 * d; omega⟩
/-- what the walk's end must be -/
def Rt (X : Cx) (ret : Option FieldType) (μ2 : Mem) (rv : Option Value) : Prop := (xme X).sig.returnType = ret ∧ xA X = AA (xV X) (xs X).heap.size ∧ xQ X = MQ (xb X) (Qct (xV X) (xs X).heap.size μ2 rv) (xa X) (xs X) 0 0 (AA (xV X) (xs X).heap.size)
theorem rt_end {ret : Option FieldType} (hR : Rt X ret μ2 rv) {H : Heap} {locs : List Loc} (hP : va_P (evD (xV X)) vwCl (wl (xV X) μ2) H) (hS : va_S (xA X) (xs X).heap H locs) : ∀ t : State, t.heap = H → (xs X).WarmedH t.vm → Qct (xV X) (xs X).heap.size μ2 rv (xa X) (xs X) (.returned rv) t := fun t ht _ => by
  rw [hR.2.1] at hS
  exact ⟨rfl, by rw [ht]; exact hP, hS.F ht⟩
theorem so_iret (hX : Fx X cc own d) {v : Int32} {ty : FieldType} (hR : Rt X (some ty) μ (some (.int v))) (hn : narrow ty (.int v) = .int v) (dg : decode cc pc = .ok (.ireturn, 1)) : Gd X pc lv [.int v] μ := by
  intro H locs ls hP hD hS hv
  rw [hR.2.2]
  exact W.zret (hlocks := hX.2.2.2.2.2.2.2.2.2.2.1) hX.1 hX.2.1 hR.1 hn (rt_end hR hP hS) (by rw [hR.2.1] at hS; exact hS.2.2) dg
theorem so_lret (hX : Fx X cc own d) {v : Int64} (hR : Rt X (some .long) μ (some (.long v))) (dg : decode cc pc = .ok (.lreturn, 1)) : Gd X pc lv [.long v] μ := by
  intro H locs ls hP hD hS hv
  rw [hR.2.2]
  exact W.lret (hlocks := hX.2.2.2.2.2.2.2.2.2.2.1) hX.1 hX.2.1 hR.1 (rt_end hR hP hS) (by rw [hR.2.1] at hS; exact hS.2.2) dg
theorem so_vret (hX : Fx X cc own d) (hR : Rt X none μ none) (dg : decode cc pc = .ok (.return_, 1)) : Gd X pc lv [] μ := by
  intro H locs ls hP hD hS hv
  rw [hR.2.2]
  exact W.vret (hlocks := hX.2.2.2.2.2.2.2.2.2.2.1) hX.1 hX.2.1 hR.1 (rt_end hR hP hS) (by rw [hR.2.1] at hS; exact hS.2.2) dg
theorem so_aret (hX : Fx X cc own d) {C : String} {o : Option Nat} {v : Value} (hR : Rt X (some (.object C)) μ (some (vr (xV X) o))) (ho : vr (xV X) o = v) (dg : decode cc pc = .ok (.areturn, 1)) : Gd X pc lv [v] μ := by
  subst ho
  intro H locs ls hP hD hS hv
  rw [hR.2.2]
  exact W.aret (hlocks := hX.2.2.2.2.2.2.2.2.2.2.1) hX.1 hX.2.1 hR.1 (Or.inl ⟨C, rfl⟩) (by cases o with | none => exact Or.inl rfl | some k => exact Or.inr ⟨_, rfl⟩) (rt_end hR hP hS) (by rw [hR.2.1] at hS; exact hS.2.2) dg
theorem so_mmax (hX : Fx X cc own d) {index : Nat} {x y : Int32} (dg : decode cc pc = .ok (.invokestatic index, 3)) (hl : Cond.methodLink own index Lib.Math.max.name ∈ TT) (hd : 1 ≤ d) (hs : (st.map fun v => v.category).sum ≤ 8) (h : Gd X (pc + 3) lv (.int (iMax x y) :: st) μ) : Gd X pc lv (.int y :: .int x :: st) μ := by
  intro H locs ls hP hD hS hv
  have hts := hX.2.2.2.2.1
  have hR := hX.2.2.2.2.2.2.2.2.2.1
  exact va_mmax hX.1 hX.2.1 (hX.2.2.1.trans hv.1.symm) hX.2.2.2.1 (hts _ hl) (hts _ (by decide +kernel)) (hts _ (by decide +kernel)) (hts _ (by decide +kernel)) (by rw [hR]; exact hd) (by rw [hR]; show _ ≤ 40 * d; omega) (Nat.zero_le _) (Nat.zero_le _) dg (h H locs ls hP hD hS hv)
theorem so_mabs (hX : Fx X cc own d) {index : Nat} {x : Int32} (dg : decode cc pc = .ok (.invokestatic index, 3)) (hl : Cond.methodLink own index Lib.Math.abs.name ∈ TT) (hd : 1 ≤ d) (hs : (st.map fun v => v.category).sum ≤ 8) (h : Gd X (pc + 3) lv (.int (iAbs x) :: st) μ) : Gd X pc lv (.int x :: st) μ := by
  intro H locs ls hP hD hS hv
  have hts := hX.2.2.2.2.1
  have hR := hX.2.2.2.2.2.2.2.2.2.1
  exact va_mabs hX.1 hX.2.1 (hX.2.2.1.trans hv.1.symm) hX.2.2.2.1 (hts _ hl) (hts _ (by decide +kernel)) (hts _ (by decide +kernel)) (hts _ (by decide +kernel)) (by rw [hR]; exact hd) (by rw [hR]; show _ ≤ 40 * d; omega) (Nat.zero_le _) (Nat.zero_le _) dg (h H locs ls hP hD hS hv)
theorem so_mmin (hX : Fx X cc own d) {index : Nat} {x y : Int32} (dg : decode cc pc = .ok (.invokestatic index, 3)) (hl : Cond.methodLink own index Lib.Math.min.name ∈ TT) (hd : 1 ≤ d) (hs : (st.map fun v => v.category).sum ≤ 8) (h : Gd X (pc + 3) lv (.int (iMin x y) :: st) μ) : Gd X pc lv (.int y :: .int x :: st) μ := by
  intro H locs ls hP hD hS hv
  have hts := hX.2.2.2.2.1
  have hR := hX.2.2.2.2.2.2.2.2.2.1
  exact va_mmin hX.1 hX.2.1 (hX.2.2.1.trans hv.1.symm) hX.2.2.2.1 (hts _ hl) (hts _ (by decide +kernel)) (hts _ (by decide +kernel)) (hts _ (by decide +kernel)) (by rw [hR]; exact hd) (by rw [hR]; show _ ≤ 40 * d; omega) (Nat.zero_le _) (Nat.zero_le _) dg (h H locs ls hP hD hS hv)
theorem so_copy (hX : Fx X cc own d) {index a b n0 n1 : Nat} {sp dp n : Int32} (dg : decode cc pc = .ok (.invokestatic index, 3)) (hl : Cond.methodLink own index arraycopyName ∈ TT) (hka : evK (xV X) a = 11) (hna : evL (xV X) a = n0) (hkb : evK (xV X) b = 11) (hnb : evL (xV X) b = n1) (hd : 1 ≤ d) (hs : (st.map fun v => v.category).sum ≤ 8) (hc : cpA μ n0 a sp n1 b dp n = some μ2) (h : Gd X (pc + 3) lv st μ2) : Gd X pc lv (.int n :: .int dp :: .ref (evA (xV X) b) :: .int sp :: .ref (evA (xV X) a) :: st) μ := by
  intro H locs ls hP hD hS hv
  have hts := hX.2.2.2.2.1
  have hR := hX.2.2.2.2.2.2.2.2.2.1
  have ha : a < evN (xV X) := hX.2.2.2.2.2.2.2.1 a (by omega)
  have hb : b < evN (xV X) := hX.2.2.2.2.2.2.2.1 b (by omega)
  have hnf : nativeFrameWords "java/lang/System" "arraycopy" 5 + 11 ≤ 32 := by decide +kernel
  unfold cpA at hc
  split at hc
  · rename_i hh
    obtain ⟨h1, h2, h3, h4, h5⟩ := hh
    cases hc
    refine va_copyi hX.1 hX.2.1 (hX.2.2.1.trans hv.1.symm) hX.2.2.2.1 (hts _ hl) (hts _ (by decide +kernel)) (hts _ (by decide +kernel)) (hts _ (by decide +kernel)) hX.2.2.2.2.2.1 hP hD hS a b 0 0 ((wl_get ha).trans (by rw [enc_ai hka hna])) ((wl_get hb).trans (by rw [enc_ai hkb hnb])) rfl rfl rfl h1 h2 h3 h4 h5 (fun _ _ => rfl) (by rw [hR]; exact hd) (by rw [hR]; show _ ≤ 40 * d; omega) dg (fun H1 locs1 hP1 hD1 hS1 => ?_)
    rw [wl_set (μ2 := cpI μ a sp.toNatClampNeg b dp.toNatClampNeg n.toNatClampNeg) hb (enc_cpI_ai hkb hnb) (fun x hx => enc_cpI_ne hx)] at hP1 hD1
    exact h H1 locs1 ls hP1 hD1 hS1 hv
  · cases hc
end
/-- a method's start: the walk of its body gives its contract -/
theorem so_met {l : Launch} {V : Ev} {y : MethodName} {bytes : ByteArray} {maxL d : Nat} {ret : Option FieldType} {av : List Value} {μ μ2 : Mem} {rv : Option Value} (lv0 : List (Nat × Value)) (hy : plainName y.cls = true) (hlen : (lg_sl av).length ≤ maxL) (hV : ∀ a, evK V a < 16 → a < evN V) (hlv : lv_args 0 av = lv0)
    (body : ∀ X : Cx, xl X = l → xV X = V → xn X = maxL → Fx X bytes y.cls d → Rt X ret μ2 rv → Gd X 0 lv0 [] μ) : CT l V y bytes maxL ret d av μ μ2 rv := by
  intro sz
  refine Met.ofW (cc := bytes) (maxL := maxL) (ret := ret) hy rfl ?_
  intro p e s m args below meth c s₁ B hml hv
  obtain ⟨rfl, hsz, hP, hK, hD0, hN⟩ := hv
  have hts := atoms_spec (ws := Cond.code y bytes maxL ret :: TT) B.pre
  have hown : s.vm.findClass y.cls = some m.cls := findClass_of_methodNamed B.named
  subst hsz
  have hl := lv_entry av (n := maxL) hlen
  rw [lg_entry_eq]
  have hD : va_D (AA V s.heap.size) (wl V μ) := hD0.weaken (fun k q hk _ => by
    by_cases hn : k < evN V
    · rw [wl_get hn] at hk; cases hk; exact Or.inl ⟨k, hn, rfl⟩
    · unfold wl at hk; rw [List.getElem?_eq_none (by simpa using hn)] at hk; cases hk)
  rw [hlv] at hl
  exact body (p, l, e, rm d, s, m, av.toArray, below, meth, c, maxL, V, AA V s.heap.size, MQ below (Qct V s.heap.size μ2 rv) av.toArray s 0 0 (AA V s.heap.size)) rfl rfl rfl ⟨B.exec, B.bytes, hml, hown, fun w hw => hts w (List.mem_cons_of_mem _ hw), hK, fun q h => Or.inr h, hV, fun a ha => Or.inl ⟨a, ha, rfl⟩, rfl, B.notSynchronized, hN⟩ ⟨B.returns, rfl, rfl⟩ s.heap [] _ hP hD va_S.rf hl
