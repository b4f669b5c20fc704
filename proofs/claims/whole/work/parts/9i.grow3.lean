/-! constructors: their contracts, calls, starts, ends -/
def AAn (V : Ev) (n sz : Nat) : Nat → Prop := fun q => (∃ a, a < n ∧ q = evA V a) ∨ sz ≤ q
def PctN (V : Ev) (μ : Mem) (z : Zt) (n sz : Nat) : State → Prop := fun U => U.heap.size = sz ∧ va_P (evD V) vwCl (wlG V μ z n) U.heap ∧ va_K (evD V) vwCl (tysV V) U ∧ va_D (fun _ => True) (wlG V μ z n) ∧ NW U ∧ AO U
def QctN (V : Ev) (n sz : Nat) (μ2 : Mem) (z2 : Zt) (n2 : Nat) : Array Value → State → Outcome → State → Prop := fun _ st oc t => oc = .returned none ∧ (∃ ad2 : Nat → Nat, (∀ a, a < n → ad2 a = evA V a) ∧ va_P (evD V) vwCl (wlG (sA V ad2) μ2 z2 n2) t.heap ∧ va_D (AAn V n sz) (wlG (sA V ad2) μ2 z2 n2)) ∧ va_F (AAn V n sz) st t
/-- a constructor's contract: from n cells it comes to n2 -/
def KT (l : Launch) (V : Ev) (y : MethodName) (bytes : ByteArray) (maxL d mc ms : Nat) (av : List Value) (μ : Mem) (z : Zt) (n : Nat) (μ2 : Mem) (z2 : Zt) (n2 : Nat) : Prop :=
  ∀ sz, Met l y (Cond.code y bytes maxL none :: TT) (rmN d mc ms) (va_Pc av (PctN V μ z n sz)) (QctN V n sz μ2 z2 n2) mc ms (AAn V n sz)
section
variable {X : Cx} {cc : ByteArray} {own : String} {d mc ms pc : Nat} {ad : Nat → Nat} {lv lv' : List (Nat × Value)} {st st0 rest As : List Value} {μ μ2 : Mem} {z z2 : Zt} {n k m n2 mcc msc : Nat}
theorem gn_call (hX : FN X cc own d mc ms) (a : Array Value) (hr : ∀ (H : Heap) (locs : List Loc) (ls : Array Slot), va_P (evD (xV X)) vwCl (wlG (sA (xV X) ad) μ z n) H → va_D (xA X) (wlG (sA (xV X) ad) μ z n) → lv_has ls (xn X) lv → va_Run (xp X) (xl X) (xe X) (xR X) (xs X) (xm X) (xa X) (xb X) (xme X) (xc X) H locs k m mcc msc (F0 (xm X) pc ls st0) rest (QctN (sA (xV X) ad) n H.size μ2 z2 n2 a) (AAn (sA (xV X) ad) n H.size)) (h : ∀ ad2 : Nat → Nat, (∀ a, a < n → ad2 a = ad a) → GN X ad2 (pc + 3) lv rest μ2 z2 n2 (k + mcc) (m + msc)) : GN X ad pc lv st0 μ z n k m := by
  intro H locs ls hP hD hS hv T hT X1
  obtain ⟨v, st₀, t, T', L, h0, X2, hL, e1, e2, ⟨hv1, ⟨ad2, ha2, hP2, hD2⟩, hz, hk⟩, st⟩ := hr H locs ls hP hD hv T hT X1
  cases hv1
  rw [h0] at hz hk
  have hAA : ∀ q, AAn (sA (xV X) ad) n H.size q → xA X q := by
    intro q hq
    rcases hq with ⟨a, ha, rfl⟩ | hq
    · exact hD.2 a _ (wlG_get ha)
    · exact hX.2.2.2.2.2.2.1 q (Nat.le_trans hS.1 hq)
  obtain ⟨t2, a1, b1⟩ := h ad2 ha2 T'.heap (locs ++ L) ls (by rw [e1]; exact hP2) (hD2.weaken (fun _ q _ h => hAA q.1 h)) ⟨Nat.le_trans hS.1 (by rw [e1]; exact hz), fun q h1 h2 => by rw [e1, hk q (Nat.lt_of_lt_of_le h1 hS.1) (fun z => h2 (hAA q z))]; exact hS.2.1 q h1 h2, fun q hq => by
      rcases List.mem_append.mp hq with h | h
      · exact hS.2.2 q h
      · exact hAA _ (hL q h)⟩ hv T' rfl X2
  exact ⟨t2, st t2 a1, b1⟩
theorem pctN_blind {V : Ev} {sz : Nat} {av : List Value} : FrameBlind (va_Pc av (PctN V μ z n sz)) := fun a U g mk q => by
  obtain ⟨q0, q1, qP, qK, qD, qN, qA⟩ := q
  exact ⟨q0, q1, qP, va_K.moved (u := U) (U := U.calling g mk a) (Vm.Alike.refl U.vm) qK, qD, NW.same rfl qN, AO.moved (s := U) (U := U.calling g mk a) (Vm.Alike.refl U.vm) qA⟩
theorem pctN_at (hX : FN X cc own d mc ms) {H : Heap} {av : List Value} (hP : va_P (evD (xV X)) vwCl (wlG (sA (xV X) ad) μ z n) H) (hD : va_D (xA X) (wlG (sA (xV X) ad) μ z n)) : ∀ U : State, U.heap = H → (xs X).WarmedH U.vm → va_Pc av (PctN (sA (xV X) ad) μ z n H.size) av.toArray U := fun U hU hW => ⟨rfl, by rw [hU], by rw [hU]; exact hP, va_K.moved hW.alike hX.2.2.2.2.2.1, hD.weaken (fun _ _ _ _ => trivial), NW.warm hW hX.2.2.2.2.2.2.2.2.2.1, AO.moved hW.alike hX.2.2.2.2.2.2.2.2.2.2.1⟩
/-- a constructor is called -/
theorem gn_init (hX : FN X cc own d mc ms) {b index nn maxL dc : Nat} {y : MethodName} {bytes : ByteArray} (dg : decode cc pc = .ok (.invokespecial index, 3)) (hM : KT (xl X) (sA (xV X) ad) y bytes maxL dc mcc msc (.ref b :: As) μ z n μ2 z2 n2) (hw : Mw y bytes maxL none nn) (hw2 : Cond.instanceMethod y ∈ TT) (hy : y.name = "<init>") (hl : Cond.methodLink own index y ∈ TT) (hst : st0 = As.reverse ++ .ref b :: rest) (hn : As.length = nn) (hd : dc + 1 ≤ d) (hm : maxL ≤ 21) (hs : (rest.map fun v => v.category).sum ≤ 8) (hc1 : k + mcc ≤ mc) (hc2 : m + msc ≤ ms) (h : ∀ ad2 : Nat → Nat, (∀ a, a < n → ad2 a = ad a) → GN X ad2 (pc + 3) lv rest μ2 z2 n2 (k + mcc) (m + msc)) : GN X ad pc lv st0 μ z n k m := by
  refine gn_call hX (Value.ref b :: As).toArray (fun H locs ls hP hD hv => ?_) h
  have hts := hX.2.2.2.2.1
  have hR := hX.2.2.2.2.2.2.2.1
  obtain ⟨g1, g2, g3⟩ := hw
  refine va_runI (As := As) (rest := rest) (n := nn) ⟨hX.1, hX.2.1, hX.2.2.1, hX.2.2.2.1, hts⟩ (hM H.size) ⟨callB_of nn hts (gi_code g2) rfl rfl rfl (hts _ g1) (hts _ hl) g3 ?_, hy, hts _ hw2⟩ ⟨pctN_blind, pctN_at hX hP hD⟩ rfl hn hv.1 hst (lv_room hs) dg ⟨by rw [hR]; exact hc1, by rw [hR]; exact hc2⟩
  rw [hR]; unfold rmN; exact ⟨hd, by show 8 + (maxL + 11) + 40 * dc ≤ 40 * d; omega⟩
/-- a nest mate's private constructor is called -/
theorem gn_initN (hX : FN X cc own d mc ms) {b index nn maxL dc : Nat} {y : MethodName} {bytes : ByteArray} (dg : decode cc pc = .ok (.invokespecial index, 3)) (hM : KT (xl X) (sA (xV X) ad) y bytes maxL dc mcc msc (.ref b :: As) μ z n μ2 z2 n2) (hw : Mw y bytes maxL none nn) (hw2 : Cond.instanceMethod y ∈ TT) (hy : y.name = "<init>") (hl : (own, index, y) ∈ nestL) (hst : st0 = As.reverse ++ .ref b :: rest) (hn : As.length = nn) (hd : dc + 1 ≤ d) (hm : maxL ≤ 21) (hs : (rest.map fun v => v.category).sum ≤ 8) (hc1 : k + mcc ≤ mc) (hc2 : m + msc ≤ ms) (h : ∀ ad2 : Nat → Nat, (∀ a, a < n → ad2 a = ad a) → GN X ad2 (pc + 3) lv rest μ2 z2 n2 (k + mcc) (m + msc)) : GN X ad pc lv st0 μ z n k m := by
  refine gn_call hX (Value.ref b :: As).toArray (fun H locs ls hP hD hv => ?_) h
  have hts := hX.2.2.2.2.1
  have hR := hX.2.2.2.2.2.2.2.1
  obtain ⟨g1, g2, g3⟩ := hw
  refine va_runIN (host := RX9) (As := As) (rest := rest) (n := nn) ⟨hX.1, hX.2.1, hX.2.2.1, hX.2.2.2.1, hts⟩ (hM H.size) ⟨va_cnB nn hts (gi_code g2) rfl rfl rfl ?_ (hts _ g1) g3 ?_, hy, hts _ hw2⟩ ⟨pctN_blind, pctN_at hX hP hD⟩ rfl hn hv.1 hst (lv_room hs) dg ⟨by rw [hR]; exact hc1, by rw [hR]; exact hc2⟩
  · exact hX.2.2.2.2.2.2.2.2.2.1 _ hl
  · rw [hR]; unfold rmN; exact ⟨hd, by show 8 + (maxL + 11) + 40 * dc ≤ 40 * d; omega⟩
/-- what a constructor's walk must end with -/
def RtN (X : Cx) (n0 mc ms : Nat) (μ2 : Mem) (z2 : Zt) (n2 : Nat) : Prop := (xme X).sig.returnType = none ∧ xA X = AAn (xV X) n0 (xs X).heap.size ∧ xQ X = MQ (xb X) (QctN (xV X) n0 (xs X).heap.size μ2 z2 n2) (xa X) (xs X) mc ms (AAn (xV X) n0 (xs X).heap.size)
theorem gn_ret (hX : FN X cc own d mc ms) {n0 : Nat} (hR : RtN X n0 mc ms μ z n) (hold : ∀ a, a < n0 → ad a = evA (xV X) a) (hc1 : k ≤ mc) (hc2 : m ≤ ms) (dg : decode cc pc = .ok (.return_, 1)) : GN X ad pc lv [] μ z n k m := by
  intro H locs ls hP hD hS hv
  rw [hR.2.2]
  refine W.widen (k := mc) (n := ms) hc1 hc2 ?_
  refine W.vret (hlocks := hX.2.2.2.2.2.2.2.2.1) hX.1 hX.2.1 hR.1 (fun t ht _ => ?_) (by rw [hR.2.1] at hS; exact hS.2.2) dg
  rw [hR.2.1] at hS hD
  exact ⟨rfl, ⟨ad, hold, by rw [ht]; exact hP, hD⟩, hS.F ht⟩
end
/-- a constructor's start -/
theorem gn_met {l : Launch} {V : Ev} {y : MethodName} {bytes : ByteArray} {maxL d mc ms n n2 : Nat} {av : List Value} {μ μ2 : Mem} {z z2 : Zt} (lv0 : List (Nat × Value)) (hy : plainName y.cls = true) (hyn : y.name = "<init>") (hlen : (lg_sl av).length ≤ maxL) (hlv : lv_args 0 av = lv0)
    (body : ∀ X : Cx, xl X = l → xV X = V → xn X = maxL → FN X bytes y.cls d mc ms → RtN X n mc ms μ2 z2 n2 → GN X (evA V) 0 lv0 [] μ z n 0 0) : KT l V y bytes maxL d mc ms av μ z n μ2 z2 n2 := by
  intro sz
  refine Met.ofW (cc := bytes) (maxL := maxL) (ret := none) hy rfl ?_
  intro p e s m args below meth c s₁ B hml hv
  obtain ⟨rfl, hsz, hP, hK, hD0, hN, hAO⟩ := hv
  have hts := atoms_spec (ws := Cond.code y bytes maxL none :: TT) B.pre
  have hown : s.vm.findClass y.cls = some m.cls := findClass_of_methodNamed B.named
  have hin : meth.name = "<init>" := (name_of_methodNamed B.named B.method).1.trans hyn
  subst hsz
  have hl := lv_entry av (n := maxL) hlen
  rw [lg_entry_eq]
  have hD : va_D (AAn V n s.heap.size) (wlG V μ z n) := hD0.weaken (fun k q hk _ => by
    by_cases hn : k < n
    · rw [wlG_get hn] at hk; cases hk; exact Or.inl ⟨k, hn, rfl⟩
    · unfold wlG at hk; rw [List.getElem?_eq_none (by simpa using hn)] at hk; cases hk)
  rw [hlv] at hl
  exact body (p, l, e, rmN d mc ms, s, m, av.toArray, below, meth, c, maxL, V, AAn V n s.heap.size, MQ below (QctN V n s.heap.size μ2 z2 n2) av.toArray s mc ms (AAn V n s.heap.size)) rfl rfl rfl ⟨B.exec, B.bytes, hml, hown, fun w hw => hts w (List.mem_cons_of_mem _ hw), hK, fun q h => Or.inr h, rfl, B.notSynchronized, hN, hAO, hin⟩ ⟨B.returns, rfl, rfl⟩ s.heap [] _ hP hD va_S.rf hl
