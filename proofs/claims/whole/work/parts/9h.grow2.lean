/-! constructors: rows over worlds that grow -/
def f0 (ci : Nat) : List Value := (List.range (nf ci)).map (fun j => if rb ci j = true then Value.null else .int 0)
/-- a class that may be made here -/
def NwC (own : String) (index ci : Nat) : Prop := ∃ (C : String) (T : u_T) (ty : Nat → FieldType), vwCl[ci]? = some (C, T, nf ci) ∧ (∀ w ∈ u_ws C T (nf ci), w ∈ TT) ∧ (∀ k, k < nf ci → parseFieldDescriptor (T k).2.2.1 = some (ty k)) ∧ Cond.classLink own index C ∈ TT ∧ Cond.instantiable C (nf ci) ∈ TT ∧ Cond.initialized C ∈ TT ∧ (∀ j, j < nf ci → defaultValue (ty j) = vp_V (f0 ci) j) ∧ ci < 11
/-- field j of class ci: final, of this class, a reference -/
def FwF (own : String) (ci j : Nat) : Prop := ∃ (C : String) (T : u_T) (N : Nat) (ty0 : Nat → FieldType) (ty : FieldType), vwCl[ci]? = some (C, T, N) ∧ (∀ k, k < N → parseFieldDescriptor (T k).2.2.1 = some (ty0 k)) ∧ (∀ a, a < N → ∀ b, b < N → a ≠ b → (T a).2.1 ≠ (T b).2.1) ∧ (T j).2.2.2 = true ∧ (T j).1 = own ∧ parseFieldDescriptor (T j).2.2.1 = some ty ∧ (∀ v, narrow ty (.ref v) = .ref v) ∧ ∀ v, fits ty (.ref v) = true
theorem cls_i {V : Ev} {s : State} {cA : ClassId} (hK : va_K (evD V) vwCl (tysV V) s) (h : va_RA s cA .int) : cA = evC V 11 := by
  have h1 := va_nm_int (hK.2 0 _ rfl).2
  have h2 := va_nm_int h
  rw [h1] at h2; exact (Option.some.inj h2).symm
theorem cls_l {V : Ev} {s : State} {cA : ClassId} (hK : va_K (evD V) vwCl (tysV V) s) (h : va_RA s cA .long) : cA = evC V 12 := by
  have h1 := va_nm_long (hK.2 1 _ rfl).2
  have h2 := va_nm_long h
  rw [h1] at h2; exact (Option.some.inj h2).symm
theorem cls_o {V : Ev} {s : State} {cA c2 : ClassId} {C : String} (h1 : va_RA s c2 (.object C)) (h2 : va_RA s cA (.object C)) : cA = c2 := by
  have e1 := va_nmO h1 rfl
  have e2 := va_nmO h2 rfl
  rw [e1] at e2; exact (Option.some.inj e2).symm
section
variable {X : Cx} {cc : ByteArray} {own : String} {d mc ms pc : Nat} {ad : Nat → Nat} {lv lv' : List (Nat × Value)} {st : List Value} {μ : Mem} {z : Zt} {n k m : Nat}
theorem gn_dup (hX : FN X cc own d mc ms) {va : Value} (dg : decode cc pc = .ok (.dup, 1)) (hc : va.category = 1) (h : GN X ad (pc + 1) lv (va :: va :: st) μ z n k m) : GN X ad pc lv (va :: st) μ z n k m := fun H locs ls hP hD hS hv => lv_dup hX.1 hX.2.1 dg hc (h H locs ls hP hD hS hv)
theorem gn_icmp_ge (hX : FN X cc own d mc ms) {x y : Int32} {off : Int} (tgt : Nat) (dg : decode cc pc = .ok (.if_icmp .ge off, 3)) (ht : (pc : Int) + off = (tgt : Int)) (kt : y ≤ x → GN X ad tgt lv st μ z n k m) (kf : ¬ (y ≤ x) → GN X ad (pc + 3) lv st μ z n k m) : GN X ad pc lv (.int y :: .int x :: st) μ z n k m := fun H locs ls hP hD hS hv => lv_icmp_ge hX.1 hX.2.1 dg ht (fun q => kt q H locs ls hP hD hS hv) (fun q => kf q H locs ls hP hD hS hv)
theorem gn_goto (hX : FN X cc own d mc ms) {off : Int} (tgt : Nat) (dg : decode cc pc = .ok (.goto off, 3)) (ht : (pc : Int) + off = (tgt : Int)) (h : GN X ad tgt lv st μ z n k m) : GN X ad pc lv st μ z n k m := fun H locs ls hP hD hS hv => lv_goto hX.1 hX.2.1 dg ht (h H locs ls hP hD hS hv)
theorem gn_getR (hX : FN X cc own d mc ms) {a index ci j h0 : Nat} (dg : decode cc pc = .ok (.getfield index, 3)) (hf : FlR own index ci j) (hk : evK (xV X) a = ci) (ha : a < n) (hh : ad a = h0) (hz : z a j = true) (h : GN X ad (pc + 3) lv (.ref (ad (evR (xV X) a j)) :: st) μ z n k m) : GN X ad pc lv (.ref h0 :: st) μ z n k m := by
  intro H locs ls hP hD hS hv
  subst hh
  obtain ⟨⟨C, T, N, h1, h2, h3, h4⟩, hci, hr, hj⟩ := hf
  refine va_get (D := evD (xV X)) (ci := ci) (v := .ref (ad (evR (xV X) a j))) (C := C) (T := T) (N := N) hX.1 hX.2.1 hX.2.2.2.2.1 h3 hX.2.2.2.1 hX.2.2.2.2.2.1 hP a ((wlG_get ha).trans (by rw [encG_obj (show evK (sA (xV X) ad) a = ci from hk) hci]; rfl)) h1 j h2 (hX.2.2.2.2.1 _ h4) (fun _ h9 => h9) ?_ dg (h H locs ls hP hD hS hv)
  rw [List.getElem?_map, List.getElem?_range hj]
  have hk2 : evK (sA (xV X) ad) a = ci := hk
  simp only [Option.map_some, encGF, hk2, hr, hz]; rfl
theorem gn_new (hX : FN X cc own d mc ms) {index ci : Nat} (dg : decode cc pc = .ok (.new index, 3)) (hw : NwC own index ci) (hk : evK (xV X) n = ci) (hz : okZ (xV X) z n) (hm0 : ∀ j, μ.1 n j = 0) (hz0 : ∀ j, z n j = false) (hc1 : k + 1 ≤ mc) (hc2 : m + nf ci ≤ ms) (h : ∀ q, GN X (upA ad n q) (pc + 3) lv (.ref q :: st) μ z (n + 1) (k + 1) (m + nf ci)) : GN X ad pc lv st μ z n k m := by
  intro H locs ls hP hD hS hv
  obtain ⟨C, T, ty, g1, g2, g3, g4, g5, g6, g7, g8⟩ := hw
  have hts := hX.2.2.2.2.1
  have hR := hX.2.2.2.2.2.2.2.1
  refine va_new (ci := ci) (fs := f0 ci) (C := C) (T := T) (N := nf ci) hX.1 hX.2.1 hts g2 ty g3 hX.2.2.2.1 (hts _ g4) (hts _ g5) (hts _ g6) hX.2.2.2.2.2.1 hP hD hS hX.2.2.2.2.2.2.1 g1 g7 (by rw [hR]; exact hc1) (by rw [hR]; exact hc2) dg (fun q H1 hP1 hD1 hS1 => ?_)
  have e : encG (sA (xV X) (upA ad n q)) μ z n = .inr (ci, f0 ci) := by
    rw [encG_obj (show evK (sA (xV X) (upA ad n q)) n = ci from hk) g8]
    congr 2
    unfold f0
    apply List.map_congr_left
    intro j _
    have hk2 : evK (sA (xV X) (upA ad n q)) n = ci := hk
    unfold encGF
    rw [hk2, hz0 j, hm0 j]
    simp
  have e2 := wlG_push (ad := ad) (μ := μ) (q := q) hz
  rw [e] at e2
  rw [← e2] at hP1 hD1
  exact h q H1 locs ls hP1 hD1 hS1 hv
theorem gn_newi (hX : FN X cc own d mc ms) {N : Nat} {v : Int32} (dg : decode cc pc = .ok (.newarray .int, 2)) (hv1 : v = nI N) (hN : N < 100000) (hk : evK (xV X) n = 11) (hl : evL (xV X) n = N) (hz : okZ (xV X) z n) (hm0 : μ.1 n = fun _ => 0) (hc1 : k + 1 ≤ mc) (hc2 : m + N ≤ ms) (h : ∀ q, GN X (upA ad n q) (pc + 2) lv (.ref q :: st) μ z (n + 1) (k + 1) (m + N)) : GN X ad pc lv (.int v :: st) μ z n k m := by
  intro H locs ls hP hD hS hv
  subst hv1
  have hts := hX.2.2.2.2.1
  have hR := hX.2.2.2.2.2.2.2.1
  have hK := hX.2.2.2.2.2.1
  have hnn : ¬ nI N < 0 := by rw [iz0, iz_nat, iz_lt (by omega) (by omega) (by omega) (by omega)]; omega
  refine va_newa (atype := .int) (ty := .int) (a0 := (N, .inl (fun _ => 0))) (N' := N) hX.1 hX.2.1 (hts _ (by decide +kernel)) rfl hK hP hD hS hX.2.2.2.2.2.2.1 (fun cA => rfl) hnn (nI_clamp (by omega)) (by show N * 4 ≤ 536870912; omega) (by rw [hR]; exact hc1) (by rw [hR]; exact hc2) dg (fun q cA H1 hK1 hP1 hD1 hS1 => ?_)
  have ec : cA = evC (xV X) 11 := cls_i hK (hK1.2 5 _ rfl).2
  have e : encG (sA (xV X) (upA ad n q)) μ z n = .inl (cA, N, .inl (fun _ => 0)) := by
    rw [encG_ai (show evK (sA (xV X) (upA ad n q)) n = 11 from hk) (show evL (sA (xV X) (upA ad n q)) n = N from hl), hm0, ec]; rfl
  have e2 := wlG_push (ad := ad) (μ := μ) (q := q) hz
  rw [e] at e2
  rw [← e2] at hP1 hD1
  exact h q H1 locs ls hP1 hD1 hS1 hv
theorem gn_newl (hX : FN X cc own d mc ms) {N : Nat} {v : Int32} (dg : decode cc pc = .ok (.newarray .long, 2)) (hv1 : v = nI N) (hN : N < 100000) (hk : evK (xV X) n = 12) (hl : evL (xV X) n = N) (hz : okZ (xV X) z n) (hm0 : μ.2 n = fun _ => 0) (hc1 : k + 1 ≤ mc) (hc2 : m + N ≤ ms) (h : ∀ q, GN X (upA ad n q) (pc + 2) lv (.ref q :: st) μ z (n + 1) (k + 1) (m + N)) : GN X ad pc lv (.int v :: st) μ z n k m := by
  intro H locs ls hP hD hS hv
  subst hv1
  have hts := hX.2.2.2.2.1
  have hR := hX.2.2.2.2.2.2.2.1
  have hK := hX.2.2.2.2.2.1
  have hnn : ¬ nI N < 0 := by rw [iz0, iz_nat, iz_lt (by omega) (by omega) (by omega) (by omega)]; omega
  refine va_newa (atype := .long) (ty := .long) (a0 := (N, .inr (.inl (fun _ => 0)))) (N' := N) hX.1 hX.2.1 (hts _ (by decide +kernel)) rfl hK hP hD hS hX.2.2.2.2.2.2.1 (fun cA => rfl) hnn (nI_clamp (by omega)) (by show N * 8 ≤ 536870912; omega) (by rw [hR]; exact hc1) (by rw [hR]; exact hc2) dg (fun q cA H1 hK1 hP1 hD1 hS1 => ?_)
  have ec : cA = evC (xV X) 12 := cls_l hK (hK1.2 5 _ rfl).2
  have e : encG (sA (xV X) (upA ad n q)) μ z n = .inl (cA, N, .inr (.inl (fun _ => 0))) := by
    rw [encG_aj (show evK (sA (xV X) (upA ad n q)) n = 12 from hk) (show evL (sA (xV X) (upA ad n q)) n = N from hl), hm0, ec]; rfl
  have e2 := wlG_push (ad := ad) (μ := μ) (q := q) hz
  rw [e] at e2
  rw [← e2] at hP1 hD1
  exact h q H1 locs ls hP1 hD1 hS1 hv
theorem gn_newq (hX : FN X cc own d mc ms) {N index kk0 t0 : Nat} {C : String} {v : Int32} (dg : decode cc pc = .ok (.anewarray index, 3)) (hcl : Cond.classLink own index C ∈ TT) (hao : va_AO C (xs X)) (hv1 : v = nI N) (hN : N < 100000) (hk : evK (xV X) n = kk0) (hk0 : 12 < kk0) (ht : (tysV (xV X))[t0]? = some (evC (xV X) kk0, .object C)) (hl : evL (xV X) n = N) (hz : okZ (xV X) z n) (hz0 : ∀ j, z n j = false) (hc1 : k + 1 ≤ mc) (hc2 : m + N ≤ ms) (h : ∀ q, GN X (upA ad n q) (pc + 3) lv (.ref q :: st) μ z (n + 1) (k + 1) (m + N)) : GN X ad pc lv (.int v :: st) μ z n k m := by
  intro H locs ls hP hD hS hv
  subst hv1
  have hts := hX.2.2.2.2.1
  have hR := hX.2.2.2.2.2.2.2.1
  have hK := hX.2.2.2.2.2.1
  have hnn : ¬ nI N < 0 := by rw [iz0, iz_nat, iz_lt (by omega) (by omega) (by omega) (by omega)]; omega
  refine va_newq (C := C) (N' := N) hX.1 hX.2.1 hX.2.2.2.1 (hts _ hcl) hao hK hP hD hS hX.2.2.2.2.2.2.1 hnn (nI_clamp (by omega)) (by omega) (by rw [hR]; exact hc1) (by rw [hR]; exact hc2) dg (fun q cA H1 hK1 hP1 hD1 hS1 => ?_)
  have ec : cA = evC (xV X) kk0 := cls_o (V := xV X) (hK.2 t0 _ ht).2 (hK1.2 5 _ rfl).2
  have e : encG (sA (xV X) (upA ad n q)) μ z n = .inl (cA, N, .inr (.inr (.inr (.inr (fun _ => none))))) := by
    rw [encG_ar (show evK (sA (xV X) (upA ad n q)) n = kk0 from hk) hk0 (show evL (sA (xV X) (upA ad n q)) n = N from hl), ec]
    have : (fun i => if z n i = true then some (evA (sA (xV X) (upA ad n q)) (evR (sA (xV X) (upA ad n q)) n i)) else none) = fun _ => none := by
      funext i; rw [hz0 i]; rfl
    rw [this]; rfl
  have e2 := wlG_push (ad := ad) (μ := μ) (q := q) hz
  rw [e] at e2
  rw [← e2] at hP1 hD1
  exact h q H1 locs ls hP1 hD1 hS1 hv
theorem gn_putF (hX : FN X cc own d mc ms) {a index ci j h0 v : Nat} (dg : decode cc pc = .ok (.putfield index, 3)) (hf : FlR own index ci j) (hw : FwF own ci j) (hk : evK (xV X) a = ci) (ha : a < n) (hh : ad a = h0) (hv1 : ad (evR (xV X) a j) = v) (h : GN X ad (pc + 3) lv st μ (zu z a j) n k m) : GN X ad pc lv (.ref v :: .ref h0 :: st) μ z n k m := by
  intro H locs ls hP hD hS hv
  subst hh
  subst hv1
  obtain ⟨⟨C, T, N, h1, h2, h3, h4⟩, hci, hr, hj⟩ := hf
  obtain ⟨C2, T2, N2, ty0, ty, g1, g2, g3, g4, g5, g6, g7, g8⟩ := hw
  rw [h1] at g1; cases g1
  refine va_putF (D := evD (xV X)) (ci := ci) (v := .ref (ad (evR (xV X) a j))) (ty := ty) (C := C) (T := T) (N := N) hX.1 hX.2.1 hX.2.2.2.2.1 h3 ty0 g2 g3 hX.2.2.2.1 hX.2.2.2.2.2.1 hP hD hS a ((wlG_get ha).trans (by rw [encG_obj (show evK (sA (xV X) ad) a = ci from hk) hci]; rfl)) h1 j h2 (hX.2.2.2.2.1 _ h4) (fun _ h9 => h9) g4 hX.2.2.2.2.2.2.2.2.2.2.2 g5 g6 (g7 _) (g8 _) (by simpa using hj) dg (fun H1 locs1 hP1 hD1 hS1 => ?_)
  have e := wlG_set (V := sA (xV X) ad) (μ := μ) (μ2 := μ) (z := z) (z2 := zu z a j) ha (encG_zu_obj (show evK (sA (xV X) ad) a = ci from hk) hci hr) (fun b hb => encG_zu_ne hb)
  have hP2 : va_P (evD (xV X)) vwCl (wlG (sA (xV X) ad) μ (zu z a j) n) H1 := by rw [← e]; exact hP1
  have hD2 : va_D (xA X) (wlG (sA (xV X) ad) μ (zu z a j) n) := by rw [← e]; exact hD1
  exact h H1 locs1 ls hP2 hD2 hS1 hv
theorem gn_putI (hX : FN X cc own d mc ms) {a index ci j h0 : Nat} {x : Int32} {ty : FieldType} (dg : decode cc pc = .ok (.putfield index, 3)) (hf : FlI own index ci j) (hw : Fw ci j ty) (hk : evK (xV X) a = ci) (ha : a < n) (hh : ad a = h0) (hn1 : narrow ty (.int x) = .int x) (hn2 : fits ty (.int x) = true) (h : GN X ad (pc + 3) lv st (sI μ a j x) z n k m) : GN X ad pc lv (.int x :: .ref h0 :: st) μ z n k m := by
  intro H locs ls hP hD hS hv
  subst hh
  obtain ⟨⟨C, T, N, h1, h2, h3, h4⟩, hci, hr, hj⟩ := hf
  obtain ⟨C2, T2, N2, ty0, g1, g2, g3, g4, g5⟩ := hw
  rw [h1] at g1; cases g1
  refine va_put (D := evD (xV X)) (ci := ci) (v := .int x) (ty := ty) (C := C) (T := T) (N := N) hX.1 hX.2.1 hX.2.2.2.2.1 h3 ty0 g2 g3 hX.2.2.2.1 hX.2.2.2.2.2.1 hP hD hS a ((wlG_get ha).trans (by rw [encG_obj (show evK (sA (xV X) ad) a = ci from hk) hci]; rfl)) h1 j h2 (hX.2.2.2.2.1 _ h4) (fun _ h9 => h9) g4 g5 hn1 hn2 (by simpa using hj) dg (fun H1 locs1 hP1 hD1 hS1 => ?_)
  have e := wlG_set (V := sA (xV X) ad) (μ := μ) (μ2 := sI μ a j x) (z := z) (z2 := z) ha (encG_sI_obj (show evK (sA (xV X) ad) a = ci from hk) hci hr) (fun b hb => encG_sI_ne hb)
  have hP2 : va_P (evD (xV X)) vwCl (wlG (sA (xV X) ad) (sI μ a j x) z n) H1 := by rw [← e]; exact hP1
  have hD2 : va_D (xA X) (wlG (sA (xV X) ad) (sI μ a j x) z n) := by rw [← e]; exact hD1
  exact h H1 locs1 ls hP2 hD2 hS1 hv
theorem gn_iast (hX : FN X cc own d mc ms) {a N i h0 : Nat} {x v : Int32} (dg : decode cc pc = .ok (.iastore, 1)) (hv1 : v = nI i) (hi : i < N) (hN : N < 100000) (hk : evK (xV X) a = 11) (hl : evL (xV X) a = N) (ha : a < n) (hh : ad a = h0) (h : GN X ad (pc + 1) lv st (sI μ a i x) z n k m) : GN X ad pc lv (.int x :: .int v :: .ref h0 :: st) μ z n k m := by
  intro H locs ls hP hD hS hv
  subst hh
  subst hv1
  refine va_iast hX.1 hX.2.1 hX.2.2.2.2.2.1 hP hD hS a 0 ((wlG_get ha).trans (by rw [encG_ai (show evK (sA (xV X) ad) a = 11 from hk) (show evL (sA (xV X) ad) a = N from hl)]; rfl)) rfl (vp_in_nI hi (by omega)) dg (fun H1 locs1 hP1 hD1 hS1 => ?_)
  have e := wlG_set (V := sA (xV X) ad) (μ := μ) (μ2 := sI μ a i x) (z := z) (z2 := z) ha (encG_sI_ai (show evK (sA (xV X) ad) a = 11 from hk) (show evL (sA (xV X) ad) a = N from hl)) (fun b hb => encG_sI_ne hb)
  rw [nI_clamp (by omega)] at hP1 hD1
  have hP2 : va_P (evD (xV X)) vwCl (wlG (sA (xV X) ad) (sI μ a i x) z n) H1 := by rw [← e]; exact hP1
  have hD2 : va_D (xA X) (wlG (sA (xV X) ad) (sI μ a i x) z n) := by rw [← e]; exact hD1
  exact h H1 locs1 ls hP2 hD2 hS1 hv
theorem gn_aast (hX : FN X cc own d mc ms) {a N i h0 v kk0 t0 ci : Nat} {w : Int32} {r : vw_C} (dg : decode cc pc = .ok (.aastore, 1)) (hv1 : w = nI i) (hi : i < N) (hN : N < 100000) (hk : evK (xV X) a = kk0) (hk0 : 12 < kk0) (hl : evL (xV X) a = N) (ht : (tysV (xV X))[t0]? = some (evC (xV X) kk0, .object r.1)) (hc : vwCl[ci]? = some r) (hci : ci < 11) (hkb : evK (xV X) (evR (xV X) a i) = ci) (hb : evR (xV X) a i < n) (ha : a < n) (hh : ad a = h0) (hv2 : ad (evR (xV X) a i) = v) (h : GN X ad (pc + 1) lv st μ (zu z a i) n k m) : GN X ad pc lv (.ref v :: .int w :: .ref h0 :: st) μ z n k m := by
  intro H locs ls hP hD hS hv
  subst hh
  subst hv1
  subst hv2
  refine va_astq hX.1 hX.2.1 hX.2.2.2.2.2.1 hP hD hS a t0 (evR (xV X) a i) ci ((wlG_get ha).trans (by rw [encG_ar (show evK (sA (xV X) ad) a = kk0 from hk) hk0 (show evL (sA (xV X) ad) a = N from hl)]; rfl)) ht ((wlG_get hb).trans (by rw [encG_obj (show evK (sA (xV X) ad) (evR (xV X) a i) = ci from hkb) hci]; rfl)) hc (vp_in_nI hi (by omega)) dg (fun H1 locs1 hP1 hD1 hS1 => ?_)
  have e := wlG_set (V := sA (xV X) ad) (μ := μ) (μ2 := μ) (z := z) (z2 := zu z a i) ha (encG_zu_ar (show evK (sA (xV X) ad) a = kk0 from hk) hk0 (show evL (sA (xV X) ad) a = N from hl)) (fun b hb => encG_zu_ne hb)
  rw [nI_clamp (by omega)] at hP1 hD1
  have hP2 : va_P (evD (xV X)) vwCl (wlG (sA (xV X) ad) μ (zu z a i) n) H1 := by rw [← e]; exact hP1
  have hD2 : va_D (xA X) (wlG (sA (xV X) ad) μ (zu z a i) n) := by rw [← e]; exact hD1
  exact h H1 locs1 ls hP2 hD2 hS1 hv
end
