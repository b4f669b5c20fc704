/-! the law's start: what the tables say, the two objects made, the whole walk -/
theorem TT_sub {w : Cond} (h : w ∈ TT) : w ∈ lw_tbl := (List.mem_filter.mp h).1
theorem known_of {s : State} {args : Array Value} {own : String} {index ci : Nat} (hts : ∀ w ∈ TT, w.before args s = true) (h : NwC own index ci) : ∃ (cC : ClassId) (iS : Nat → Nat), ∀ q : vw_C, vwCl[ci]? = some q → u_Kn s q.1 q.2.1 q.2.2 cC iS := by
  obtain ⟨C, T, ty, g1, g2, g3, g4, g5, g6, g7, g8⟩ := h
  obtain ⟨cC, iS, hk⟩ := u_known (C := C) (T := T) (N := nf ci) (n := nf ci) hts g2 (hts _ g5)
  exact ⟨cC, iS, fun q hq => by rw [g1] at hq; cases hq; exact hk⟩
theorem known_all {s : State} {args : Array Value} (hts : ∀ w ∈ TT, w.before args s = true) : ∀ k : Nat, ∃ (cC : ClassId) (iS : Nat → Nat), ∀ q : vw_C, vwCl[k]? = some q → u_Kn s q.1 q.2.1 q.2.2 cC iS := fun k =>
  match k with
  | 0 => known_of hts nw_X8_17
  | 1 => known_of hts nw_X0_9
  | 2 => known_of hts nw_X8_23
  | 3 => known_of hts nw_X4_15
  | 4 => known_of hts nw_X8_9
  | 5 => known_of hts nw_X9_21
  | 6 => known_of hts nw_X9_7
  | 7 => known_of hts nw_X6_9
  | 8 => known_of hts nw_X5_9
  | 9 => known_of hts nw_L_7
  | 10 => known_of hts nw_L_10
  | k + 11 => by
    obtain ⟨c, i, -⟩ := known_of hts nw_X8_17
    exact ⟨c, i, fun q hq => by rw [List.getElem?_eq_none (show vwCl.length ≤ k + 11 from Nat.le_add_left 11 k)] at hq; cases hq⟩
theorem arr_int {s : State} {args : Array Value} (h : (Cond.arrayClass .int).before args s = true) : ∃ cA : ClassId, ArrOfT s cA .int ∧ va_RA s cA .int := by
  obtain ⟨c, k, comp, h1, h2, h3⟩ := Cond.arrayClass_spec h
  exact ⟨c, fun n z => ⟨fun k h => (by cases h), k, h2, comp, h3⟩, h1⟩
theorem arr_long {s : State} {args : Array Value} (h : (Cond.arrayClass .long).before args s = true) : ∃ cA : ClassId, ArrOfT s cA .long ∧ va_RA s cA .long := by
  obtain ⟨c, k, comp, h1, h2, h3⟩ := Cond.arrayClass_spec h
  exact ⟨c, fun n z => ⟨fun k h => (by cases h), k, h2, comp, h3⟩, h1⟩
theorem arr_obj {s : State} {args : Array Value} {C : String} (h : (Cond.arrayOver (.object C)).before args s = true) : ∃ cA : ClassId, ArrOfT s cA (.object C) ∧ va_RA s cA (.object C) := by
  obtain ⟨comp, c, k, h1, h2, h3, h4, h5⟩ := Cond.arrayOver_spec h
  exact ⟨c, fun n z => ⟨fun k h => (by cases h), k, h3, comp, h4⟩, k, comp, h3, h4, h1, h5⟩
theorem nest_in : ∀ q ∈ nestL, Cond.methodLinkNest q.1 q.2.1 q.2.2 RX9 ∈ lw_tbl := by decide +kernel
theorem over_0 : Cond.arrayOver (.object RX0) ∈ lw_tbl := by decide +kernel
theorem over_3 : Cond.arrayOver (.object RX3) ∈ lw_tbl := by decide +kernel
theorem over_4 : Cond.arrayOver (.object RX4) ∈ lw_tbl := by decide +kernel
theorem arrc_i : Cond.arrayClass .int ∈ lw_tbl := by decide +kernel
theorem arrc_l : Cond.arrayClass .long ∈ lw_tbl := by decide +kernel
theorem NW_of {s : State} {args : Array Value} (hts : ∀ w ∈ lw_tbl, w.before args s = true) : NW s := fun q hq => va_Nw.of rfl (hts _ (nest_in q hq))
theorem AO_of {s : State} {args : Array Value} (hts : ∀ w ∈ lw_tbl, w.before args s = true) : AO s := ⟨va_AO.of (hts _ over_0), va_AO.of (hts _ over_3), va_AO.of (hts _ over_4)⟩
theorem known_K {s : State} {args : Array Value} (hts : ∀ w ∈ lw_tbl, w.before args s = true) : ∃ (D : va_G) (C : Nat → ClassId), va_K D vwCl [(C 11, .int), (C 12, .long), (C 13, .object RX0), (C 14, .object RX3), (C 15, .object RX4)] s := by
  have hk := known_all (s := s) (args := args) (fun w h => hts w (TT_sub h))
  obtain ⟨c1, a1⟩ := arr_int (hts _ arrc_i)
  obtain ⟨c2, a2⟩ := arr_long (hts _ arrc_l)
  obtain ⟨c3, a3⟩ := arr_obj (hts _ over_0)
  obtain ⟨c4, a4⟩ := arr_obj (hts _ over_3)
  obtain ⟨c5, a5⟩ := arr_obj (hts _ over_4)
  refine ⟨(fun k => Classical.choose (hk k), fun k => Classical.choose (Classical.choose_spec (hk k))), fun k => if k = 11 then c1 else if k = 12 then c2 else if k = 13 then c3 else if k = 14 then c4 else c5, fun c q hq => Classical.choose_spec (Classical.choose_spec (hk c)) q hq, fun k q hq => ?_⟩
  match k, hq with
  | 0, hq => cases hq; exact a1
  | 1, hq => cases hq; exact a2
  | 2, hq => cases hq; exact a3
  | 3, hq => cases hq; exact a4
  | 4, hq => cases hq; exact a5
  | k + 5, hq => simp at hq
section
variable {p : Program} {l : Launch} {e : Env} {s : State} {m : MethodId} {args : Array Value} {below : List Frame} {meth : Method} {c : Code} {Q : State → Prop}
def L0 (p : Program) (s : State) (m : MethodId) (c : Code) (args : Array Value) : Prop := p.tables.exec = Jvm.exec ∧ c.code = cL_law ∧ c.maxLocals = 4 ∧ s.vm.findClass RL = some m.cls ∧ (∀ w ∈ TT, w.before args s = true) ∧ NW s ∧ AO s
/-- the first cell of a world -/
theorem wlG_one {V : Ev} {q ci : Nat} (hk : evK V 0 = ci) (hci : ci < 11) : wlG (sA V (fun _ => q)) μ0 z0 1 = [(q, .inr (ci, f0 ci))] := by
  have e : encG (sA V (fun _ => q)) μ0 z0 0 = .inr (ci, f0 ci) := by
    rw [encG_obj (show evK (sA V (fun _ => q)) 0 = ci from hk) hci]
    congr 2
    unfold f0
    apply List.map_congr_left
    intro j _
    have hk2 : evK (sA V (fun _ => q)) 0 = ci := hk
    unfold encGF
    rw [hk2]
    rfl
  show [(q, encG (sA V (fun _ => q)) μ0 z0 0)] = _
  rw [e]
/-- an object is made and its constructor called -/
theorem law_new (h0 : L0 p s m c args) {V : Ev} (hK : va_K (evD V) vwCl (tysV V) s) {ws : va_W} {H : Heap} {locs : List Loc} {ls : Array Slot} {lv : List (Nat × Value)} {st : List Value} {cells slots pc index ix2 ci n2 maxL dc mc ms : Nat} {y : MethodName} {bytes : ByteArray} {μ2 : Mem} {z2 : Zt}
    (hP : va_P (evD V) vwCl ws H) (hD : va_D (fun q : Nat => s.heap.size ≤ q) ws) (hS : va_S (fun q : Nat => s.heap.size ≤ q) s.heap H locs) (hv : lv_has ls 4 lv) (dg0 : decode cL_law pc = .ok (.new index, 3)) (dg1 : decode cL_law (pc + 3) = .ok (.dup, 1)) (dg2 : decode cL_law (pc + 4) = .ok (.invokespecial ix2, 3)) (hw : NwC RL index ci) (hk : evK V 0 = ci)
    (hM : ∀ ad : Nat → Nat, KT l (sA V ad) y bytes maxL dc mc ms [.ref (ad 0)] μ0 z0 1 μ2 z2 n2) (hmw : Mw y bytes maxL none 0) (him : Cond.instanceMethod y ∈ TT) (hy : y.name = "<init>") (hl : Cond.methodLink RL ix2 y ∈ TT) (hd : dc ≤ 60) (hm : maxL ≤ 21) (hn2 : evN V = n2) (hfull : ∀ a, a < n2 → fullA (evK V a) (evL V a) (z2 a) = true) (hs : (st.map fun v => v.category).sum ≤ 7) (hc1 : cells + 1 + mc ≤ 600000) (hc2 : slots + nf ci + ms ≤ 7302250)
    (kk : ∀ (ad : Nat → Nat) (H2 : Heap) (locs2 : List Loc), va_P (evD V) vwCl ws H2 → va_P (evD V) vwCl (wl (sA V ad) μ2) H2 → va_D (fun q : Nat => s.heap.size ≤ q) (wl (sA V ad) μ2) → (∀ (i : Nat) (x : Nat × va_E) (a : Nat), ws[i]? = some x → a < n2 → x.1 ≠ ad a) → va_S (fun q : Nat => s.heap.size ≤ q) s.heap H2 locs2 → W p l e room_1 s m args below meth c H2 locs2 (cells + 1 + mc) (slots + nf ci + ms) Q (F0 m (pc + 7) ls (.ref (ad 0) :: st))) : W p l e room_1 s m args below meth c H locs cells slots Q (F0 m pc ls st) := by
  obtain ⟨hx, hb, hml, hown, hts, hN, hAO⟩ := h0
  obtain ⟨C, T, ty, g1, g2, g3, g4, g5, g6, g7, g8⟩ := hw
  refine va_new (ci := ci) (fs := f0 ci) (C := C) (T := T) (N := nf ci) hx hb hts g2 ty g3 hown (hts _ g4) (hts _ g5) (hts _ g6) hK hP hD hS (fun _ h => h) g1 g7 (by show cells + 1 ≤ 600000; omega) (by show slots + nf ci ≤ 7302250; omega) dg0 (fun q H1 hP1 hD1 hS1 => ?_)
  have hlast : (ws ++ [(q, (Sum.inr (ci, f0 ci) : va_E))])[ws.length]? = some (q, .inr (ci, f0 ci)) := by
    rw [List.getElem?_append_right (Nat.le_refl _), Nat.sub_self]; rfl
  have hin : ∀ (k : Nat) (x : Nat × va_E), ws[k]? = some x → k < ws.length ∧ (ws ++ [(q, (Sum.inr (ci, f0 ci) : va_E))])[k]? = some x := fun k x hx1 => by
    have hlt : k < ws.length := (List.getElem?_eq_some_iff.mp hx1).1
    exact ⟨hlt, by rw [List.getElem?_append_left hlt]; exact hx1⟩
  have hPw : va_P (evD V) vwCl ws H1 := fun k x hx1 => hP1 k x (hin k x hx1).2
  have e0 := wlG_one (V := V) (q := q) hk g8
  have hPn : va_P (evD V) vwCl (wlG (sA V (fun _ => q)) μ0 z0 1) H1 := by
    rw [e0]
    intro k x hx1
    have hz : k < 1 := (List.getElem?_eq_some_iff.mp hx1).1
    have hk0 : k = 0 := by omega
    rw [hk0] at hx1
    cases hx1
    exact hP1 ws.length _ hlast
  have hDn : va_D (fun _ => True) (wlG (sA V (fun _ => q)) μ0 z0 1) := by
    rw [e0]
    refine ⟨fun i j x y hi hj _ => ?_, fun _ _ _ => trivial⟩
    have h1 : i < 1 := (List.getElem?_eq_some_iff.mp hi).1
    have h2 : j < 1 := (List.getElem?_eq_some_iff.mp hj).1
    omega
  have hq : s.heap.size ≤ q := hD1.2 ws.length _ hlast
  have hne : ∀ (i : Nat) (x : Nat × va_E), ws[i]? = some x → x.1 ≠ q := fun i x hx1 he => by
    have h1 := hin i x hx1
    have h2 := hD1.1 i ws.length x _ h1.2 hlast he
    omega
  refine lv_dup hx hb dg1 rfl ?_
  have hr : va_Run p l e room_1 s m args below meth c H1 locs (cells + 1) (slots + nf ci) mc ms (F0 m (pc + 4) ls (.ref q :: .ref q :: st)) (.ref q :: st) (QctN (sA V (fun _ => q)) 1 H1.size μ2 z2 n2 #[.ref q]) (AAn (sA V (fun _ => q)) 1 H1.size) := by
    obtain ⟨f1, f2, f3⟩ := hmw
    refine va_runI (As := []) (rest := .ref q :: st) (n := 0) ⟨hx, hb, hml, hown, hts⟩ (hM (fun _ => q) H1.size) ⟨callB_of 0 hts (gi_code f2) rfl rfl rfl (hts _ f1) (hts _ hl) f3 ⟨?_, ?_⟩, hy, hts _ him⟩ ⟨pctN_blind, fun U hU hW => ⟨rfl, by rw [hU], by rw [hU]; exact hPn, va_K.moved hW.alike hK, hDn, NW.warm hW hN, AO.moved hW.alike hAO⟩⟩ rfl rfl hv.1 rfl (lv_room ?_) dg2 ⟨?_, ?_⟩
    · show dc + 1 ≤ 2048; omega
    · show 8 + (maxL + 11) + 40 * dc ≤ 84000; omega
    · show (Value.category (.ref q) :: st.map fun v => v.category).sum ≤ 8
      rw [List.sum_cons]
      show 1 + (st.map fun v => v.category).sum ≤ 8
      omega
    · exact hc1
    · exact hc2
  intro T2 hT X1
  obtain ⟨v, st₀, t, T', Lc, h0', X2, hLc, e1, e2, ⟨hv1, ⟨ad2, ha2, hP2, hD2⟩, hz, hkp⟩, stp⟩ := hr T2 hT X1
  cases hv1
  rw [h0'] at hz hkp
  have hAA : ∀ q2, AAn (sA V (fun _ => q)) 1 H1.size q2 → s.heap.size ≤ q2 := by
    intro q2 hq2
    rcases hq2 with ⟨a, ha, rfl⟩ | hq2
    · exact hq
    · exact Nat.le_trans hS1.1 hq2
  have hq0 : ad2 0 = q := ha2 0 (by decide)
  have hfin := kk ad2 T'.heap (locs ++ Lc) (fun k x hx1 => by
      have hat := hPw k x hx1
      refine hat.kept ?_
      rw [e1]
      refine hkp _ hat.lt (fun hz1 => ?_)
      rcases hz1 with ⟨a, ha, hz1⟩ | hz1
      · exact hne k x hx1 hz1
      · exact absurd hz1 (Nat.not_le.mpr hat.lt))
    (va_P_full (V := sA V ad2) hn2 hfull (by rw [e1]; exact hP2)) (va_D_full (V := sA V ad2) hn2 (hD2.weaken (fun _ x _ h => hAA x.1 h)))
    (fun i x a hx1 ha he => by
      have hA2 := hD2.2 a _ (wlG_get ha)
      rcases hA2 with ⟨a0, ha0, hz1⟩ | hz1
      · exact hne i x hx1 (he.trans hz1)
      · have hlt : x.1 < H1.size := (hPw i x hx1).lt
        have hz2 : H1.size ≤ ad2 a := hz1
        omega)
    ⟨Nat.le_trans hS1.1 (by rw [e1]; exact hz), fun q2 h1 h2 => by rw [e1, hkp q2 (Nat.lt_of_lt_of_le h1 hS1.1) (fun z => h2 (hAA q2 z))]; exact hS1.2.1 q2 h1 h2, fun q2 hq2 => by
      rcases List.mem_append.mp hq2 with h | h
      · exact hS1.2.2 q2 h
      · exact hAA _ (hLc q2 h)⟩
  rw [hq0] at hfin
  obtain ⟨t2, a1, b1⟩ := hfin T' rfl X2
  exact ⟨t2, stp t2 a1, b1⟩
end
/-- THE LAW, from its entry: for every script of at most 3584 ints it comes to its end with true -/
theorem whole_start {p : Program} {e : Env} {s : State} {m : MethodId} {below : List Frame} {meth : Method} {c : Code} (l : Launch) {b L : Nat} {xs : Nat → Int32} (hL : L ≤ 3584) (C0 : lw_At p s m meth c b L xs) : W p l e room_1 s m #[Value.ref b] below meth c s.heap [] 0 0 (lw_Z below #[Value.ref b] s) (entryFrame m ([Value.ref b] : List Value).toArray 4) := by
  obtain ⟨hx, hb, hr, hml, hown, hts, hX, hbl, hlocks, hgv⟩ := C0
  obtain ⟨D, C, hK⟩ := known_K hts
  have h0 : L0 p s m c #[Value.ref b] := ⟨hx, hb, hml, hown, fun w h => hts w (TT_sub h), NW_of hts, AO_of hts⟩
  have hl := lv_entry ([.ref b]) (n := 4) (Nat.le_of_ble_eq_true rfl)
  rw [lg_entry_eq]
  generalize (lg_sl ([.ref b]) ++ List.replicate (4 - (lg_sl ([.ref b])).length) Slot.unset).toArray = ls at hl ⊢
  have hl : lv_has ls 4 [(0, .ref b)] := hl
  refine law_new (V := ((fun _ => 0), D, C, lyK)) (ws := []) (ci := 9) (n2 := 93) (mc := 92) (ms := 5902) (μ2 := mK μ0) (z2 := zX z0) h0 hK (fun k q h => by simp at h) ⟨fun i j x y h => by simp at h, fun k q h => by simp at h⟩ va_S.rf hl dL_law_0 dL_law_3 dL_law_4 nw_L_7 (ekK rfl rfl) (fun ad => k_X9 (V := (ad, D, C, lyK)) rfl okB_0 mB_0) mwI_X9 imI_X9 rfl mlL_X9_init (by decide) (by decide) rfl (fullC (V := ((fun _ => 0), D, C, lyK)) rfl) (Nat.le_of_ble_eq_true rfl) (Nat.le_of_ble_eq_true rfl) (Nat.le_of_ble_eq_true rfl) (fun adk H locs _ hPk hDk _ hS => ?_)
  obtain ⟨adc, hadc⟩ : ∃ adc : Nat → Nat, adc = fun b => adk (pC b) := ⟨_, rfl⟩
  have hPc : va_P D vwCl (wl (adc, D, C, lyC) (mX μ0)) H := by rw [hadc]; exact perm_P hPk
  have hDc : va_D (fun q : Nat => s.heap.size ≤ q) (wl (adc, D, C, lyC) (mX μ0)) := by rw [hadc]; exact perm_D hDk
  have hc0 : adk 0 = adc 0 := by rw [hadc]; rfl
  rw [hc0]
  refine lv_astore_n (lv' := [(1, .ref (adc 0)), (0, .ref b)]) hx hb dL_law_7 rfl hl (by decide) rfl (fun ls hl => ?_)
  refine law_new (V := ((fun _ => 0), D, C, lyM)) (ws := wl (adc, D, C, lyC) (mX μ0)) (ci := 10) (n2 := 52) (mc := 51) (ms := 50487) (μ2 := mM μ0) (z2 := zM z0) h0 hK hPc hDc hS hl dL_law_8 dL_law_11 dL_law_12 nw_L_10 (ekM rfl rfl) (fun ad => k_X10 (V := (ad, D, C, lyM)) rfl okB_0 mB_0) mwI_X10 imI_X10 rfl mlL_X10_init (by decide) (by decide) rfl (fullM (V := ((fun _ => 0), D, C, lyM)) rfl) (Nat.le_of_ble_eq_true rfl) (Nat.le_of_ble_eq_true rfl) (Nat.le_of_ble_eq_true rfl) (fun adm H locs hPc hPm hDm hap hS => ?_)
  refine lv_astore_n (lv' := [(2, .ref (adm 0)), (1, .ref (adc 0)), (0, .ref b)]) hx hb dL_law_15 rfl hl (by decide) rfl (fun ls hl => ?_)
  refine lv_iconst (v := nI 0) hx hb dL_law_16 (by decide) ?_
  refine lv_istore_n (lv' := [(3, .int (nI 0)), (2, .ref (adm 0)), (1, .ref (adc 0)), (0, .ref b)]) hx hb dL_law_17 rfl hl (by decide) rfl (fun ls hl => ?_)
  refine W.widen (k := 600000) (n := 7302250) (Nat.le_of_ble_eq_true rfl) (Nat.le_of_ble_eq_true rfl) ?_
  have hE : ∀ (i : Nat) (μ1 μ2 : Mem), LG (p, l, e, room_1, s, m, #[Value.ref b], below, meth, c, 4, (adc, D, C, lyC), (fun q : Nat => s.heap.size ≤ q), lw_Z below #[Value.ref b] s) (adm, D, C, lyM) 1034 (lvL (p, l, e, room_1, s, m, #[Value.ref b], below, meth, c, 4, (adc, D, C, lyC), (fun q : Nat => s.heap.size ≤ q), lw_Z below #[Value.ref b] s) (adm, D, C, lyM) b i) [] μ1 μ2 := fun i μ1 μ2 H2 locs2 ls2 _ _ hS2 _ => lv_iconst (v := 1) hx hb dL_law_1034 (by decide) (va_forget (fun q hq => hS2.2.2 q hq) (lw_ret hx hb hr hlocks dL_law_1035))
  have HX : FL (p, l, e, room_1, s, m, #[Value.ref b], below, meth, c, 4, (adc, D, C, lyC), (fun q : Nat => s.heap.size ≤ q), lw_Z below #[Value.ref b] s) (adm, D, C, lyM) b L xs := ⟨hx, hb, hml, hown, fun w h => hts w (TT_sub h), fun _ h => h, rfl, NW_of hts, ⟨hK, fun a ha => hDc.2 a _ (wl_get ha), fun μ => wl_D (hDc.weaken (fun _ _ _ _ => trivial))⟩, ⟨hK, fun a ha => hDm.2 a _ (wl_get ha), fun μ => wl_D (hDm.weaken (fun _ _ _ _ => trivial))⟩, fun a c ha hc => hap a _ c (wl_get ha) hc, hX, hbl, Nat.not_le.mpr hbl⟩
  exact law_loop HX rfl rfl hL hE 513 0 (mX μ0) (mM μ0) (Nat.zero_le _) (Nat.le_refl _) sim0 H locs ls hPc hPm hS (lv_sub hl [3, 2, 1, 0] rfl)
