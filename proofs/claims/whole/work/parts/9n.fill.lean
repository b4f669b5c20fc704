/-! a row is filled while the world grows; the Planner -/
def fillF (μ : Mem) (p : Nat) (v : Int32) : Nat → Mem
  | 0 => μ
  | k+1 => sI (fillF μ p v k) p k v
theorem fillF_eq {n0 p : Nat} {v : Int32} {μ : Mem} (h0 : n0 < 8000) : f_J7_fill_53178 n0 p v μ = some (fillF μ p v n0) := by
  have key : ∀ (m n k : Nat), k + m = n0 → m < n → f_J7_fill_53178_L5 n0 p v (nI n0) (fun μ3 => some μ3) n (nI k) (fillF μ p v k) = some (fillF μ p v n0) := by
    intro m
    induction m with
    | zero =>
      intro n k hk hn
      obtain ⟨n', rfl⟩ : ∃ n', n = n' + 1 := ⟨n - 1, by omega⟩
      have : k = n0 := by omega
      subst this
      rw [f_J7_fill_53178_L5, if_pos (nI_le (by omega) (by omega))]
    | succ m ih =>
      intro n k hk hn
      obtain ⟨n', rfl⟩ : ∃ n', n = n' + 1 := ⟨n - 1, by omega⟩
      rw [f_J7_fill_53178_L5, if_neg (nI_ge (by omega) (by omega)), wI_nI (by omega) (by omega), bi_some, nI_s]
      exact ih n' (k + 1) (by omega) (by omega)
  exact key n0 FU 0 (by omega) (show n0 < 8192 by omega)
theorem fillF_2 {μ : Mem} {p : Nat} {v : Int32} : ∀ k, (fillF μ p v k).2 = μ.2 := by
  intro k
  induction k with
  | zero => rfl
  | succ k ih => exact ih
theorem fillF_ne {μ : Mem} {p b : Nat} {v : Int32} (h : b ≠ p) : ∀ k, (fillF μ p v k).1 b = μ.1 b := by
  intro k
  induction k with
  | zero => rfl
  | succ k ih => show (sI (fillF μ p v k) p k v).1 b = μ.1 b; rw [sI_pl h]; exact ih
theorem fillF_row {μ μ1 : Mem} {p p1 : Nat} {v : Int32} (h : μ.1 p = μ1.1 p1) : ∀ k, (fillF μ p v k).1 p = (fillF μ1 p1 v k).1 p1 := by
  intro k
  induction k with
  | zero => exact h
  | succ k ih =>
    show (sI (fillF μ p v k) p k v).1 p = (sI (fillF μ1 p1 v k) p1 k v).1 p1
    rw [sI_row, sI_row, ih]
set_option maxHeartbeats 4000000 in
set_option maxRecDepth 100000 in
theorem g_fillG {X : Cx} (hX : Fx X cJ7_fill_53178 RJ7 0) (hn : xn X = 4) {μZ : Mem} (hR : Rt X none μZ none) {n0 : Nat} {b0 : Nat} {v1 : Int32} {v3 : Int32} (kb0 : evK (xV X) b0 = 11) (nb0 : evL (xV X) b0 = n0) {K : Mem → Option (Mem)} (hK : ∀ (μ : Mem), K μ = some μZ → Gd X 20 [] [] μ) : ∀ (n : Nat) (v2 : Int32) (μ : Mem), f_J7_fill_53178_L5 n0 b0 v1 v3 K n v2 μ = some μZ → Gd X 5 [(0, .ref (evA (xV X) b0)), (1, .int v1), (2, .int v2), (3, .int v3)] [] μ := by
  intro n
  induction n with
  | zero => intro _ _ h; rw [f_J7_fill_53178_L5] at h; cases h
  | succ n ih =>
    intro v2 μ h
    rw [f_J7_fill_53178_L5] at h
    refine so_iload_n (pc := 5) hX dJ7_fill_53178_5 2 rfl ?_
    refine so_iload_n (pc := 6) hX dJ7_fill_53178_6 3 rfl ?_
    refine so_icmp_ge (pc := 7) hX 20 dJ7_fill_53178_7 (by decide) (fun hc1 => ?_) (fun hc1 => ?_)
    · have h := ip hc1 h
      refine so_sub (pc := 20) (lv' := []) [] rfl ?_
      exact hK _ h
    · have h := iq hc1 h
      refine so_aload_n (pc := 10) hX dJ7_fill_53178_10 0 rfl ?_
      refine so_iload_n (pc := 11) hX dJ7_fill_53178_11 2 rfl ?_
      refine so_iload_n (pc := 12) hX dJ7_fill_53178_12 1 rfl ?_
      obtain ⟨μ2, hr, h⟩ := ob h
      refine so_iast (pc := 13) hX dJ7_fill_53178_13 kb0 nb0 hr ?_
      refine so_iinc (pc := 14) hX dJ7_fill_53178_14 2 (1 : Int32) [(2, .int (v2 + (1 : Int32))), (0, .ref (evA (xV X) b0)), (1, .int v1), (3, .int v3)] rfl (by decide) (by rw [hn]; decide) rfl ?_
      refine so_goto (pc := 17) hX 5 dJ7_fill_53178_17 (by decide) ?_
      refine so_sub (pc := 5) (lv' := [(0, .ref (evA (xV X) b0)), (1, .int v1), (2, .int (v2 + (1 : Int32))), (3, .int v3)]) [1, 2, 0, 3] rfl ?_
      exact ih _ _ h
set_option maxHeartbeats 4000000 in
set_option maxRecDepth 100000 in
theorem c_fillG {l : Launch} {V : Ev} (hV : ∀ a, evK V a < 16 → a < evN V) {n0 : Nat} {a0 : Nat} {v1 : Int32} (ka0 : evK V a0 = 11) (na0 : evL V a0 = n0) {μ : Mem} {μZ : Mem} (h : f_J7_fill_53178 n0 a0 v1 μ = some μZ) : CT l V yJ7_fill_53178 cJ7_fill_53178 4 none 0 [.ref (evA V a0), .int v1] μ μZ none := by
  refine so_met [(0, .ref (evA V a0)), (1, .int v1)] (by decide) (Nat.le_of_ble_eq_true rfl) hV rfl ?_
  intro X hl hV2 hn hX hR
  subst hl hV2
  unfold f_J7_fill_53178 at h
  refine so_iconst (v := (0 : Int32)) (pc := 0) hX dJ7_fill_53178_0 (by decide) ?_
  refine so_istore_n (pc := 1) hX dJ7_fill_53178_1 [(2, .int (0 : Int32)), (0, .ref (evA (xV X) a0)), (1, .int v1)] (by rw [hn]; decide) rfl ?_
  refine so_aload_n (pc := 2) hX dJ7_fill_53178_2 1 rfl ?_
  refine so_alenI (pc := 3) hX dJ7_fill_53178_3 ka0 na0 ?_
  refine so_istore_n (pc := 4) hX dJ7_fill_53178_4 [(3, .int (nI n0)), (2, .int (0 : Int32)), (0, .ref (evA (xV X) a0)), (1, .int v1)] (by rw [hn]; decide) rfl ?_
  refine so_sub (pc := 5) (lv' := [(0, .ref (evA (xV X) a0)), (1, .int v1), (2, .int (0 : Int32)), (3, .int (nI n0))]) [2, 3, 1, 0] rfl ?_
  refine g_fillG hX hn hR ka0 na0 (fun μ3 h => ?_) FU _ _ h
  exact so_vretH (pc := 20) hX hR h dJ7_fill_53178_20
def ly1 (N : Nat) : Ly := (1, fun a => if a = 0 then 11 else 99, fun _ => N, fun _ _ => 0)
theorem gn_fill {X : Cx} {cc : ByteArray} {own : String} {d mc ms pc : Nat} {ad : Nat → Nat} {lv : List (Nat × Value)} {rest : List Value} {μ : Mem} {z : Zt} {n k m : Nat} (hX : FN X cc own d mc ms) {p N index h0 : Nat} {v : Int32} (dg : decode cc pc = .ok (.invokestatic index, 3)) (hl : Cond.methodLink own index yJ7_fill_53178 ∈ TT) (hk : evK (xV X) p = 11) (hln : evL (xV X) p = N) (hN : N < 8000) (hp : p < n) (hh : ad p = h0) (hd : 1 ≤ d) (hs : (rest.map fun v => v.category).sum ≤ 8) (hc1 : k ≤ mc) (hc2 : m ≤ ms) (h : GN X ad (pc + 3) lv rest (fillF μ p v N) z n k m) : GN X ad pc lv (.int v :: .ref h0 :: rest) μ z n k m := by
  subst hh
  intro H locs ls hP hD hS hv T hT X1
  have hts := hX.2.2.2.2.1
  have hR := hX.2.2.2.2.2.2.2.1
  obtain ⟨V1, hV1⟩ : ∃ V1 : Ev, V1 = (fun _ => ad p, evD (xV X), evC (xV X), ly1 N) := ⟨_, rfl⟩
  obtain ⟨μ1, hμ1⟩ : ∃ μ1 : Mem, μ1 = (fun _ => μ.1 p, fun _ _ => 0) := ⟨_, rfl⟩
  have k1 : evK V1 0 = 11 := by rw [hV1]; rfl
  have l1 : evL V1 0 = N := by rw [hV1]; rfl
  have n1 : evN V1 = 1 := by rw [hV1]; rfl
  have a1 : evA V1 0 = ad p := by rw [hV1]
  have hw1 : ∀ ν : Mem, wl V1 ν = [(ad p, .inl (evC (xV X) 11, N, .inl (ν.1 0)))] := by
    intro ν
    unfold wl
    rw [n1]
    show [(evA V1 0, enc V1 ν 0)] = _
    rw [enc_ai k1 l1, a1, hV1]
  have hcell : (wlG (sA (xV X) ad) μ z n)[p]? = some (ad p, .inl (evC (xV X) 11, N, .inl (μ.1 p))) := (wlG_get hp).trans (by rw [encG_ai (show evK (sA (xV X) ad) p = 11 from hk) (show evL (sA (xV X) ad) p = N from hln)]; rfl)
  have hM := c_fillG (l := xl X) (V := V1) (a0 := 0) (v1 := v) (by
    intro a ha
    rw [n1]
    by_cases h0 : a = 0
    · omega
    · have : evK V1 a = 99 := by rw [hV1]; exact if_neg h0
      omega) k1 l1 (μ := μ1) (fillF_eq (p := 0) (v := v) (μ := μ1) hN)
  rw [a1] at hM
  obtain ⟨g1, g2, g3⟩ := mw_J7_fill_53178
  have hr := va_runS (As := [.ref (ad p), .int v]) (rest := rest) (n := 2) (p := xp X) (l := xl X) (e := xe X) (R := xR X) (s := xs X) (m := xm X) (args := xa X) (below := xb X) (meth := xme X) (c := xc X) (H := H) (locs := locs) (cells := k) (slots := m) (g := F0 (xm X) pc ls (.int v :: .ref (ad p) :: rest)) ⟨hX.1, hX.2.1, hX.2.2.1, hX.2.2.2.1, hts⟩ (hM H.size) ⟨callB_of 2 hts (gi_code g2) rfl rfl rfl (hts _ g1) (hts _ hl) g3 (by rw [hR]; unfold rmN rm; exact ⟨hd, by show 8 + (4 + 11) + 40 * 0 ≤ 40 * d; omega⟩), hts _ ms_J7_fill_53178⟩ ⟨pct_blind, fun U hU hW => ⟨rfl, by rw [hU], by
      rw [hU, hw1, hV1]
      intro i q hq
      have hi : i = 0 := by
        have : i < 1 := (List.getElem?_eq_some_iff.mp hq).1
        omega
      subst hi
      cases hq
      rw [hμ1]
      exact hP p _ hcell, by
      rw [hV1]
      exact va_K.moved hW.alike hX.2.2.2.2.2.1, by
      rw [hw1]
      exact ⟨fun i j x y hi hj _ => by
        have h1 : i < 1 := (List.getElem?_eq_some_iff.mp hi).1
        have h2 : j < 1 := (List.getElem?_eq_some_iff.mp hj).1
        omega, fun _ _ _ => trivial⟩, NW.warm hW hX.2.2.2.2.2.2.2.2.2.1⟩⟩ rfl rfl hv.1 rfl (lv_room hs) dg ⟨by rw [hR]; exact hc1, by rw [hR]; exact hc2⟩
  obtain ⟨vv, st₀, t, T', L, h0, X2, hLL, e1, e2, ⟨hv1, hP2, hz, hkk⟩, st⟩ := hr T hT X1
  cases hv1
  rw [h0] at hz hkk
  have hAA : ∀ q, AA V1 H.size q → xA X q := by
    intro q hq
    rcases hq with ⟨a, ha, rfl⟩ | hq
    · have : a = 0 := by rw [n1] at ha; omega
      subst this
      rw [a1]
      exact hD.2 p _ hcell
    · exact hX.2.2.2.2.2.2.1 q (Nat.le_trans hS.1 hq)
  have hrow : (fillF μ p v N).1 p = (fillF μ1 0 v N).1 0 := fillF_row (by rw [hμ1]) N
  have henc : ∀ b, b ≠ p → encG (sA (xV X) ad) (fillF μ p v N) z b = encG (sA (xV X) ad) μ z b := by
    intro b hb
    have f1 : (fillF μ p v N).1 b = μ.1 b := fillF_ne hb N
    have f2 : (fillF μ p v N).2 = μ.2 := fillF_2 N
    have f3 : encGF (sA (xV X) ad) (fillF μ p v N) z b = encGF (sA (xV X) ad) μ z b := by funext i; unfold encGF; rw [f1]
    unfold encG; rw [f3, f1, f2]
  have hP3 : va_P (evD (xV X)) vwCl (wlG (sA (xV X) ad) (fillF μ p v N) z n) T'.heap := by
    rw [e1]
    intro i q hq
    by_cases hi : i < n
    · rw [wlG_get hi] at hq
      cases hq
      by_cases hip : i = p
      · subst hip
        have hx := hP2 0 (ad i, .inl (evC (xV X) 11, N, .inl ((fillF μ1 0 v N).1 0))) (by rw [hw1]; rfl)
        rw [hV1] at hx
        rw [encG_ai (show evK (sA (xV X) ad) i = 11 from hk) (show evL (sA (xV X) ad) i = N from hln), hrow]
        exact hx
      · rw [henc i hip]
        have hq0 := wlG_get (V := sA (xV X) ad) (μ := μ) (z := z) hi
        have hat := hP i _ hq0
        refine hat.kept (hkk _ hat.lt (fun hz2 => ?_))
        rcases hz2 with ⟨a, ha, hz2⟩ | hz2
        · have : a = 0 := by rw [n1] at ha; omega
          subst this
          rw [a1] at hz2
          exact hip (hD.1 i p _ _ hq0 hcell hz2)
        · have := hat.lt
          exact absurd hz2 (Nat.not_le.mpr this)
    · unfold wlG at hq; rw [List.getElem?_eq_none (by simpa using hi)] at hq; cases hq
  have hD3 : va_D (xA X) (wlG (sA (xV X) ad) (fillF μ p v N) z n) := by
    have key : ∀ (i : Nat) (q : Nat × va_E), (wlG (sA (xV X) ad) (fillF μ p v N) z n)[i]? = some q → ∃ q0 : Nat × va_E, (wlG (sA (xV X) ad) μ z n)[i]? = some q0 ∧ q0.1 = q.1 := by
      intro i q hq
      by_cases hi : i < n
      · rw [wlG_get hi] at hq; cases hq; exact ⟨_, wlG_get hi, rfl⟩
      · unfold wlG at hq; rw [List.getElem?_eq_none (by simpa using hi)] at hq; cases hq
    refine ⟨fun i j x y hi hj hxy => ?_, fun i q hq => ?_⟩
    · obtain ⟨x0, h1, h2⟩ := key i x hi
      obtain ⟨y0, h3, h4⟩ := key j y hj
      exact hD.1 i j x0 y0 h1 h3 (h2.trans (hxy.trans h4.symm))
    · obtain ⟨q0, h1, h2⟩ := key i q hq
      rw [← h2]; exact hD.2 i q0 h1
  obtain ⟨t2, b1, b2⟩ := h T'.heap (locs ++ L) ls hP3 hD3 ⟨Nat.le_trans hS.1 (by rw [e1]; exact hz), fun q h1 h2 => by rw [e1, hkk q (Nat.lt_of_lt_of_le h1 hS.1) (fun z => h2 (hAA q z))]; exact hS.2.1 q h1 h2, fun q hq => by
      rcases List.mem_append.mp hq with h | h
      · exact hS.2.2 q h
      · exact hAA _ (hLL q h)⟩ hv T' rfl X2
  exact ⟨t2, st t2 b1, b2⟩
