/-! plan: the model places doors -/
def plF (μ r : Mem) : Prop := (∀ b, 1 ≤ b → b < 16 ∨ 24 ≤ b → b ≠ 48 → r.1 b = μ.1 b) ∧ ∀ j, j ≠ 15 → j ≠ 60 → j ≠ 61 → j ≠ 62 → r.1 0 j = μ.1 0 j
theorem plF.rf {μ : Mem} : plF μ μ := ⟨fun _ _ _ _ => rfl, fun _ _ _ _ _ => rfl⟩
theorem plF.tr {a b c : Mem} (h1 : plF a b) (h2 : plF b c) : plF a c := ⟨fun q p1 p2 p3 => (h2.1 q p1 p2 p3).trans (h1.1 q p1 p2 p3), fun q p1 p2 p3 p4 => (h2.2 q p1 p2 p3 p4).trans (h1.2 q p1 p2 p3 p4)⟩
theorem ML_pf {μ r : Mem} {L : Nat → Option LogD} (h : plF μ r) (H : ML μ L) : ML r L := ML_of (fun b h1 h2 => h.1 b h1 (by omega) (by omega)) H
theorem MD_pf {μ r : Mem} {Dr : Nat → Option DoorD} (h : plF μ r) (H : MD μ Dr) : MD r Dr := MD_of (fun b h1 h2 => h.1 b (by omega) (by omega) (by omega)) H
theorem stop0 {v1 v2 v4 : Int32} {n : Nat} {μ : Mem} {K : Int32 → Mem → Option (Int32 × Mem)} : f_X10_isPlaced_L10 v1 v2 K (n + 1) 0 v4 μ = K 0 μ := by
  rw [f_X10_isPlaced_L10]
  by_cases h : v1 ≤ v4
  · rw [if_pos h]
  · rw [if_neg h, if_pos rfl]
theorem plcL {pl : List Strip → Nat → Nat → Option (List Strip)} {L : Nat → Option LogD} {Dr : Nat → Option DoorD} {w : Nat} {v2 : Int32} {K : Int32 → Mem → Option (Int32 × Mem)} (hpl : HP pl L Dr) (hw3 : w ≤ 3) : ∀ (W a : List Nat) (n m k : Nat) (σ : St) (μ : Mem), W.length = a.length → k + W.length = w → W.length + 1 < n → WF m σ → m + W.length ≤ 590 → σL σ = L → ML μ L → MD μ Dr → MS μ (σS σ) → (∀ i d, W[i]? = some d → μ.1 50 (k + i) = nI d) → (∀ i l, a[i]? = some l → μ.1 51 (k + i) = nI l) → (∀ l ∈ a, l < 3) → W.Nodup → (∀ d ∈ W, d < 8 ∧ ∃ D, σD σ d = some D ∧ dM D = none ∧ Dr d = some D) → ∃ μ' T, f_X10_isPlaced_L10 (nI w) v2 K n 1 (nI k) μ = K (b01 (okA pl (σS σ) W a = true)) μ' ∧ MS μ' (σS σ ++ T) ∧ plF μ μ' := by
  intro W
  induction W with
  | nil =>
    intro a n m k σ μ hla hk hn hw hm hL hml hmd hms h50 h51 ha hnd hWd
    obtain ⟨n', rfl⟩ : ∃ n', n = n' + 1 := ⟨n - 1, by omega⟩
    rw [List.length_nil] at hk
    refine ⟨μ, [], ?_, by rw [List.append_nil]; exact hms, plF.rf⟩
    rw [f_X10_isPlaced_L10, if_pos (nI_le (by omega) (by omega)), b01_t (show okA pl (σS σ) [] a = true by unfold okA; rfl)]
  | cons d W ih =>
    intro a n m k σ μ hla hk hn hw hm hL hml hmd hms h50 h51 ha hnd hWd
    obtain ⟨n', rfl⟩ : ∃ n', n = n' + 1 := ⟨n - 1, by omega⟩
    cases a with
    | nil => rw [List.length_cons, List.length_nil] at hla; omega
    | cons l a =>
      rw [List.length_cons, List.length_cons] at hla
      rw [List.length_cons] at hk hn hm
      obtain ⟨n'', rfl⟩ : ∃ n'', n' = n'' + 1 := ⟨n' - 1, by omega⟩
      have hl := ha l List.mem_cons_self
      obtain ⟨hd, D, hD, hM, hDr⟩ := hWd d List.mem_cons_self
      have e51 : μ.1 51 k = nI l := h51 0 l rfl
      have e50 : μ.1 50 k = nI d := h50 0 d rfl
      have hok : okA pl (σS σ) (d :: W) (l :: a) = (match pl (σS σ) d l with
        | none => false
        | some S' => okA pl S' W a) := rfl
      have bad : pl (σS σ) d l = none → b01 (okA pl (σS σ) (d :: W) (l :: a) = true) = 0 := fun h => by
        apply b01_f; rw [hok, h]; exact Bool.false_ne_true
      rw [f_X10_isPlaced_L10, if_neg (nI_ge (by omega) (by omega)), if_neg (show ¬ (1 : Int32) = 0 by decide), rI_nI (by omega) (by decide), bi_some, e51]
      cases hLl : L l with
      | none =>
        rw [isLog_none hml (fun l2 h2 e => by rw [← nI_inj (by omega) (by omega) e]; exact hLl), bd_some, if_pos rfl, stop0, bad ((hpl (σS σ) d l).1 hLl)]
        exact ⟨μ, [], rfl, by rw [List.append_nil]; exact hms, plF.rf⟩
      | some g =>
        have hLg : σL σ l = some g := by rw [hL]; exact hLl
        have hg := (hw.1 l g hLg).2
        have wd := (hw.2.1 d D hD).2
        have mg : Mg μ l g := by have := hml l hl; rw [hLl] at this; exact this
        have md : Md μ d D := by have := hmd d hd; rw [hDr] at this; exact this
        obtain ⟨μ1, p, s1, hcm, hp, e⟩ := placesM hw (by omega) hg wd ⟨mg, md, hms⟩ hl hd
        have hpv := (hpl (σS σ) d l).2 g D p hLl hDr hp
        rw [isLog_some hml hg hl hLl, bd_some, if_neg (show ¬ (1 : Int32) = 0 by decide), rI_nI (by omega) (by decide), bi_some, rI_nI (by omega) (by decide), bi_some, e50, e51]
        have pf1 : plF μ μ1 := ⟨fun b _ _ h => s1 b h, fun j _ _ _ _ => by rw [s1 0 (by decide)]⟩
        cases p with
        | none =>
          simp only at e
          rw [e, bd_some, if_pos rfl, stop0, bad hpv]
          refine ⟨μ1, [], rfl, ?_, pf1⟩
          rw [List.append_nil]
          exact MS_of (by rw [s1 0 (by decide)]) (fun b h1 h2 => s1 b (by omega)) hms
        | some q =>
          simp only at e
          obtain ⟨b1, b2, b3⟩ := mfound_at (μ := μ1) (f := q.1) (y := q.2.1) (x := q.2.2)
          obtain ⟨N, hN⟩ : ∃ N, N = mfound μ1 q.1 q.2.1 q.2.2 := ⟨_, rfl⟩
          rw [← hN] at e b1 b2 b3
          have n1 : ∀ b, b ≠ 0 → N.1 b = μ1.1 b := fun b hb => by rw [hN]; unfold mfound; rw [sI_pl hb, sI_pl hb, sI_pl hb]
          have n2 : ∀ j, j ≠ 60 → j ≠ 61 → j ≠ 62 → N.1 0 j = μ1.1 0 j := fun j h1 h2 h3 => by rw [hN]; unfold mfound; rw [sI_sl h3, sI_sl h2, sI_sl h1]
          have pf2 : plF μ N := plF.tr pf1 ⟨fun b h1 _ _ => n1 b (by omega), fun j _ h1 h2 h3 => n2 j h1 h2 h3⟩
          have hms2 : MS N (σS σ) := MS_of (by rw [n2 15 (by omega) (by omega) (by omega), s1 0 (by decide)]) (fun b h1 h2 => by rw [n1 b (by omega), s1 b (by omega)]) hms
          have h5 := hw.2.2.2.2.1
          obtain ⟨r, er, hrS, r1, r2⟩ := cutsM (l := l) wd hd hms2 (by omega) (fun o ho => by rw [n1 48 (by omega)]; exact hcm o ho) (Md_of (fun b h1 h2 => by rw [n1 b (by omega), s1 b (by omega)]) md) b1 b2 b3
          have e50' : N.1 50 k = nI d := by rw [pf2.1 50 (by omega) (by omega) (by omega)]; exact e50
          have e51' : N.1 51 k = nI l := by rw [pf2.1 51 (by omega) (by omega) (by omega)]; exact e51
          have pf3 : plF μ r := plF.tr pf2 ⟨fun b h1 h2 _ => r1 b h1 h2, fun j h1 _ _ _ => r2 j h1⟩
          rw [e, bd_some, if_neg (show ¬ (1 : Int32) = 0 by decide), rI_nI (by omega) (by decide), bi_some, rI_nI (by omega) (by decide), bi_some, e50', e51', er, bi_some, nI_s]
          obtain ⟨s, T, es, hsS, hsF⟩ := ih a (n'' + 1) (m + 1) (k + 1) (mkSt σ d D l q.1 q.2.1 q.2.2) r (by omega) (by omega) (by omega) (WF_mk hw hl hLg hd hD hM hp.1.2) (by omega) hL (ML_pf pf3 hml) (MD_pf pf3 hmd) hrS (fun i x hi => by
            rw [pf3.1 50 (by omega) (by omega) (by omega), show k + 1 + i = k + (i + 1) by omega]
            exact h50 (i + 1) x hi) (fun i x hi => by
            rw [pf3.1 51 (by omega) (by omega) (by omega), show k + 1 + i = k + (i + 1) by omega]
            exact h51 (i + 1) x hi) (fun x hx => ha x (List.mem_cons_of_mem _ hx)) (List.nodup_cons.mp hnd).2 (fun d2 hd2 => by
            obtain ⟨h1, D2, h2, h3⟩ := hWd d2 (List.mem_cons_of_mem _ hd2)
            have hne : d2 ≠ d := fun z => (List.nodup_cons.mp hnd).1 (by rw [← z]; exact hd2)
            refine ⟨h1, D2, ?_, h3⟩
            show (if d2 = d then _ else σD σ d2) = some D2
            rw [if_neg hne]; exact h2)
          have hok2 : okA pl (σS σ) (d :: W) (l :: a) = okA pl (σS (mkSt σ d D l q.1 q.2.1 q.2.2)) W a := by
            rw [hok, hpv]; rfl
          refine ⟨s, mkS d D l q.1 q.2.1 q.2.2 ++ T, ?_, ?_, plF.tr pf3 hsF⟩
          · rw [es]
            simp only [hok2]
          · rw [← List.append_assoc]; exact hsS
theorem MS_cut {μ : Mem} {S T : List Strip} (h : MS μ (S ++ T)) : MS (sI μ 0 15 (nI S.length)) S := by
  refine ⟨by rw [sI_same], fun k s hk => Ms_of (fun b h1 h2 => sI_pl (by omega)) (h.2 k s ?_)⟩
  have : k < S.length := (List.getElem?_eq_some_iff.mp hk).1
  rw [List.getElem?_append_left this]; exact hk
theorem placedM {pl : List Strip → Nat → Nat → Option (List Strip)} {σ : St} {m : Nat} {μ : Mem} {W a : List Nat} (hpl : HP pl (σL σ) (σD σ)) (hw3 : W.length ≤ 3) (hla : W.length = a.length) (hw : WF m σ) (hm : m < 512) (hr : RM σ μ) (h50 : ∀ i d, W[i]? = some d → μ.1 50 i = nI d) (h51 : ∀ i l, a[i]? = some l → μ.1 51 i = nI l) (ha : ∀ l ∈ a, l < 3) (hnd : W.Nodup) (hWd : ∀ d ∈ W, d < 8 ∧ ∃ D, σD σ d = some D ∧ dM D = none) : ∃ r, f_X10_isPlaced (nI W.length) μ = some (b01 (okA pl (σS σ) W a = true), r) ∧ RM σ r ∧ r.1 50 = μ.1 50 ∧ r.1 51 = μ.1 51 := by
  obtain ⟨m1, m2, m3, m4, m5, m6⟩ := hr
  obtain ⟨s, T, e, hS, hF⟩ := plcL (v2 := μ.1 0 15) (K := fun w15 μ16 => (bz w15 (sI μ16 0 15 (μ.1 0 15)))) hpl hw3 W a FU m 0 σ μ hla (by omega) (show W.length + 1 < 8192 by omega) hw (by omega) rfl m1 m2 m3 (fun i d hi => by rw [Nat.zero_add]; exact h50 i d hi) (fun i l hi => by rw [Nat.zero_add]; exact h51 i l hi) ha hnd (fun d hd => by
    obtain ⟨h1, D, h2, h3⟩ := hWd d hd
    exact ⟨h1, D, h2, h3, h2⟩)
  unfold f_X10_isPlaced
  rw [show nI 0 = (0 : Int32) from rfl] at e
  rw [e, bz_b01, m3.1]
  have q1 : ∀ b, 1 ≤ b → b < 16 ∨ 24 ≤ b → b ≠ 48 → (sI s 0 15 (nI (σS σ).length)).1 b = μ.1 b := fun b h1 h2 h3 => by rw [sI_pl (by omega), hF.1 b h1 h2 h3]
  have q2 : ∀ j, j ≠ 15 → j ≠ 60 → j ≠ 61 → j ≠ 62 → (sI s 0 15 (nI (σS σ).length)).1 0 j = μ.1 0 j := fun j h1 h2 h3 h4 => by rw [sI_sl h1, hF.2 j h1 h2 h3 h4]
  refine ⟨_, rfl, ⟨ML_of (fun b h1 h2 => q1 b h1 (by omega) (by omega)) m1, MD_of (fun b h1 h2 => q1 b (by omega) (by omega) (by omega)) m2, MS_cut hS, MT_of (q2 25 (by omega) (by omega) (by omega) (by omega)) (q1 24 (by omega) (by omega) (by omega)) m4, MF_of (q2 30 (by omega) (by omega) (by omega) (by omega)) (q2 31 (by omega) (by omega) (by omega) (by omega)) m5, MP_of (q2 66 (by omega) (by omega) (by omega) (by omega)) (q1 49 (by omega) (by omega) (by omega)) m6⟩, q1 50 (by omega) (by omega) (by omega), q1 51 (by omega) (by omega) (by omega)⟩
