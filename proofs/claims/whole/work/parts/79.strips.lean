/-! the strips of a door, and the state with a door made or taken back -/
theorem sumM_app {A B : List Strip} {l i : Nat} : sumM (A ++ B) l i = sumM A l i + sumM B l i := by
  unfold sumM; rw [List.filter_append, List.map_append, List.sum_append]
def mk1 (d : Nat) (D : DoorD) (l f y x o : Nat) : Option Strip := if cnt D o = 0 then none else some (l, f + o, x, y, dPw D, cnt D o * dPh D, cnt D o, (d : Int))
theorem mkS_eq {d : Nat} {D : DoorD} {l f y x : Nat} : mkS d D l f y x = (List.range' 0 10).filterMap (mk1 d D l f y x) := by
  unfold mkS; rw [List.range_eq_range']; rfl
theorem mk1_some {d : Nat} {D : DoorD} {l f y x o : Nat} {s : Strip} (h : mk1 d D l f y x o = some s) : cnt D o ≠ 0 ∧ s = (l, f + o, x, y, dPw D, cnt D o * dPh D, cnt D o, (d : Int)) := by
  unfold mk1 at h
  by_cases q : cnt D o = 0
  · rw [if_pos q] at h; cases h
  · rw [if_neg q] at h; exact ⟨q, (Option.some.inj h).symm⟩
theorem mk1_ok {d : Nat} {D : DoorD} {l f y x o : Nat} (q : cnt D o ≠ 0) : mk1 d D l f y x o = some (l, f + o, x, y, dPw D, cnt D o * dPh D, cnt D o, (d : Int)) := if_neg q
theorem mem_mkS {d : Nat} {D : DoorD} {l f y x : Nat} {s : Strip} : s ∈ mkS d D l f y x ↔ ∃ o, o < 10 ∧ cnt D o ≠ 0 ∧ s = (l, f + o, x, y, dPw D, cnt D o * dPh D, cnt D o, (d : Int)) := by
  rw [mkS_eq, List.mem_filterMap]
  constructor
  · rintro ⟨o, h1, h2⟩
    have := mk1_some h2
    rw [List.mem_range'_1] at h1
    exact ⟨o, by omega, this⟩
  · rintro ⟨o, h1, h2, rfl⟩
    exact ⟨o, by rw [List.mem_range'_1]; omega, mk1_ok h2⟩
theorem sum_mkL {d : Nat} {D : DoorD} {l f y x i : Nat} : ∀ (m k : Nat), k + m = 10 → sumM ((List.range' k m).filterMap (mk1 d D l f y x)) l i = cv D f k i := by
  intro m
  induction m with
  | zero =>
    intro k hk
    unfold cv
    rw [if_neg (by omega)]; rfl
  | succ m ih =>
    intro k hk
    rw [List.range'_succ]
    have := ih (k + 1) (by omega)
    by_cases q : cnt D k = 0
    · rw [List.filterMap_cons_none (show mk1 d D l f y x k = none from if_pos q), this]
      unfold cv
      by_cases c : i = f + k
      · rw [if_neg (by omega), if_pos (by omega), c, Nat.add_sub_cancel_left, q]
      · by_cases c2 : f + (k + 1) ≤ i ∧ i < f + 10
        · rw [if_pos c2, if_pos (by omega)]
        · rw [if_neg c2, if_neg (by omega)]
    · rw [List.filterMap_cons_some (mk1_ok q), sumM_cons, this]
      unfold cv
      show (if l = l ∧ f + k = i then cnt D k else 0) + _ = _
      by_cases c : i = f + k
      · rw [if_pos ⟨rfl, c.symm⟩, if_neg (by omega), if_pos (by omega), c, Nat.add_sub_cancel_left, Nat.add_zero]
      · rw [if_neg (fun z => c z.2.symm), Nat.zero_add]
        by_cases c2 : f + (k + 1) ≤ i ∧ i < f + 10
        · rw [if_pos c2, if_pos (by omega)]
        · rw [if_neg c2, if_neg (by omega)]
theorem sum_mkS {d : Nat} {D : DoorD} {l f y x i : Nat} : sumM (mkS d D l f y x) l i = cv D f 0 i := by
  rw [mkS_eq]; exact sum_mkL 10 0 rfl
theorem sum_mkS2 {d : Nat} {D : DoorD} {l f y x i k : Nat} (h : k ≠ l) : sumM (mkS d D l f y x) k i = 0 := sumM_none (fun s hs => by
  obtain ⟨o, _, _, rfl⟩ := mem_mkS.mp hs
  exact fun z => h z.symm)
theorem cov_mkS {d : Nat} {D : DoorD} {l f y x i u v : Nat} : (∃ s ∈ mkS d D l f y x, covS s l i u v) ↔ dB D f y x 0 i v u = true := by
  unfold dB
  rw [decide_eq_true_iff]
  constructor
  · rintro ⟨s, h1, h2⟩
    obtain ⟨o, ho, hq, rfl⟩ := mem_mkS.mp h1
    obtain ⟨-, q1, q2, q3, q4, q5⟩ := h2
    have e : i = f + o := q1.symm
    have q2' : x ≤ u := q2
    have q3' : u < x + dPw D := q3
    have q4' : y ≤ v := q4
    have q5' : v < y + cnt D o * dPh D := q5
    rw [e, Nat.add_sub_cancel_left]
    exact ⟨by omega, by omega, q4', q5', q2', q3'⟩
  · rintro ⟨q1, q2, q3, q4, q5, q6⟩
    have hc : cnt D (i - f) ≠ 0 := fun z => by rw [z] at q4; omega
    refine ⟨_, mem_mkS.mpr ⟨i - f, by omega, hc, rfl⟩, rfl, ?_, q5, q6, q3, q4⟩
    show f + (i - f) = i
    omega
def setM (D : DoorD) (m : Option (Nat × Nat × Nat × Nat)) : DoorD := (dW D, dH D, dC D, dPw D, dPh D, dT D, m)
def stM (σ : St) (d : Nat) (D : DoorD) (S : List Strip) : St := (σL σ, fun k => if k = d then some D else σD σ k, S, σT σ, σF σ, σP σ)
def mkSt (σ : St) (d : Nat) (D : DoorD) (l f y x : Nat) : St := stM σ d (setM D (some (l, f, y, x))) (σS σ ++ mkS d D l f y x)
def unSt (σ : St) (d : Nat) (D : DoorD) : St := stM σ d (setM D none) ((σS σ).filter (kp (-1) (nI d)))
theorem stB_cov {l i x y w h : Nat} {s : Strip} {u v : Nat} (h1 : covS s l i u v) (h2 : x ≤ u) (h3 : u < x + w) (h4 : y ≤ v) (h5 : v < y + h) : stB l i x y w h s = true := by
  unfold stB
  obtain ⟨q1, q2, q3, q4, q5, q6⟩ := h1
  rw [decide_eq_true_iff]
  exact ⟨q1, q2, by omega, by omega, by omega, by omega⟩
theorem WF_mk {n : Nat} {σ : St} {l d F Y X : Nat} {g : LogD} {D : DoorD} (hw : WF n σ) (hl : l < 3) (hL : σL σ l = some g) (hd : d < 8) (hD : σD σ d = some D) (hM : dM D = none) (hfit : FIT (σS σ) l g D F Y X) : WF (n + 1) (mkSt σ d D l F Y X) := by
  have wd := (hw.2.1 d D hD).2
  have hg := (hw.1 l g hL).2
  have hlen := hg.2.2.2.1
  have p1 := wd.2.2.2.2.2.1
  have p3 := wd.2.2.2.2.2.2.2.1
  obtain ⟨h1, h2, h3, h4, h5, h6, h7⟩ := hw
  refine ⟨h1, fun d' D' h => ?_, fun s hs => ?_, ?_, ?_, fun d' hd' => ?_, h7⟩
  · have h' : (if d' = d then some (setM D (some (l, F, Y, X))) else σD σ d') = some D' := h
    by_cases e : d' = d
    · rw [if_pos e] at h'
      cases h'
      rw [e]
      exact h2 d D hD
    · rw [if_neg e] at h'
      exact h2 d' D' h'
  · have hs' : s ∈ σS σ ++ mkS d D l F Y X := hs
    rcases List.mem_append.mp hs' with h | h
    · exact h3 s h
    · obtain ⟨o, ho, hq, rfl⟩ := mem_mkS.mp h
      have hb := hfit o ho hq
      have hh : 1 ≤ cnt D o * dPh D := Nat.mul_pos (by omega) (by omega)
      have hc : cnt D o ≤ cnt D o * dPh D := Nat.le_mul_of_pos_right _ (by omega)
      have hb3 := hb.2.2.1
      refine ⟨hl, ⟨g, hL, hb.1, hb.2.1, hb.2.2.1⟩, p1, hh, ?_, ?_, Or.inr ⟨d, hd, rfl⟩⟩
      · show 1 ≤ cnt D o
        omega
      · show cnt D o ≤ 60
        omega
  · show (σS σ ++ mkS d D l F Y X).Pairwise disS
    refine List.pairwise_append.mpr ⟨h4, ?_, fun s hs t ht => ?_⟩
    · rw [mkS_eq, List.pairwise_filterMap]
      refine List.Pairwise.imp (R := fun a b => a < b) (fun {a b} hab s hs t ht => ?_) List.pairwise_lt_range'
      intro l2 i2 x2 y2 hh
      have e1 := (mk1_some hs).2
      have e2 := (mk1_some ht).2
      have c1 := hh.1.2.1
      have c2 := hh.2.2.1
      rw [e1] at c1
      rw [e2] at c2
      have c1' : F + a = i2 := c1
      have c2' : F + b = i2 := c2
      omega
    · obtain ⟨o, ho, hq, rfl⟩ := mem_mkS.mp ht
      have hb := (hfit o ho hq).2.2.2.2
      intro l2 i2 x2 y2 hh
      obtain ⟨c0, c1, c2, c3, c4, c5⟩ := hh.2
      have c0' : l = l2 := c0
      have c1' : F + o = i2 := c1
      have hz := stB_cov (w := dPw D) (h := cnt D o * dPh D) hh.1 c2 c3 c4 c5
      rw [← c0', ← c1'] at hz
      have : (σS σ).any (stB l (F + o) X Y (dPw D) (cnt D o * dPh D)) = true := List.any_eq_true.mpr ⟨s, hs, hz⟩
      rw [hb] at this
      cases this
  · show (σS σ ++ mkS d D l F Y X).length ≤ 10 * (n + 1)
    rw [List.length_append]
    have : (mkS d D l F Y X).length ≤ 10 := by
      unfold mkS
      refine Nat.le_trans (List.length_filterMap_le _ _) (by simp)
    omega
  · show (σS σ ++ mkS d D l F Y X).filter (fun s => tD s == (d' : Int)) = match (if d' = d then some (setM D (some (l, F, Y, X))) else σD σ d').bind dM with
      | none => []
      | some q => mkS d' ((if d' = d then some (setM D (some (l, F, Y, X))) else σD σ d').getD (0, 0, fun _ _ => 0, 0, 0, 0, none)) q.1 q.2.1 q.2.2.1 q.2.2.2
    have h := h6 d' hd'
    rw [List.filter_append]
    by_cases e : d' = d
    · subst e
      rw [if_pos rfl]
      rw [hD] at h
      simp only [Option.bind_some, hM] at h
      rw [h, List.nil_append]
      show (mkS d' D l F Y X).filter _ = mkS d' D l F Y X
      rw [List.filter_eq_self]
      intro s hs
      obtain ⟨o, ho, hq, rfl⟩ := mem_mkS.mp hs
      exact beq_self_eq_true _
    · rw [if_neg e]
      have hn : (mkS d D l F Y X).filter (fun s => tD s == (d' : Int)) = [] := by
        rw [List.filter_eq_nil_iff]
        intro s hs
        obtain ⟨o, ho, hq, rfl⟩ := mem_mkS.mp hs
        show ¬ ((d : Int) == (d' : Int)) = true
        rw [beq_iff_eq]
        omega
      rw [hn, List.append_nil]
      exact h
theorem kp_door {d : Nat} {s : Strip} (hd : d < 8) (h1 : tL s < 3) (h2 : tD s = -1 ∨ ∃ q, q < 8 ∧ tD s = (q : Nat)) : kp (-1) (nI d) s = !(tD s == (d : Int)) := by
  unfold kp
  have e1 : ¬ nI (tL s) = (-1 : Int32) := m1_ne h1
  have e2 : ¬ nI d = (-1 : Int32) := by
    rw [show (-1 : Int32) = iz (-1) by decide, iz_nat]
    exact fun z => by have := (iz_eq (by omega) (by omega) (by omega) (by omega)).mp z; omega
  have e3 : iz (tD s) = nI d ↔ tD s = d := by
    rw [iz_nat]
    apply iz_eq
    · rcases h2 with h | ⟨q, h, h'⟩ <;> omega
    · rcases h2 with h | ⟨q, h, h'⟩ <;> omega
    · omega
    · omega
  rw [decide_eq_false e1, decide_eq_true e2, Bool.false_or, Bool.true_and]
  congr 1
  by_cases q : tD s = d
  · rw [decide_eq_true (e3.mpr q), q]; exact (beq_self_eq_true _).symm
  · rw [decide_eq_false (fun z => q (e3.mp z))]
    exact (beq_eq_false_iff_ne.mpr q).symm
theorem WF_un {n : Nat} {σ : St} {d : Nat} {D : DoorD} (hw : WF n σ) (hd : d < 8) (hD : σD σ d = some D) : WF n (unSt σ d D) := by
  obtain ⟨h1, h2, h3, h4, h5, h6, h7⟩ := hw
  have hk : ∀ s ∈ σS σ, kp (-1) (nI d) s = !(tD s == (d : Int)) := fun s hs => kp_door hd (h3 s hs).1 (h3 s hs).2.2.2.2.2.2
  refine ⟨h1, fun d' D' h => ?_, fun s hs => ?_, ?_, ?_, fun d' hd' => ?_, h7⟩
  · have h' : (if d' = d then some (setM D none) else σD σ d') = some D' := h
    by_cases e : d' = d
    · rw [if_pos e] at h'
      cases h'
      rw [e]
      exact h2 d D hD
    · rw [if_neg e] at h'
      exact h2 d' D' h'
  · exact h3 s (List.mem_filter.mp hs).1
  · exact List.Pairwise.filter _ h4
  · exact Nat.le_trans (List.length_filter_le _ _) h5
  · show ((σS σ).filter (kp (-1) (nI d))).filter (fun s => tD s == (d' : Int)) = match (if d' = d then some (setM D none) else σD σ d').bind dM with
      | none => []
      | some q => mkS d' ((if d' = d then some (setM D none) else σD σ d').getD (0, 0, fun _ _ => 0, 0, 0, 0, none)) q.1 q.2.1 q.2.2.1 q.2.2.2
    have h := h6 d' hd'
    by_cases e : d' = d
    · subst e
      rw [if_pos rfl]
      show _ = []
      rw [List.filter_eq_nil_iff]
      intro s hs
      obtain ⟨q1, q2⟩ := List.mem_filter.mp hs
      rw [hk s q1] at q2
      intro z
      rw [z] at q2
      cases q2
    · rw [if_neg e]
      refine Eq.trans ?_ h
      rw [List.filter_filter]
      apply List.filter_congr
      intro s hs
      rw [hk s hs]
      by_cases z : tD s = (d' : Int)
      · rw [z]
        have : ((d' : Int) == (d : Int)) = false := beq_eq_false_iff_ne.mpr (by omega)
        rw [this, beq_self_eq_true]; rfl
      · rw [beq_eq_false_iff_ne.mpr z]; rfl
theorem un_mk {n : Nat} {σ : St} {d : Nat} {D : DoorD} {l F Y X : Nat} (hw : WF n σ) (hd : d < 8) (hD : σD σ d = some D) (hM : dM D = none) : unSt (mkSt σ d D l F Y X) d (setM D (some (l, F, Y, X))) = σ := by
  obtain ⟨h1, h2, h3, h4, h5, h6, h7⟩ := hw
  have hk : ∀ s ∈ σS σ, kp (-1) (nI d) s = !(tD s == (d : Int)) := fun s hs => kp_door hd (h3 s hs).1 (h3 s hs).2.2.2.2.2.2
  have h := h6 d hd
  rw [hD] at h
  simp only [Option.bind_some, hM] at h
  rw [List.filter_eq_nil_iff] at h
  have e1 : ((σS σ) ++ mkS d D l F Y X).filter (kp (-1) (nI d)) = σS σ := by
    rw [List.filter_append]
    have a1 : (σS σ).filter (kp (-1) (nI d)) = σS σ := by
      rw [List.filter_eq_self]
      intro s hs
      rw [hk s hs]
      have := h s hs
      cases hq : (tD s == (d : Int)) with
      | true => exact absurd hq this
      | false => rfl
    have a2 : (mkS d D l F Y X).filter (kp (-1) (nI d)) = [] := by
      rw [List.filter_eq_nil_iff]
      intro s hs
      obtain ⟨o, ho, hq, rfl⟩ := mem_mkS.mp hs
      unfold kp
      have e2 : ¬ nI d = (-1 : Int32) := by
        rw [show (-1 : Int32) = iz (-1) by decide, iz_nat]
        exact fun z => by have := (iz_eq (by omega) (by omega) (by omega) (by omega)).mp z; omega
      have e3 : iz (tD (l, F + o, X, Y, dPw D, cnt D o * dPh D, cnt D o, (d : Int))) = nI d := rfl
      rw [decide_eq_true e2, decide_eq_true e3]
      simp
    rw [a1, a2, List.append_nil]
  have e2 : (fun k => if k = d then some (setM (setM D (some (l, F, Y, X))) none) else (if k = d then some (setM D (some (l, F, Y, X))) else σD σ k)) = σD σ := by
    funext k
    by_cases e : k = d
    · rw [if_pos e, e, hD]
      obtain ⟨a1, a2, a3, a4, a5, a6, a7⟩ := D
      cases hM
      rfl
    · rw [if_neg e, if_neg e]
  obtain ⟨L, Dr, S, T, Fa, P⟩ := σ
  show (L, (fun k => if k = d then some (setM (setM D (some (l, F, Y, X))) none) else (if k = d then some (setM D (some (l, F, Y, X))) else Dr k)), (S ++ mkS d D l F Y X).filter (kp (-1) (nI d)), T, Fa, P) = (L, Dr, S, T, Fa, P)
  have e1' : (S ++ mkS d D l F Y X).filter (kp (-1) (nI d)) = S := e1
  have e2' : (fun k => if k = d then some (setM (setM D (some (l, F, Y, X))) none) else (if k = d then some (setM D (some (l, F, Y, X))) else Dr k)) = Dr := e2
  rw [e1', e2']
