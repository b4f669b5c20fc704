/-! the step of door -/
def unS (d : Nat) (s : Strip) : Strip := if tD s = (d : Int) then (tL s, tF s, tX s, tY s, tW s, tH s, tM s, -1) else s
theorem unS_eq {d : Nat} {s : Strip} : tL (unS d s) = tL s ∧ tF (unS d s) = tF s ∧ tX (unS d s) = tX s ∧ tY (unS d s) = tY s ∧ tW (unS d s) = tW s ∧ tH (unS d s) = tH s ∧ tM (unS d s) = tM s ∧ tD (unS d s) = if tD s = (d : Int) then -1 else tD s := by
  unfold unS
  by_cases h : tD s = (d : Int)
  · rw [if_pos h, if_pos h]; exact ⟨rfl, rfl, rfl, rfl, rfl, rfl, rfl, rfl⟩
  · rw [if_neg h, if_neg h]; exact ⟨rfl, rfl, rfl, rfl, rfl, rfl, rfl, rfl⟩
theorem unS_cov {d : Nat} {s : Strip} {l i x y : Nat} : covS (unS d s) l i x y ↔ covS s l i x y := by
  obtain ⟨a1, a2, a3, a4, a5, a6, -, -⟩ := unS_eq (d := d) (s := s)
  unfold covS; rw [a1, a2, a3, a4, a5, a6]
theorem sumM_un {d l i : Nat} : ∀ S : List Strip, sumM (S.map (unS d)) l i = sumM S l i := by
  intro S
  induction S with
  | nil => rfl
  | cons s S ih =>
    obtain ⟨a1, a2, -, -, -, -, a7, -⟩ := unS_eq (d := d) (s := s)
    rw [List.map_cons, sumM_cons, sumM_cons, ih, a1, a2, a7]
def dSt (σ : St) (d : Nat) (D : DoorD) : St := (σL σ, fun k => if k = d then some D else σD σ k, (σS σ).map (unS d), [], (0, -1), σP σ)
def eSt (σ : St) (e : Nat × Nat) : St := (σL σ, σD σ, σS σ, [], (e.1, (e.2 : Int)), σP σ)
theorem WF_dSt {n : Nat} {σ : St} {d : Nat} {D : DoorD} (hw : WF n σ) (hd : d < 8) (wd : WFd D) (hM : dM D = none) : WF (n + 1) (dSt σ d D) := by
  obtain ⟨h1, h2, h3, h4, h5, h6, h7, h8, h9, h10, h11, h12⟩ := hw
  refine ⟨h1, fun d' D' h => ?_, fun s hs => ?_, ?_, ?_, fun d' hd' => ?_, by show 0 ≤ 400; omega, fun b hb => (by cases hb), by show 0 ≤ 3; omega, by show (-1 : Int) ≤ -1; omega, by show (-1 : Int) ≤ 400; omega, h12⟩
  · have h' : (if d' = d then some D else σD σ d') = some D' := h
    by_cases e : d' = d
    · rw [if_pos e] at h'; cases h'; rw [e]; exact ⟨hd, wd⟩
    · rw [if_neg e] at h'; exact h2 d' D' h'
  · obtain ⟨t, ht, rfl⟩ := List.mem_map.mp (show s ∈ (σS σ).map (unS d) from hs)
    obtain ⟨a1, a2, a3, a4, a5, a6, a7, a8⟩ := unS_eq (d := d) (s := t)
    obtain ⟨q1, q2, q3, q4, q5, q6, q7⟩ := h3 t ht
    unfold WFs
    rw [a1, a2, a3, a4, a5, a6, a7, a8]
    refine ⟨q1, q2, q3, q4, q5, q6, ?_⟩
    by_cases e : tD t = (d : Int)
    · rw [if_pos e]; exact Or.inl rfl
    · rw [if_neg e]; exact q7
  · show ((σS σ).map (unS d)).Pairwise disS
    rw [List.pairwise_map]
    refine h4.imp (fun {a b} hab l i x y q => hab l i x y ⟨unS_cov.mp q.1, unS_cov.mp q.2⟩)
  · show ((σS σ).map (unS d)).length ≤ 10 * (n + 1)
    rw [List.length_map]; omega
  · show ((σS σ).map (unS d)).filter (fun s => tD s == (d' : Int)) = match (if d' = d then some D else σD σ d').bind dM with
      | none => []
      | some q => mkS d' ((if d' = d then some D else σD σ d').getD (0, 0, fun _ _ => 0, 0, 0, 0, none)) q.1 q.2.1 q.2.2.1 q.2.2.2
    by_cases e : d' = d
    · rw [if_pos e]
      simp only [Option.bind_some, hM]
      rw [List.filter_eq_nil_iff]
      intro s hs
      obtain ⟨t, ht, rfl⟩ := List.mem_map.mp hs
      rw [(unS_eq (d := d) (s := t)).2.2.2.2.2.2.2, e]
      by_cases z : tD t = (d : Int)
      · rw [if_pos z, beq_iff_eq]; omega
      · rw [if_neg z, beq_iff_eq]; exact z
    · rw [if_neg e]
      refine Eq.trans ?_ (h6 d' hd')
      have gen : ∀ S : List Strip, (S.map (unS d)).filter (fun s => tD s == (d' : Int)) = S.filter (fun s => tD s == (d' : Int)) := by
        intro S
        induction S with
        | nil => rfl
        | cons s S ih =>
          rw [List.map_cons]
          by_cases z : tD s = (d : Int)
          · have hq : ¬ (tD (unS d s) == (d' : Int)) = true := by rw [(unS_eq (d := d) (s := s)).2.2.2.2.2.2.2, if_pos z, beq_iff_eq]; omega
            have hq2 : ¬ (tD s == (d' : Int)) = true := by rw [z, beq_iff_eq]; omega
            rw [List.filter_cons_of_neg (p := fun s => tD s == (d' : Int)) hq, List.filter_cons_of_neg (p := fun s => tD s == (d' : Int)) hq2, ih]
          · have hu : unS d s = s := if_neg z
            rw [hu]
            by_cases hq : (tD s == (d' : Int)) = true
            · rw [List.filter_cons_of_pos (p := fun s => tD s == (d' : Int)) hq, List.filter_cons_of_pos (p := fun s => tD s == (d' : Int)) hq, ih]
            · rw [List.filter_cons_of_neg (p := fun s => tD s == (d' : Int)) hq, List.filter_cons_of_neg (p := fun s => tD s == (d' : Int)) hq, ih]
      exact gen (σS σ)
theorem WF_eSt {n : Nat} {σ : St} {e : Nat × Nat} (hw : WF n σ) (h1 : e.1 ≤ 3) (h2 : e.2 ≤ 400) : WF (n + 1) (eSt σ e) := by
  obtain ⟨a1, a2, a3, a4, a5, a6, a7, a8, a9, a10, a11, a12⟩ := hw.mono
  exact ⟨a1, a2, a3, a4, a5, a6, by show 0 ≤ 400; omega, fun b hb => (by cases hb), h1, by show (-1 : Int) ≤ (e.2 : Int); omega, by show (e.2 : Int) ≤ 400; omega, a12⟩
theorem shortC {μ : Mem} {N : Nat} (h : μ.1 1 1 = nI N) (hN : N ≤ 400) : f_X7_shorten 0 μ = some (1, sI μ 1 1 0) := by
  unfold f_X7_shorten
  rw [isFrom_eq, bd_some, h]
  have c : (0 : Int32) ≤ 0 ∧ (0 : Int32) ≤ nI N := by
    refine ⟨by decide, ?_⟩
    rw [iz0, iz_nat, iz_le (by omega) (by omega) (by omega) (by omega)]; omega
  rw [b01_t c, if_neg one0, bz_1]
theorem p64_L {d : Nat} {v2 v3 v4 : Int32} {K : Mem → Option (Int32 × Mem)} (hd : d < 8) : ∀ (m n k : Nat) (μ : Mem), k + m = 64 → m < n → ∃ r, f_X10_door_L125 (nI d) v2 v3 v4 K n (nI k) μ = K r ∧ (∀ b, b ≠ 40 → r.1 b = μ.1 b) ∧ (∀ i, i < 64 * d + k ∨ 64 * d + 64 ≤ i → r.1 40 i = μ.1 40 i) ∧ (∀ i, k ≤ i → i < 64 → r.1 40 (64 * d + i) = μ.1 25 i) := by
  intro m
  induction m with
  | zero =>
    intro n k μ hk hn
    obtain ⟨n', rfl⟩ : ∃ n', n = n' + 1 := ⟨n - 1, by omega⟩
    have : k = 64 := by omega
    subst this
    exact ⟨μ, by rw [f_X10_door_L125, if_pos (by decide)], fun _ _ => rfl, fun _ _ => rfl, fun i h1 h2 => by omega⟩
  | succ m ih =>
    intro n k μ hk hn
    obtain ⟨n', rfl⟩ : ∃ n', n = n' + 1 := ⟨n - 1, by omega⟩
    have hk64 : ¬ (64 : Int32) ≤ nI k := nI_ge (b := 64) (by omega) (by omega)
    rw [f_X10_door_L125, if_neg hk64, rI_nI (by omega) (by decide), bi_some, j64, nI_add, wI_nI (by omega) (by decide), bi_some, nI_s]
    obtain ⟨r, e, r1, r2, r3⟩ := ih n' (k + 1) (sI μ 40 (64 * d + k) (μ.1 25 k)) (by omega) (by omega)
    refine ⟨r, e, fun b hb => by rw [r1 b hb, sI_pl hb], fun i hi => by rw [r2 i (by omega), sI_sl (by omega)], fun i h1 h2 => ?_⟩
    by_cases ek : i = k
    · rw [ek, r2 _ (by omega), sI_same]
    · rw [r3 i (by omega) h2, sI_pl (by decide)]
theorem unm_L {d : Nat} {S : List Strip} {K : Mem → Option (Int32 × Mem)} (hd : d < 8) (hS : ∀ s ∈ S, tD s = -1 ∨ ∃ q, q < 8 ∧ tD s = (q : Nat)) (h6 : S.length ≤ 6000) : ∀ (m n k : Nat) (μ : Mem), k + m = S.length → m < n → μ.1 0 15 = nI S.length → (∀ i s, k ≤ i → S[i]? = some s → μ.1 23 i = iz (tD s)) → ∃ r, f_X10_door_L189 (nI d) K n (nI k) μ = K r ∧ (∀ b, b ≠ 23 → r.1 b = μ.1 b) ∧ (∀ i, i < k → r.1 23 i = μ.1 23 i) ∧ (∀ i s, k ≤ i → S[i]? = some s → r.1 23 i = iz (tD (unS d s))) := by
  intro m
  induction m with
  | zero =>
    intro n k μ hk hn h15 h23
    obtain ⟨n', rfl⟩ : ∃ n', n = n' + 1 := ⟨n - 1, by omega⟩
    refine ⟨μ, by rw [f_X10_door_L189, h15, if_pos (nI_le (by omega) (by omega))], fun _ _ => rfl, fun _ _ => rfl, fun i s h1 h2 => ?_⟩
    have := (List.getElem?_eq_some_iff.mp h2).1
    omega
  | succ m ih =>
    intro n k μ hk hn h15 h23
    obtain ⟨n', rfl⟩ : ∃ n', n = n' + 1 := ⟨n - 1, by omega⟩
    obtain ⟨s, hs⟩ : ∃ s, S[k]? = some s := ⟨_, List.getElem?_eq_getElem (by omega)⟩
    have hr := hS s (List.mem_of_getElem? hs)
    have c : iz (tD s) = nI d ↔ tD s = (d : Int) := by
      rw [iz_nat]
      apply iz_eq
      · rcases hr with h | ⟨q, h, h'⟩ <;> omega
      · rcases hr with h | ⟨q, h, h'⟩ <;> omega
      · omega
      · omega
    have a8 := (unS_eq (d := d) (s := s)).2.2.2.2.2.2.2
    rw [f_X10_door_L189, h15, if_neg (nI_ge (by omega) (by omega)), rI_nI (by omega) (by decide), bi_some, h23 k s (Nat.le_refl k) hs]
    by_cases z : tD s = (d : Int)
    · rw [if_pos (c.mpr z), wI_nI (by omega) (by decide), bi_some, nI_s]
      obtain ⟨r, e, r1, r2, r3⟩ := ih n' (k + 1) (sI μ 23 k (-1)) (by omega) (by omega) (by rw [sI_pl (by decide)]; exact h15) (fun i t h1 h2 => by rw [sI_sl (by omega)]; exact h23 i t (by omega) h2)
      refine ⟨r, e, fun b hb => by rw [r1 b hb, sI_pl hb], fun i hi => by rw [r2 i (by omega), sI_sl (by omega)], fun i t h1 h2 => ?_⟩
      by_cases ek : i = k
      · rw [ek] at h2 ⊢
        rw [hs] at h2; cases h2
        rw [r2 k (by omega), sI_same, a8, if_pos z]; rfl
      · exact r3 i t (by omega) h2
    · rw [if_neg (fun q => z (c.mp q)), nI_s]
      obtain ⟨r, e, r1, r2, r3⟩ := ih n' (k + 1) μ (by omega) (by omega) h15 (fun i t h1 h2 => h23 i t (by omega) h2)
      refine ⟨r, e, r1, fun i hi => r2 i (by omega), fun i t h1 h2 => ?_⟩
      by_cases ek : i = k
      · rw [ek] at h2 ⊢
        rw [hs] at h2; cases h2
        rw [r2 k (by omega), h23 k s (Nat.le_refl k) hs, a8, if_neg z]
      · exact r3 i t (by omega) h2
theorem gd_tape {T : List Nat} : match tapeR T with
    | .error e => 1 ≤ e.1 ∧ e.1 ≤ 3 ∧ e.2 ≤ T.length
    | .ok q => 1 ≤ q.2.1 ∧ q.2.1 ≤ 8 ∧ 1 ≤ q.2.2.1 ∧ q.2.2.1 ≤ 8 ∧ ∀ c r, c < q.2.1 → r < q.2.2.1 → q.2.2.2 c r < 64 ∧ offs (q.2.2.2 c r) ≤ 9 := by
  have hg := gd_row (gd_part (T := T) 6) 0 (Nat.zero_le _)
  unfold tapeR
  cases hr : row T (part T 6) 0 with
  | error e => rw [hr] at hg; exact hg
  | ok q =>
    rw [hr] at hg
    obtain ⟨g1, g2, g3, g4, g5, g6, g7⟩ := hg
    simp only
    by_cases h : bq T (nx T q.1) = 256
    · rw [if_pos h]; exact ⟨g3, g4, g5, g6, g7⟩
    · rw [if_neg h]; exact ⟨Nat.le_refl 1, show 1 ≤ 3 by decide, nx_le g2⟩
theorem doorC {n : Nat} {σ : St} {μ : Mem} {d pw ph tn : Nat} (hw : WF n σ) (hc : RC σ μ) (hd : d < 8) (hpw : 1 ≤ pw ∧ pw ≤ 60) (hph : 1 ≤ ph ∧ ph ≤ 60) (htn : tn ≤ 200) : ∃ r, bd (f_X6_readTape μ) (fun r14 μ13 => bd (f_X7_shorten (0 : Int32) μ13) (fun r16 μ15 => (if r14 = 0 then (some ((-1 : Int32), μ15)) else (rR 8 (nI d)).bind (fun j18 => (f_X0_begin (56 + 4 * j18) 4 (nI pw) (nI ph) (nI tn) μ15).bind (fun μ20 => bd (f_X1_count ((56 + 4 * j18) + 1) μ20) (fun r22 μ21 => (some (r22, μ21)))))))) = (match tapeR (σT σ) with
      | .error _ => some (-1, r)
      | .ok q => some (nI q.2.1 * nI q.2.2.1, r)) ∧ match tapeR (σT σ) with
      | .error e => RC (eSt σ e) r
      | .ok q => RC (dSt σ d (q.2.1, q.2.2.1, q.2.2.2, pw, ph, tn, none)) r := by
  obtain ⟨c1, c2, c3, c4, c5, c6⟩ := hc
  have ht : tpC μ (σT σ) := ⟨c4, hw.2.2.2.2.2.2.1, hw.2.2.2.2.2.2.2.1⟩
  have hgt := gd_tape (T := σT σ)
  obtain ⟨r, f1, f2, hr⟩ := tapeC ht
  have r11 : r.1 1 1 = nI (σT σ).length := by rw [f1 1 (by decide) (by decide) (by decide)]; exact c4.1
  have hsh := shortC r11 ht.2.1
  have hsc : ∀ b, b ≠ 1 → b ≠ 3 → b ≠ 4 → b ≠ 5 → (sI r 1 1 0).1 b = μ.1 b := fun b h1 h3 h4 h5 => by rw [sI_pl h1, f1 b h3 h4 h5]
  cases hs : tapeR (σT σ) with
  | error e =>
    rw [hs] at hr
    simp only at hr ⊢
    rw [hr.1, bd_some, hsh, bd_some, if_pos rfl]
    refine ⟨_, rfl, CL_of hw.1 (fun b h1 h2 => hsc b (by omega) (by omega) (by omega) (by omega)) (fun b _ _ => by rw [sI_2, f2]) c1, CD_of (fun b h1 h2 => hsc b (by omega) (by omega) (by omega) (by omega)) c2, CS_of (fun b h1 h2 => hsc b (by omega) (by omega) (by omega) (by omega)) (fun b _ _ => by rw [sI_2, f2]) c3, ⟨by rw [sI_same]; rfl, fun k b hk => (by cases hk)⟩, ⟨by rw [sI_pl (by decide)]; exact hr.2.1, by rw [sI_pl (by decide)]; exact hr.2.2⟩, CP_of (hsc 89 (by decide) (by decide) (by decide) (by decide)) c6⟩
  | ok q =>
    rw [hs] at hr hgt
    simp only at hr hgt ⊢
    obtain ⟨a1, a2, a3, a4, a5, a6⟩ := hr
    obtain ⟨g3, g4, g5, g6, g7⟩ := hgt
    have wd : WFd (q.2.1, q.2.2.1, q.2.2.2, pw, ph, tn, none) := ⟨g3, g4, g5, g6, fun c r hc hr => ⟨(g7 c r hc hr).2, (g7 c r hc hr).1⟩, hpw.1, hpw.2, hph.1, hph.2, htn⟩
    obtain ⟨s, es, hcd, s1, s2⟩ := beginC (μ := sI r 1 1 0) hd wd (by rw [sI_pl (by decide)]; exact a4) (by rw [sI_pl (by decide)]; exact a5) (fun c t hc2 ht2 => by rw [sI_pl (by decide)]; exact a6 c t hc2 ht2)
    rw [a1, bd_some, hsh, bd_some, if_neg one0, rR_nI hd (by decide), bi_some, es, bi_some]
    have e1 : s.1 (56 + 4 * d + 1) 1 = nI q.2.1 := hcd.2.1
    have e2 : s.1 (56 + 4 * d + 1) 2 = nI q.2.2.1 := hcd.2.2.1
    unfold f_X1_count
    rw [bd_some, e1, e2]
    have k1 : ∀ b, b ≠ 1 → b ≠ 3 → b ≠ 4 → b ≠ 5 → (b < 56 + 4 * d ∨ 60 + 4 * d ≤ b) → s.1 b = μ.1 b := fun b h1 h3 h4 h5 h6 => by rw [s1 b h6, hsc b h1 h3 h4 h5]
    have k2 : s.2 = μ.2 := by rw [s2, sI_2, f2]
    refine ⟨s, rfl, CL_of hw.1 (fun b h1 h2 => k1 b (by omega) (by omega) (by omega) (by omega) (by omega)) (fun b _ _ => by rw [k2]) c1, CD_upd2 (d := d) c2 (fun k hk => if_neg hk) (fun b h1 h2 => k1 b (by omega) (by omega) (by omega) (by omega) h2) ?_, ?_, ?_, ?_, CP_of (k1 89 (by decide) (by decide) (by decide) (by decide) (by omega)) c6⟩
    · show match (if d = d then some (q.2.1, q.2.2.1, q.2.2.2, pw, ph, tn, none) else σD σ d) with
        | none => s.1 (56 + 4 * d) 2 = 0 ∧ s.1 (56 + 4 * d) 8 = -1
        | some D => Cd s (56 + 4 * d) D
      rw [if_pos rfl]; exact hcd
    · intro k g hk hL
      obtain ⟨p1, p2⟩ := c3 k g hk hL
      refine ⟨fun i hi => ?_, fun i y x hi hy hx => ?_⟩
      · show _ = nI (sumM ((σS σ).map (unS d)) k i)
        rw [k1 _ (by omega) (by omega) (by omega) (by omega) (by omega), p1 i hi, sumM_un]
      · rw [k2, p2 i y x hi hy hx]
        constructor
        · rintro ⟨t, h1, h2⟩
          exact ⟨unS d t, List.mem_map_of_mem h1, unS_cov.mpr h2⟩
        · rintro ⟨t, h1, h2⟩
          obtain ⟨u, hu, rfl⟩ := List.mem_map.mp h1
          exact ⟨u, hu, unS_cov.mp h2⟩
    · exact ⟨by rw [s1 1 (by omega), sI_same]; rfl, fun k b hk => (by cases hk)⟩
    · exact ⟨by rw [s1 3 (by omega), sI_pl (by decide)]; exact a2, by rw [s1 3 (by omega), sI_pl (by decide)]; exact a3⟩
