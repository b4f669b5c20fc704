/-! door: what a text says -/
def nxF (T : List Nat) : Nat → Nat → Nat
  | 0, p => p
  | m+1, p => if T[p]? = some 10 ∨ T[p]? = some 32 then nxF T m (p + 1) else p
def nx (T : List Nat) (p : Nat) : Nat := nxF T T.length p
def bq (T : List Nat) (q : Nat) : Nat := match T[q]? with
  | some b => b
  | none => 256
abbrev Pic : Type := Nat → Nat → Nat
abbrev Rs : Type := Except (Nat × Nat) (Nat × Nat × Nat × Pic)
def vst (f : Pic) (h : Nat) (g : Pic) : Pic := fun c r => if r < h then f c r else g c (r - h)
def hst (f : Pic) (w : Nat) (g : Pic) : Pic := fun c r => if c < w then f c r else g (c - w) r
def rep (f : Pic) (w : Nat) : Pic := fun c r => f (c % w) r
def trn (dn : Bool) (w h : Nat) (f : Pic) : Pic := fun c r => if dn = true then (f (w - 1 - c) (h - 1 - r) ^^^ 16) ^^^ 32 else f (w - 1 - c) r ^^^ 16
def colL (T : List Nat) (P : Nat → Rs) : Nat → Nat → Nat → Nat → Pic → Rs
  | 0, p, w, h, f => .ok (p, w, h, f)
  | m+1, p, w, h, f => if bq T (nx T p) = 47 then (match P (nx T p + 1) with
    | .error e => .error e
    | .ok q => if q.2.1 = w then (if h + q.2.2.1 ≤ 8 then colL T P m q.1 w (h + q.2.2.1) (vst f h q.2.2.2) else .error (3, nx T p)) else .error (2, nx T p)) else .ok (nx T p, w, h, f)
def col (T : List Nat) (P : Nat → Rs) (p : Nat) : Rs := match P p with
  | .error e => .error e
  | .ok q => colL T P 8 q.1 q.2.1 q.2.2.1 q.2.2.2
def rowL (T : List Nat) (C : Nat → Rs) : Nat → Nat → Nat → Nat → Pic → Rs
  | 0, p, w, h, f => .ok (p, w, h, f)
  | m+1, p, w, h, f => if bq T (nx T p) = 124 then (match C (nx T p + 1) with
    | .error e => .error e
    | .ok q => if q.2.2.1 = h then (if w + q.2.1 ≤ 8 then rowL T C m q.1 (w + q.2.1) h (hst f w q.2.2.2) else .error (3, nx T p)) else .error (2, nx T p)) else .ok (nx T p, w, h, f)
def row (T : List Nat) (P : Nat → Rs) (p : Nat) : Rs := match col T P p with
  | .error e => .error e
  | .ok q => rowL T (col T P) 8 q.1 q.2.1 q.2.2.1 q.2.2.2
def bodyP (T : List Nat) (inner : Option (Nat → Rs)) (p : Nat) : Rs :=
  if 48 ≤ bq T (nx T p) ∧ bq T (nx T p) ≤ 57 then
    (if 50 ≤ bq T (nx T p) ∧ bq T (nx T (nx T p + 1)) = 120 then (match inner with
      | none => .error (1, nx T p)
      | some P => (match P (nx T (nx T p + 1) + 1) with
        | .error e => .error e
        | .ok q => if q.2.1 * (bq T (nx T p) - 48) ≤ 8 then .ok (q.1, q.2.1 * (bq T (nx T p) - 48), q.2.2.1, rep q.2.2.2 q.2.1) else .error (3, nx T (nx T p + 1))))
    else .ok (if 50 ≤ bq T (nx T p) then nx T (nx T p + 1) else nx T p + 1, 1, 1, fun _ _ => bq T (nx T p) - 48))
  else if bq T (nx T p) = 40 then (match inner with
    | none => .error (1, nx T p)
    | some P => (match row T P (nx T p + 1) with
      | .error e => .error e
      | .ok q => if bq T (nx T q.1) = 41 then .ok (nx T q.1 + 1, q.2.1, q.2.2.1, q.2.2.2) else .error (1, nx T q.1)))
  else if bq T (nx T p) = 33 ∨ bq T (nx T p) = 126 then (match inner with
    | none => .error (1, nx T p)
    | some P => (match P (nx T p + 1) with
      | .error e => .error e
      | .ok q => .ok (q.1, q.2.1, q.2.2.1, trn (decide (bq T (nx T p) = 126)) q.2.1 q.2.2.1 q.2.2.2)))
  else .error (1, nx T p)
def part (T : List Nat) : Nat → Nat → Rs
  | 0 => bodyP T none
  | k+1 => bodyP T (some (part T k))
def tapeR (T : List Nat) : Rs := match row T (part T 6) 0 with
  | .error e => .error e
  | .ok q => if bq T (nx T q.1) = 256 then .ok (nx T q.1, q.2.1, q.2.2.1, q.2.2.2) else .error (1, nx T q.1)
-- what every reading keeps
def gdR (T : List Nat) (p : Nat) (s : Rs) : Prop := match s with
  | .error e => 1 ≤ e.1 ∧ e.1 ≤ 3 ∧ e.2 ≤ T.length
  | .ok q => p < q.1 ∧ q.1 ≤ T.length ∧ 1 ≤ q.2.1 ∧ q.2.1 ≤ 8 ∧ 1 ≤ q.2.2.1 ∧ q.2.2.1 ≤ 8 ∧ ∀ c r, c < q.2.1 → r < q.2.2.1 → q.2.2.2 c r < 64 ∧ offs (q.2.2.2 c r) ≤ 9
theorem nxF_ge {T : List Nat} : ∀ (m p : Nat), p ≤ nxF T m p := by
  intro m
  induction m with
  | zero => intro p; exact Nat.le_refl p
  | succ m ih =>
    intro p
    show p ≤ (if T[p]? = some 10 ∨ T[p]? = some 32 then nxF T m (p + 1) else p)
    by_cases h : T[p]? = some 10 ∨ T[p]? = some 32
    · rw [if_pos h]; have := ih (p + 1); omega
    · rw [if_neg h]; exact Nat.le_refl p
theorem nxF_le {T : List Nat} : ∀ (m p : Nat), p ≤ T.length → nxF T m p ≤ T.length := by
  intro m
  induction m with
  | zero => intro p h; exact h
  | succ m ih =>
    intro p hp
    show (if T[p]? = some 10 ∨ T[p]? = some 32 then nxF T m (p + 1) else p) ≤ T.length
    by_cases h : T[p]? = some 10 ∨ T[p]? = some 32
    · rw [if_pos h]
      have : p < T.length := by
        rcases h with h | h <;> exact (List.getElem?_eq_some_iff.mp h).1
      exact ih (p + 1) (by omega)
    · rw [if_neg h]; exact hp
theorem nxF_stop {T : List Nat} : ∀ (m p : Nat), T.length ≤ p + m → ¬ (T[nxF T m p]? = some 10 ∨ T[nxF T m p]? = some 32) := by
  intro m
  induction m with
  | zero =>
    intro p h z
    have : T[p]? = none := List.getElem?_eq_none (by omega)
    have z' : T[p]? = some 10 ∨ T[p]? = some 32 := z
    rw [this] at z'
    rcases z' with z | z <;> cases z
  | succ m ih =>
    intro p h
    show ¬ (T[(if T[p]? = some 10 ∨ T[p]? = some 32 then nxF T m (p + 1) else p)]? = some 10 ∨ T[(if T[p]? = some 10 ∨ T[p]? = some 32 then nxF T m (p + 1) else p)]? = some 32)
    by_cases h1 : T[p]? = some 10 ∨ T[p]? = some 32
    · rw [if_pos h1]; exact ih (p + 1) (by omega)
    · rw [if_neg h1]; exact h1
theorem nx_ge {T : List Nat} {p : Nat} : p ≤ nx T p := nxF_ge _ _
theorem nx_le {T : List Nat} {p : Nat} (h : p ≤ T.length) : nx T p ≤ T.length := nxF_le _ _ h
theorem nx_nx {T : List Nat} {p : Nat} : nx T (nx T p) = nx T p := by
  have h := nxF_stop (T := T) T.length p (by omega)
  show nxF T T.length (nx T p) = nx T p
  cases hl : T.length with
  | zero => rfl
  | succ m =>
    show (if T[nx T p]? = some 10 ∨ T[nx T p]? = some 32 then nxF T m (nx T p + 1) else nx T p) = nx T p
    exact if_neg h
theorem bq_lt {T : List Nat} {q b : Nat} (h : bq T q = b) (hb : b ≠ 256) : q < T.length := by
  unfold bq at h
  cases hq : T[q]? with
  | none => rw [hq] at h; exact absurd h.symm hb
  | some x => exact (List.getElem?_eq_some_iff.mp hq).1
theorem gd_err {T : List Nat} {p k q : Nat} (h1 : 1 ≤ k) (h2 : k ≤ 3) (h3 : q ≤ T.length) : gdR T p (.error (k, q)) := ⟨h1, h2, h3⟩
theorem gd_pos {T : List Nat} {p p' : Nat} {s : Rs} (h : gdR T p s) (hp : p' ≤ p) : gdR T p' s := by
  unfold gdR at *
  cases s with
  | error e => exact h
  | ok q => exact ⟨by have := h.1; omega, h.2⟩
theorem gd_colL {T : List Nat} {P : Nat → Rs} (hP : ∀ p, p ≤ T.length → gdR T p (P p)) : ∀ (m p p0 w h : Nat) (f : Pic), p0 < p → p ≤ T.length → gdR T p0 (.ok (p, w, h, f)) → gdR T p0 (colL T P m p w h f) := by
  intro m
  induction m with
  | zero => intro p p0 w h f _ _ hg; exact hg
  | succ m ih =>
    intro p p0 w h f h0 hp hg
    have hn := nx_ge (T := T) (p := p)
    have hn2 := nx_le hp
    unfold colL
    by_cases hb : bq T (nx T p) = 47
    · rw [if_pos hb]
      have hq := bq_lt hb (by decide)
      have hP1 := hP (nx T p + 1) (by omega)
      cases hr : P (nx T p + 1) with
      | error e => rw [hr] at hP1; exact hP1
      | ok q =>
        rw [hr] at hP1
        obtain ⟨g1, g2, g3, g4, g5, g6, g7⟩ := hP1
        obtain ⟨k1, k2, k3, k4, k5, k6, k7⟩ := hg
        simp only
        by_cases hw : q.2.1 = w
        · rw [if_pos hw]
          by_cases h8 : h + q.2.2.1 ≤ 8
          · rw [if_pos h8]
            refine ih q.1 p0 w _ _ (by omega) g2 ⟨by omega, g2, k3, k4, by simp only at k5 ⊢; omega, h8, fun c r hc hr2 => ?_⟩
            show vst f h q.2.2.2 c r < 64 ∧ offs (vst f h q.2.2.2 c r) ≤ 9
            unfold vst
            have hr3 : r < h + q.2.2.1 := hr2
            have hc2 : c < w := hc
            by_cases hrh : r < h
            · rw [if_pos hrh]; exact k7 c r hc2 hrh
            · rw [if_neg hrh]; exact g7 c (r - h) (by omega) (by omega)
          · rw [if_neg h8]; exact gd_err (by decide) (by decide) hn2
        · rw [if_neg hw]; exact gd_err (by decide) (by decide) hn2
    · rw [if_neg hb]
      exact ⟨by omega, hn2, hg.2.2⟩
theorem gd_col {T : List Nat} {P : Nat → Rs} (hP : ∀ p, p ≤ T.length → gdR T p (P p)) (p : Nat) (hp : p ≤ T.length) : gdR T p (col T P p) := by
  unfold col
  have h := hP p hp
  cases hr : P p with
  | error e => rw [hr] at h; exact h
  | ok q => rw [hr] at h; exact gd_colL hP 8 q.1 p q.2.1 q.2.2.1 q.2.2.2 h.1 h.2.1 h
theorem gd_rowL {T : List Nat} {P : Nat → Rs} (hP : ∀ p, p ≤ T.length → gdR T p (P p)) : ∀ (m p p0 w h : Nat) (f : Pic), p0 < p → p ≤ T.length → gdR T p0 (.ok (p, w, h, f)) → gdR T p0 (rowL T P m p w h f) := by
  intro m
  induction m with
  | zero => intro p p0 w h f _ _ hg; exact hg
  | succ m ih =>
    intro p p0 w h f h0 hp hg
    have hn := nx_ge (T := T) (p := p)
    have hn2 := nx_le hp
    unfold rowL
    by_cases hb : bq T (nx T p) = 124
    · rw [if_pos hb]
      have hq := bq_lt hb (by decide)
      have hP1 := hP (nx T p + 1) (by omega)
      cases hr : P (nx T p + 1) with
      | error e => rw [hr] at hP1; exact hP1
      | ok q =>
        rw [hr] at hP1
        obtain ⟨g1, g2, g3, g4, g5, g6, g7⟩ := hP1
        obtain ⟨k1, k2, k3, k4, k5, k6, k7⟩ := hg
        simp only
        by_cases hw : q.2.2.1 = h
        · rw [if_pos hw]
          by_cases h8 : w + q.2.1 ≤ 8
          · rw [if_pos h8]
            refine ih q.1 p0 _ h _ (by omega) g2 ⟨by omega, g2, by simp only at k3 ⊢; omega, h8, k5, k6, fun c r hc hr2 => ?_⟩
            show hst f w q.2.2.2 c r < 64 ∧ offs (hst f w q.2.2.2 c r) ≤ 9
            unfold hst
            have hr3 : r < h := hr2
            have hc2 : c < w + q.2.1 := hc
            by_cases hrh : c < w
            · rw [if_pos hrh]; exact k7 c r hrh hr3
            · rw [if_neg hrh]; exact g7 (c - w) r (by omega) (by omega)
          · rw [if_neg h8]; exact gd_err (by decide) (by decide) hn2
        · rw [if_neg hw]; exact gd_err (by decide) (by decide) hn2
    · rw [if_neg hb]
      exact ⟨by omega, hn2, hg.2.2⟩
theorem gd_row {T : List Nat} {P : Nat → Rs} (hP : ∀ p, p ≤ T.length → gdR T p (P p)) (p : Nat) (hp : p ≤ T.length) : gdR T p (row T P p) := by
  unfold row
  have h := gd_col hP p hp
  cases hr : col T P p with
  | error e => rw [hr] at h; exact h
  | ok q => rw [hr] at h; exact gd_rowL (gd_col hP) 8 q.1 p q.2.1 q.2.2.1 q.2.2.2 h.1 h.2.1 h
theorem x16 : ∀ v, v < 64 → v ^^^ 16 < 64 ∧ offs (v ^^^ 16) = offs v := by decide +kernel
theorem x32 : ∀ v, v < 64 → v ^^^ 32 < 64 ∧ offs (v ^^^ 32) = offs v := by decide +kernel
theorem gd_body {T : List Nat} {inner : Option (Nat → Rs)} (hP : ∀ P, inner = some P → ∀ p, p ≤ T.length → gdR T p (P p)) (p : Nat) (hp : p ≤ T.length) : gdR T p (bodyP T inner p) := by
  have hn := nx_ge (T := T) (p := p)
  have hn2 := nx_le hp
  have err : ∀ q, q ≤ T.length → gdR T p (.error (1, q)) := fun q hq => gd_err (by decide) (by decide) hq
  unfold bodyP
  by_cases hd : 48 ≤ bq T (nx T p) ∧ bq T (nx T p) ≤ 57
  · rw [if_pos hd]
    have hq := bq_lt (T := T) (q := nx T p) rfl (by omega)
    have hn3 := nx_ge (T := T) (p := nx T p + 1)
    have hn4 := nx_le (T := T) (p := nx T p + 1) (by omega)
    by_cases hx : 50 ≤ bq T (nx T p) ∧ bq T (nx T (nx T p + 1)) = 120
    · rw [if_pos hx]
      have hq2 := bq_lt hx.2 (by decide)
      cases hi : inner with
      | none => exact err _ hn2
      | some P =>
        have h := hP P hi (nx T (nx T p + 1) + 1) (by omega)
        simp only
        cases hr : P (nx T (nx T p + 1) + 1) with
        | error e => rw [hr] at h; exact h
        | ok q =>
          rw [hr] at h
          obtain ⟨g1, g2, g3, g4, g5, g6, g7⟩ := h
          simp only
          by_cases h8 : q.2.1 * (bq T (nx T p) - 48) ≤ 8
          · rw [if_pos h8]
            refine ⟨by simp only; omega, g2, ?_, h8, g5, g6, fun c r hc hr2 => ?_⟩
            · show 1 ≤ q.2.1 * (bq T (nx T p) - 48)
              exact Nat.mul_pos g3 (by omega)
            · exact g7 (c % q.2.1) r (Nat.mod_lt _ g3) hr2
          · rw [if_neg h8]; exact gd_err (by decide) (by decide) hn4
    · rw [if_neg hx]
      refine ⟨?_, ?_, Nat.le_refl 1, show 1 ≤ 8 by decide, Nat.le_refl 1, show 1 ≤ 8 by decide, fun c r _ _ => ?_⟩
      · show p < (if 50 ≤ bq T (nx T p) then nx T (nx T p + 1) else nx T p + 1)
        by_cases h5 : 50 ≤ bq T (nx T p)
        · rw [if_pos h5]; omega
        · rw [if_neg h5]; omega
      · show (if 50 ≤ bq T (nx T p) then nx T (nx T p + 1) else nx T p + 1) ≤ T.length
        by_cases h5 : 50 ≤ bq T (nx T p)
        · rw [if_pos h5]; omega
        · rw [if_neg h5]; omega
      · show bq T (nx T p) - 48 < 64 ∧ offs (bq T (nx T p) - 48) ≤ 9
        unfold offs
        omega
  · rw [if_neg hd]
    by_cases hb : bq T (nx T p) = 40
    · rw [if_pos hb]
      have hq := bq_lt hb (by decide)
      cases hi : inner with
      | none => exact err _ hn2
      | some P =>
        have h := gd_row (hP P hi) (nx T p + 1) (by omega)
        simp only
        cases hr : row T P (nx T p + 1) with
        | error e => rw [hr] at h; exact h
        | ok q =>
          rw [hr] at h
          have hn5 := nx_ge (T := T) (p := q.1)
          have hn6 := nx_le (T := T) (p := q.1) h.2.1
          simp only
          by_cases hc : bq T (nx T q.1) = 41
          · rw [if_pos hc]
            have hq2 := bq_lt hc (by decide)
            exact ⟨by have := h.1; simp only; omega, hq2, h.2.2⟩
          · rw [if_neg hc]; exact err _ hn6
    · rw [if_neg hb]
      by_cases ht : bq T (nx T p) = 33 ∨ bq T (nx T p) = 126
      · rw [if_pos ht]
        have hq := bq_lt (T := T) (q := nx T p) rfl (by omega)
        cases hi : inner with
        | none => exact err _ hn2
        | some P =>
          have h := hP P hi (nx T p + 1) (by omega)
          simp only
          cases hr : P (nx T p + 1) with
          | error e => rw [hr] at h; exact h
          | ok q =>
            rw [hr] at h
            obtain ⟨g1, g2, g3, g4, g5, g6, g7⟩ := h
            refine ⟨by simp only; omega, g2, g3, g4, g5, g6, fun c r hc hr2 => ?_⟩
            have hc2 : c < q.2.1 := hc
            have hr3 : r < q.2.2.1 := hr2
            show trn (decide (bq T (nx T p) = 126)) q.2.1 q.2.2.1 q.2.2.2 c r < 64 ∧ offs (trn (decide (bq T (nx T p) = 126)) q.2.1 q.2.2.1 q.2.2.2 c r) ≤ 9
            unfold trn
            by_cases hdn : bq T (nx T p) = 126
            · rw [if_pos (decide_eq_true hdn)]
              have k := g7 (q.2.1 - 1 - c) (q.2.2.1 - 1 - r) (by omega) (by omega)
              have k1 := x16 _ k.1
              have k2 := x32 _ k1.1
              exact ⟨k2.1, by rw [k2.2, k1.2]; exact k.2⟩
            · rw [if_neg (by rw [decide_eq_false hdn]; exact Bool.false_ne_true)]
              have k := g7 (q.2.1 - 1 - c) r (by omega) (by omega)
              have k1 := x16 _ k.1
              exact ⟨k1.1, by rw [k1.2]; exact k.2⟩
      · rw [if_neg ht]; exact err _ hn2
theorem gd_part {T : List Nat} : ∀ (k p : Nat), p ≤ T.length → gdR T p (part T k p) := by
  intro k
  induction k with
  | zero => intro p hp; exact gd_body (fun P h => by cases h) p hp
  | succ k ih => intro p hp; exact gd_body (fun P h => by cases h; exact ih) p hp
