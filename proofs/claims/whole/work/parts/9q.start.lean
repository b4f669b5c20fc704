/-! all is set: the world stands; the two memories at the start -/
theorem arrV_same {c : ClassId} {n : Nat} {f g : Nat → Value} (h : ∀ j, j < n → f j = g j) : arrV c n f = arrV c n g := by
  unfold arrV
  have : (Array.ofFn (n := n) fun j => f j.val) = (Array.ofFn (n := n) fun j => g j.val) := by
    congr 1
    funext j
    exact h j.val j.isLt
  rw [this]
theorem rb_len : ∀ k, k < 11 → (rbL.getD k []).length = nf k := by decide +kernel
theorem rb_lt {k j : Nat} (hk : k < 11) (h : rb k j = true) : j < nf k := by
  rw [← rb_len k hk]
  by_cases hj : j < (rbL.getD k []).length
  · exact hj
  · unfold rb at h
    rw [List.getD_eq_getElem?_getD, List.getElem?_eq_none (Nat.le_of_not_lt hj)] at h
    cases h
/-- every reference of place a is set -/
def fullA (k n : Nat) (zr : Nat → Bool) : Bool := if k < 11 then (List.range (nf k)).all (fun j => !(rb k j) || zr j) else if 12 < k then (List.range n).all (fun i => zr i) else true
theorem va_at_full {V : Ev} {μ : Mem} {z : Zt} {H : Heap} {D : va_G} {x a : Nat} (hf : fullA (evK V a) (evL V a) (z a) = true) (h : va_at D vwCl (x, encG V μ z a) H) : va_at D vwCl (x, enc V μ a) H := by
  unfold fullA at hf
  by_cases h1 : evK V a < 11
  · rw [if_pos h1, List.all_eq_true] at hf
    rw [encG_obj rfl h1] at h
    rw [enc_obj rfl h1]
    have e : (List.range (nf (evK V a))).map (encGF V μ z a) = (List.range (nf (evK V a))).map (encF V μ a) := by
      apply List.map_congr_left
      intro j hj
      unfold encGF encF
      by_cases hr : rb (evK V a) j = true
      · have := hf j hj
        rw [hr] at this
        rw [if_pos hr, if_pos hr, if_pos (by simpa using this)]
      · rw [if_neg hr, if_neg hr]
    rw [e] at h
    exact h
  · rw [if_neg h1] at hf
    by_cases h2 : 12 < evK V a
    · rw [if_pos h2, List.all_eq_true] at hf
      rw [encG_ar rfl h2 rfl] at h
      rw [enc_ar rfl h2 rfl]
      have h : H[x]? = some (vp_cell (evC V (evK V a)) (evL V a, .inr (.inr (.inr (.inr (fun i => if z a i = true then some (evA V (evR V a i)) else none)))))) := h
      show H[x]? = some (vp_cell (evC V (evK V a)) (evL V a, .inr (.inr (.inr (.inr (fun i => some (evA V (evR V a i))))))))
      rw [h, vp_cell_q, vp_cell_q]
      congr 1
      apply arrV_same
      intro j hj
      have := hf j (List.mem_range.mpr hj)
      rw [if_pos this]
    · rcases (show evK V a = 11 ∨ evK V a = 12 by omega) with h3 | h3
      · rw [encG_ai h3 rfl] at h
        rw [enc_ai h3 rfl]; exact h
      · rw [encG_aj h3 rfl] at h
        rw [enc_aj h3 rfl]; exact h
theorem va_P_full {V : Ev} {μ : Mem} {z : Zt} {H : Heap} {D : va_G} {n : Nat} (hn : evN V = n) (hf : ∀ a, a < n → fullA (evK V a) (evL V a) (z a) = true) (h : va_P D vwCl (wlG V μ z n) H) : va_P D vwCl (wl V μ) H := by
  intro k q hk
  by_cases hl : k < n
  · rw [wl_get (by omega)] at hk
    cases hk
    exact va_at_full (hf k hl) (h k _ (wlG_get hl))
  · unfold wl at hk; rw [List.getElem?_eq_none (by simp; omega)] at hk; cases hk
theorem va_D_full {V : Ev} {μ : Mem} {z : Zt} {A : Nat → Prop} {n : Nat} (hn : evN V = n) (h : va_D A (wlG V μ z n)) : va_D A (wl V μ) := by
  have key : ∀ (k : Nat) (q : Nat × va_E), (wl V μ)[k]? = some q → ∃ q0 : Nat × va_E, (wlG V μ z n)[k]? = some q0 ∧ q0.1 = q.1 := by
    intro k q hk
    by_cases hl : k < n
    · rw [wl_get (by omega)] at hk; cases hk; exact ⟨_, wlG_get hl, rfl⟩
    · unfold wl at hk; rw [List.getElem?_eq_none (by simp; omega)] at hk; cases hk
  refine ⟨fun i j x y hi hj hxy => ?_, fun k q hk => ?_⟩
  · obtain ⟨x0, h1, h2⟩ := key i x hi
    obtain ⟨y0, h3, h4⟩ := key j y hj
    exact h.1 i j x0 y0 h1 h3 (h2.trans (hxy.trans h4.symm))
  · obtain ⟨q0, h1, h2⟩ := key k q hk
    rw [← h2]; exact h.2 k q0 h1
def z0 : Zt := fun _ _ => false
def μ0 : Mem := (fun _ _ => 0, fun _ _ => 0)
theorem okB_0 {V : Ev} : okB V z0 1 := fun _ _ h => (by cases h)
theorem mB_0 : mB μ0 1 := fun _ _ => ⟨rfl, rfl⟩
theorem full_C : ∀ a, a < 93 → fullA (kdC a) (lnC a) (zX z0 a) = true := by decide +kernel
theorem full_M : ∀ a, a < 52 → fullA (kdM a) (lnM a) (zM z0 a) = true := by decide +kernel
theorem fullC {V : Ev} (hL : V.2.2.2 = lyC) : ∀ a, a < 93 → fullA (evK V a) (evL V a) (zX z0 a) = true := fun a ha => by
  rw [ekC hL (rfl : kdC a = kdC a), elC hL (rfl : lnC a = lnC a)]; exact full_C a ha
theorem fullM {V : Ev} (hL : V.2.2.2 = lyM) : ∀ a, a < 52 → fullA (evK V a) (evL V a) (zM z0 a) = true := fun a ha => by
  rw [ekM hL (rfl : kdM a = kdM a), elM hL (rfl : lnM a = lnM a)]; exact full_M a ha
def σ0 : St := (fun _ => none, fun _ => none, [], [], (0, -1), fun _ => -1)
theorem sim0 : Sim 0 (mX μ0) (mM μ0) := by
  refine ⟨σ0, ?_, ?_, ?_⟩
  · refine ⟨fun l g h => (by cases h), fun d D h => (by cases h), fun s h => (by cases h), List.Pairwise.nil, Nat.le_refl 0, fun d hd => rfl, Nat.zero_le _, fun b h => (by cases h), by decide, by decide, by decide, fun d hd => ⟨by show (-1 : Int) ≤ -1; decide, by show (-1 : Int) ≤ 2; decide⟩⟩
  · refine ⟨fun l hl => ?_, fun d hd => ?_, fun l g hl h => (by cases h), ⟨by decide +kernel, fun k b h => (by cases h)⟩, ⟨by decide +kernel, by decide +kernel⟩, fun d hd => ?_⟩
    · show (mX μ0).1 (11 + 15 * l) 0 = 0
      have : ∀ l, l < 3 → (mX μ0).1 (11 + 15 * l) 0 = 0 := by decide +kernel
      exact this l hl
    · show (mX μ0).1 (56 + 4 * d) 2 = 0 ∧ (mX μ0).1 (56 + 4 * d) 8 = -1
      have : ∀ d, d < 8 → (mX μ0).1 (56 + 4 * d) 2 = 0 ∧ (mX μ0).1 (56 + 4 * d) 8 = -1 := by decide +kernel
      exact this d hd
    · have : ∀ d, d < 8 → (mX μ0).1 89 d = iz (-1) := by decide +kernel
      exact this d hd
  · refine ⟨fun l hl => ?_, fun d hd => ?_, ⟨by decide +kernel, fun k b h => (by cases h)⟩, ⟨by decide +kernel, fun k b h => (by cases h)⟩, ⟨by decide +kernel, by decide +kernel⟩, Or.inl ⟨by decide +kernel, fun d hd => rfl⟩⟩
    · show (mM μ0).1 1 l = 0
      have : ∀ l, l < 3 → (mM μ0).1 1 l = 0 := by decide +kernel
      exact this l hl
    · show (mM μ0).1 38 d = 0 ∧ (mM μ0).1 44 d = -1
      have : ∀ d, d < 8 → (mM μ0).1 38 d = 0 ∧ (mM μ0).1 44 d = -1 := by decide +kernel
      exact this d hd
