/-! all is set: the world stands; the two memories at the start -/
theorem arrV_same {c : ClassId} {n : Nat} {f g : Nat → Value} (h : ∀ j, j < n → f j = g j) : arrV c n f = arrV c n g := by
  unfold arrV
  have : (Array.ofFn (n := n) fun j => f j.val) = (Array.ofFn (n := n) fun j => g j.val) := by
    congr 1
    funext j
    exact h j.val j.isLt
  rw [this]
theorem rb_len : ∀ k, k < 11 → (rbL.getD k []).length = nf k := by decide +kernel
theorem rb_lt {k j : Nat} (hk : k < 11) (h : rb k j = true) : j < nf k := by
  rw [← rb_len k hk]
  by_cases hj : j < (rbL.getD k []).length
  · exact hj
  · unfold rb at h
    rw [List.getD_eq_getElem?_getD, List.getElem?_eq_none (Nat.le_of_not_lt hj)] at h
    cases h
/-- every reference of place a is set -/
def fullA (k n : Nat) (zr : Nat → Bool) : Bool := if k < 11 then (List.range (nf k)).all (fun j => !(rb k j) || zr j) else if 12 < k then (List.range n).all (fun i => zr i) else true
theorem va_at_full {V : Ev} {μ : Mem} {z : Zt} {H : Heap} {D : va_G} {x a : Nat} (hf : fullA (evK V a) (evL V a) (z a) = true) (h : va_at D vwCl (x, encG V μ z a) H) : va_at D vwCl (x, enc V μ a) H := by
  unfold fullA at hf
  by_cases h1 : evK V a < 11
  · rw [if_pos h1, List.all_eq_true] at hf
    rw [encG_obj rfl h1] at h
    rw [enc_obj rfl h1]
    have e : (List.range (nf (evK V a))).map (encGF V μ z a) = (List.range (nf (evK V a))).map (encF V μ a) := by
      apply List.map_congr_left
      intro j hj
      unfold encGF encF
      by_cases hr : rb (evK V a) j = true
      · have := hf j hj
        rw [hr] at this
        rw [if_pos hr, if_pos hr, if_pos (by simpa using this)]
      · rw [if_neg hr, if_neg hr]
    rw [e] at h
    exact h
  · rw [if_neg h1] at hf
    by_cases h2 : 12 < evK V a
    · rw [if_pos h2, List.all_eq_true] at hf
      rw [encG_ar rfl h2 rfl] at h
      rw [enc_ar rfl h2 rfl]
      have h : H[x]? = some (vp_cell (evC V (evK V a)) (evL V a, .inr (.inr (.inr (.inr (fun i => if z a i = true then some (evA V (evR V a i)) else none)))))) := h
      show H[x]? = some (vp_cell (evC V (evK V a)) (evL V a, .inr (.inr (.inr (.inr (fun i => some (evA V (evR V a i))))))))
      rw [h, vp_cell_q, vp_cell_q]
      congr 1
      apply arrV_same
      intro j hj
      have := hf j (List.mem_range.mpr hj)
      rw [if_pos this]
    · rcases (show evK V a = 11 ∨ evK V a = 12 by omega) with h3 | h3
      · rw [encG_ai h3 rfl] at h
        rw [enc_ai h3 rfl]; exact h
      · rw [encG_aj h3 rfl] at h
        rw [enc_aj h3 rfl]; exact h
theorem va_P_full {V : Ev} {μ : Mem} {z : Zt} {H : Heap} {D : va_G} {n : Nat} (hn : evN V = n) (hf : ∀ a, a < n → fullA (evK V a) (evL V a) (z a) = true) (h : va_P D vwCl (wlG V μ z n) H) : va_P D vwCl (wl V μ) H := by
  intro k q hk
  by_cases hl : k < n
  · rw [wl_get (by omega)] at hk
    cases hk
    exact va_at_full (hf k hl) (h k _ (wlG_get hl))
  · unfold wl at hk; rw [List.getElem?_eq_none (by simp; omega)] at hk; cases hk
theorem va_D_full {V : Ev} {μ : Mem} {z : Zt} {A : Nat → Prop} {n : Nat} (hn : evN V = n) (h : va_D A (wlG V μ z n)) : va_D A (wl V μ) := by
  have key : ∀ (k : Nat) (q : Nat × va_E), (wl V μ)[k]? = some q → ∃ q0 : Nat × va_E, (wlG V μ z n)[k]? = some q0 ∧ q0.1 = q.1 := by
    intro k q hk
    by_cases hl : k < n
    · rw [wl_get (by omega)] at hk; cases hk; exact ⟨_, wlG_get hl, rfl⟩
    · unfold wl at hk; rw [List.getElem?_eq_none (by simp; omega)] at hk; cases hk
  refine ⟨fun i j x y hi hj hxy => ?_, fun k q hk => ?_⟩
  · obtain ⟨x0, h1, h2⟩ := key i x hi
    obtain ⟨y0, h3, h4⟩ := key j y hj
    exact h.1 i j x0 y0 h1 h3 (h2.trans (hxy.trans h4.symm))
  · obtain ⟨q0, h1, h2⟩ := key k q hk
    rw [← h2]; exact h.2 k q0 h1
def z0 : Zt := fun _ _ => false
def μ0 : Mem := (fun _ _ => 0, fun _ _ => 0)
theorem okB_0 {V : Ev} : okB V z0 1 := fun _ _ h => (by cases h)
theorem mB_0 : mB μ0 1 := fun _ _ => ⟨rfl, rfl⟩
theorem full_C : ∀ a, a < 93 → fullA (kdK a) (lnK a) (zX z0 a) = true := by decide +kernel
theorem full_M : ∀ a, a < 52 → fullA (kdM a) (lnM a) (zM z0 a) = true := by decide +kernel
theorem fullC {V : Ev} (hL : V.2.2.2 = lyK) : ∀ a, a < 93 → fullA (evK V a) (evL V a) (zX z0 a) = true := fun a ha => by
  rw [ekK hL (rfl : kdK a = kdK a), elK hL (rfl : lnK a = lnK a)]; exact full_C a ha
theorem fullM {V : Ev} (hL : V.2.2.2 = lyM) : ∀ a, a < 52 → fullA (evK V a) (evL V a) (zM z0 a) = true := fun a ha => by
  rw [ekM hL (rfl : kdM a = kdM a), elM hL (rfl : lnM a = lnM a)]; exact full_M a ha
/-! from the order of making to the places that the walks name -/
def pC (a : Nat) : Nat := if a < 11 then [0, 2, 3, 1, 4, 5, 7, 8, 9, 10, 11].getD a 0 else if a < 88 then a + 1 else if a = 88 then 6 else a
def qC (a : Nat) : Nat := if a < 12 then [0, 3, 1, 2, 4, 5, 88, 6, 7, 8, 9, 10].getD a 0 else if a < 89 then a - 1 else a
def pm (μ : Mem) : Mem := (fun a => μ.1 (pC a), fun a => μ.2 (pC a))
def mX (μ : Mem) : Mem := pm (mK μ)
theorem pC_lt : ∀ a, a < 93 → pC a < 93 := by decide +kernel
theorem qC_pC : ∀ a, a < 93 → qC (pC a) = a := by decide +kernel
theorem pC_kd : ∀ a, a < 93 → kdK (pC a) = kdC a ∧ lnK (pC a) = lnC a := by decide +kernel
def pB (a : Nat) : Bool := if kdC a < 11 then (List.range (nf (kdC a))).all (fun j => !(rb (kdC a) j) || decide (pC (rfC a j) = rfK (pC a) j)) else if 12 < kdC a then (List.range (lnC a)).all (fun j => decide (pC (rfC a j) = rfK (pC a) j)) else true
theorem pB_all : ∀ a, a < 93 → pB a = true := by decide +kernel
theorem kdC_16 : ∀ a, a < 93 → kdC a < 16 := by decide +kernel
theorem perm_at {D : va_G} {C : Nat → ClassId} {ad : Nat → Nat} {μ : Mem} {H : Heap} {x a : Nat} (ha : a < 93) (h : va_at D vwCl (x, enc (ad, D, C, lyK) μ (pC a)) H) : va_at D vwCl (x, enc ((fun b => ad (pC b)), D, C, lyC) (pm μ) a) H := by
  obtain ⟨hk, hl⟩ := pC_kd a ha
  have hb := pB_all a ha
  have h16 := kdC_16 a ha
  unfold pB at hb
  have k1 : evK ((fun b => ad (pC b)), D, C, lyC) a = kdC a := rfl
  have k2 : evK (ad, D, C, lyK) (pC a) = kdC a := hk
  have n1 : evL ((fun b => ad (pC b)), D, C, lyC) a = lnC a := rfl
  have n2 : evL (ad, D, C, lyK) (pC a) = lnC a := hl
  by_cases h1 : kdC a < 11
  · rw [if_pos h1, List.all_eq_true] at hb
    rw [enc_obj k2 h1] at h
    rw [enc_obj k1 h1]
    have e : (List.range (nf (kdC a))).map (encF (ad, D, C, lyK) μ (pC a)) = (List.range (nf (kdC a))).map (encF ((fun b => ad (pC b)), D, C, lyC) (pm μ) a) := by
      apply List.map_congr_left
      intro j hj
      unfold encF
      rw [k1, k2]
      by_cases hr : rb (kdC a) j = true
      · have hj2 := hb j hj
        rw [hr] at hj2
        have hj3 : pC (rfC a j) = rfK (pC a) j := by simpa using hj2
        rw [if_pos hr, if_pos hr]
        show Value.ref (ad (rfK (pC a) j)) = Value.ref (ad (pC (rfC a j)))
        rw [hj3]
      · rw [if_neg hr, if_neg hr]
        rfl
    rw [e] at h
    exact h
  · rw [if_neg h1] at hb
    by_cases h2 : 12 < kdC a
    · rw [if_pos h2, List.all_eq_true] at hb
      rw [enc_ar k2 h2 n2] at h
      rw [enc_ar k1 h2 n1]
      have h : H[x]? = some (vp_cell (C (kdC a)) (lnC a, .inr (.inr (.inr (.inr (fun i => some (ad (rfK (pC a) i)))))))) := h
      show H[x]? = some (vp_cell (C (kdC a)) (lnC a, .inr (.inr (.inr (.inr (fun i => some (ad (pC (rfC a i)))))))))
      rw [h, vp_cell_q, vp_cell_q]
      congr 1
      apply arrV_same
      intro j hj
      have hj3 : pC (rfC a j) = rfK (pC a) j := by simpa using hb j (List.mem_range.mpr hj)
      rw [hj3]
    · rcases (show kdC a = 11 ∨ kdC a = 12 by omega) with h3 | h3
      · rw [enc_ai (k2.trans h3) n2] at h
        rw [enc_ai (k1.trans h3) n1]; exact h
      · rw [enc_aj (k2.trans h3) n2] at h
        rw [enc_aj (k1.trans h3) n1]; exact h
theorem perm_P {D : va_G} {C : Nat → ClassId} {ad : Nat → Nat} {μ : Mem} {H : Heap} (h : va_P D vwCl (wl (ad, D, C, lyK) μ) H) : va_P D vwCl (wl ((fun b => ad (pC b)), D, C, lyC) (pm μ)) H := by
  intro k q hk
  by_cases hl : k < 93
  · rw [wl_get (show k < evN ((fun b => ad (pC b)), D, C, lyC) from hl)] at hk
    cases hk
    exact perm_at hl (h (pC k) _ (wl_get (show pC k < evN (ad, D, C, lyK) from pC_lt k hl)))
  · have hn : evN ((fun b => ad (pC b)), D, C, lyC) = 93 := rfl
    unfold wl at hk; rw [List.getElem?_eq_none (by simp [hn]; omega)] at hk; cases hk
theorem perm_D {D : va_G} {C : Nat → ClassId} {ad : Nat → Nat} {μ μ2 : Mem} {A : Nat → Prop} (h : va_D A (wl (ad, D, C, lyK) μ)) : va_D A (wl ((fun b => ad (pC b)), D, C, lyC) μ2) := by
  have key : ∀ (k : Nat) (q : Nat × va_E), (wl ((fun b => ad (pC b)), D, C, lyC) μ2)[k]? = some q → k < 93 ∧ ∃ q0 : Nat × va_E, (wl (ad, D, C, lyK) μ)[pC k]? = some q0 ∧ q0.1 = q.1 := by
    intro k q hk
    by_cases hl : k < 93
    · rw [wl_get (show k < evN ((fun b => ad (pC b)), D, C, lyC) from hl)] at hk
      cases hk
      exact ⟨hl, _, wl_get (show pC k < evN (ad, D, C, lyK) from pC_lt k hl), rfl⟩
    · have hn : evN ((fun b => ad (pC b)), D, C, lyC) = 93 := rfl
      unfold wl at hk; rw [List.getElem?_eq_none (by simp [hn]; omega)] at hk; cases hk
  refine ⟨fun i j x y hi hj hxy => ?_, fun k q hk => ?_⟩
  · obtain ⟨l1, x0, h1, h2⟩ := key i x hi
    obtain ⟨l2, y0, h3, h4⟩ := key j y hj
    have hij := h.1 (pC i) (pC j) x0 y0 h1 h3 (h2.trans (hxy.trans h4.symm))
    rw [← qC_pC i l1, ← qC_pC j l2, hij]
  · obtain ⟨_, q0, h1, h2⟩ := key k q hk
    rw [← h2]; exact h.2 (pC k) q0 h1
def σ0 : St := (fun _ => none, fun _ => none, [], [], (0, -1), fun _ => -1)
theorem sim0 : Sim 0 (mX μ0) (mM μ0) := by
  refine ⟨σ0, ?_, ?_, ?_⟩
  · refine ⟨fun l g h => (by cases h), fun d D h => (by cases h), fun s h => (by cases h), List.Pairwise.nil, Nat.le_refl 0, fun d hd => rfl, Nat.zero_le _, fun b h => (by cases h), by decide, by decide, by decide, fun d hd => ⟨by show (-1 : Int) ≤ -1; decide, by show (-1 : Int) ≤ 2; decide⟩⟩
  · refine ⟨fun l hl => ?_, fun d hd => ?_, fun l g hl h => (by cases h), ⟨by decide +kernel, fun k b h => (by cases h)⟩, ⟨by decide +kernel, by decide +kernel⟩, fun d hd => ?_⟩
    · show (mX μ0).1 (11 + 15 * l) 0 = 0
      have : ∀ l, l < 3 → (mX μ0).1 (11 + 15 * l) 0 = 0 := by decide +kernel
      exact this l hl
    · show (mX μ0).1 (56 + 4 * d) 2 = 0 ∧ (mX μ0).1 (56 + 4 * d) 8 = -1
      have : ∀ d, d < 8 → (mX μ0).1 (56 + 4 * d) 2 = 0 ∧ (mX μ0).1 (56 + 4 * d) 8 = -1 := by decide +kernel
      exact this d hd
    · have : ∀ d, d < 8 → (mX μ0).1 89 d = iz (-1) := by decide +kernel
      exact this d hd
  · refine ⟨fun l hl => ?_, fun d hd => ?_, ⟨by decide +kernel, fun k b h => (by cases h)⟩, ⟨by decide +kernel, fun k b h => (by cases h)⟩, ⟨by decide +kernel, by decide +kernel⟩, Or.inl ⟨by decide +kernel, fun d hd => rfl⟩⟩
    · show (mM μ0).1 1 l = 0
      have : ∀ l, l < 3 → (mM μ0).1 1 l = 0 := by decide +kernel
      exact this l hl
    · show (mM μ0).1 38 d = 0 ∧ (mM μ0).1 44 d = -1
      have : ∀ d, d < 8 → (mM μ0).1 38 d = 0 ∧ (mM μ0).1 44 d = -1 := by decide +kernel
      exact this d hd
