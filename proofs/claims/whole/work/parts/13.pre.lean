/-! layouts of the two worlds, words of the tables, and rows in the form that the program prints -/
def kdCL : List Nat := [9, 7, 11, 6, 1, 11, 8, 15, 13, 2, 11, 4, 11, 14, 12, 12, 3, 3, 3, 3, 3, 3, 3, 3, 3, 3, 4, 11, 14, 12, 12, 3, 3, 3, 3, 3, 3, 3, 3, 3, 3, 4, 11, 14, 12, 12, 3, 3, 3, 3, 3, 3, 3, 3, 3, 3, 0, 1, 11, 11, 0, 1, 11, 11, 0, 1, 11, 11, 0, 1, 11, 11, 0, 1, 11, 11, 0, 1, 11, 11, 0, 1, 11, 11, 0, 1, 11, 11, 5, 11, 11, 11, 11]
def lnCL : List Nat := [0, 0, 400, 0, 0, 64, 0, 3, 8, 0, 10, 0, 12, 10, 720, 720, 0, 0, 0, 0, 0, 0, 0, 0, 0, 0, 0, 12, 10, 720, 720, 0, 0, 0, 0, 0, 0, 0, 0, 0, 0, 0, 12, 10, 720, 720, 0, 0, 0, 0, 0, 0, 0, 0, 0, 0, 0, 0, 64, 10, 0, 0, 64, 10, 0, 0, 64, 10, 0, 0, 64, 10, 0, 0, 64, 10, 0, 0, 64, 10, 0, 0, 64, 10, 0, 0, 64, 10, 0, 8, 3, 3, 3]
def kdC (a : Nat) : Nat := kdCL.getD a 99
def lnC (a : Nat) : Nat := lnCL.getD a 0
def rfC (a j : Nat) : Nat := if kdC a = 9 then [3, 1, 88, 6].getD j 0 else if kdC a = 7 then 2 else if kdC a = 6 then (if j = 0 then 1 else 4) else if kdC a = 1 then a + 1 else if kdC a = 8 then 7 + j else if kdC a = 15 then 11 + 15 * j else if kdC a = 13 then 56 + 4 * j else if kdC a = 14 then a + 3 + j else if kdC a = 2 then 10 else if kdC a = 4 then (if j = 5 then a + 1 else if j = 9 then a + 2 else if j = 10 then a + 3 else a + 4) else if kdC a = 0 then (if j = 0 then a + 1 else a + 3) else [6, 89, 90, 91, 92].getD j 0
def lyC : Ly := (93, kdC, lnC, rfC)
def kdML : List Nat := [10, 11, 11, 11, 11, 11, 11, 11, 11, 11, 11, 11, 11, 11, 11, 11, 11, 11, 11, 11, 11, 11, 11, 11, 11, 11, 11, 11, 11, 11, 11, 11, 11, 11, 11, 11, 11, 11, 11, 11, 11, 11, 11, 11, 11, 11, 11, 11, 11, 11, 11, 11]
def lnML : List Nat := [0, 3, 3, 3, 3, 3, 3, 3, 30, 30, 30, 30, 30, 30, 30, 30, 6000, 6000, 6000, 6000, 6000, 6000, 6000, 6000, 400, 64, 64, 8, 8, 512, 8, 8, 512, 8, 8, 6, 6, 6, 8, 8, 512, 8, 8, 8, 8, 8, 8, 8, 10, 8, 3, 3]
def kdM (a : Nat) : Nat := kdML.getD a 99
def lnM (a : Nat) : Nat := lnML.getD a 0
def rfML : List Nat := [1, 2, 3, 4, 5, 6, 7, 8, 9, 10, 11, 12, 13, 14, 15, 0, 16, 17, 18, 19, 20, 21, 22, 23, 24, 0, 0, 0, 0, 0, 0, 0, 0, 0, 25, 26, 27, 28, 29, 30, 31, 32, 33, 34, 0, 0, 35, 36, 37, 38, 39, 40, 41, 42, 43, 44, 45, 46, 47, 48, 0, 0, 0, 49, 50, 51, 0]
def rfM (_ j : Nat) : Nat := rfML.getD j 0
def lyM : Ly := (52, kdM, lnM, rfM)
theorem ekC {V : Ev} {a k : Nat} (hL : V.2.2.2 = lyC) (h : kdC a = k) : evK V a = k := by unfold evK; rw [hL]; exact h
theorem elC {V : Ev} {a k : Nat} (hL : V.2.2.2 = lyC) (h : lnC a = k) : evL V a = k := by unfold evL; rw [hL]; exact h
theorem erC {V : Ev} {a j k : Nat} (hL : V.2.2.2 = lyC) (h : rfC a j = k) : evR V a j = k := by unfold evR; rw [hL]; exact h
theorem kdC_lt (a : Nat) (h : kdC a < 16) : a < 93 := by
  by_cases ha : a < 93
  · exact ha
  · unfold kdC at h
    rw [List.getD_eq_getElem?_getD, List.getElem?_eq_none (Nat.le_trans (show kdCL.length ≤ 93 by decide) (Nat.le_of_not_lt ha))] at h
    exact absurd h (by decide)
theorem evCn {V : Ev} (hL : V.2.2.2 = lyC) : ∀ a, evK V a < 16 → a < evN V := by
  intro a h; unfold evK at h; unfold evN; rw [hL] at h ⊢; exact kdC_lt a h
theorem ekM {V : Ev} {a k : Nat} (hL : V.2.2.2 = lyM) (h : kdM a = k) : evK V a = k := by unfold evK; rw [hL]; exact h
theorem elM {V : Ev} {a k : Nat} (hL : V.2.2.2 = lyM) (h : lnM a = k) : evL V a = k := by unfold evL; rw [hL]; exact h
theorem erM {V : Ev} {a j k : Nat} (hL : V.2.2.2 = lyM) (h : rfM a j = k) : evR V a j = k := by unfold evR; rw [hL]; exact h
theorem kdM_lt (a : Nat) (h : kdM a < 16) : a < 52 := by
  by_cases ha : a < 52
  · exact ha
  · unfold kdM at h
    rw [List.getD_eq_getElem?_getD, List.getElem?_eq_none (Nat.le_trans (show kdML.length ≤ 52 by decide) (Nat.le_of_not_lt ha))] at h
    exact absurd h (by decide)
theorem evMn {V : Ev} (hL : V.2.2.2 = lyM) : ∀ a, evK V a < 16 → a < evN V := by
  intro a h; unfold evK at h; unfold evN; rw [hL] at h ⊢; exact kdM_lt a h
theorem kdC_log {a : Nat} (h : kdC a = 4) : a = 11 ∨ a = 26 ∨ a = 41 := by
  have hl := kdC_lt a (by omega)
  exact (show ∀ a, a < 93 → kdC a = 4 → a = 11 ∨ a = 26 ∨ a = 41 by decide +kernel) a hl h
theorem kdC_door {a : Nat} (h : kdC a = 0) : ∃ d, d < 8 ∧ a = 56 + 4 * d := by
  have hl := kdC_lt a (by omega)
  exact (show ∀ a, a < 93 → kdC a = 0 → ∃ d, d < 8 ∧ a = 56 + 4 * d by decide +kernel) a hl h
theorem kdC_draw {a : Nat} (h : kdC a = 1) : a = 4 ∨ ∃ d, d < 8 ∧ a = 57 + 4 * d := by
  have hl := kdC_lt a (by omega)
  exact (show ∀ a, a < 93 → kdC a = 1 → (a = 4 ∨ ∃ d, d < 8 ∧ a = 57 + 4 * d) by decide +kernel) a hl h
theorem kq_4_5 {a : Nat} (h : kdC a = 4) : kdC (a + 1) = 11 := (show ∀ a, a < 93 → kdC a = 4 → kdC (a + 1) = 11 by decide +kernel) a (kdC_lt a (by omega)) h
theorem rq_4_5 {a : Nat} (h : kdC a = 4) : rfC a 5 = a + 1 := by unfold rfC; rw [h]; rfl
theorem nq_4_5 {a : Nat} (h : kdC a = 4) : lnC (a + 1) = 12 := (show ∀ a, a < 93 → kdC a = 4 → lnC (a + 1) = 12 by decide +kernel) a (kdC_lt a (by omega)) h
theorem kq_4_9 {a : Nat} (h : kdC a = 4) : kdC (a + 2) = 14 := (show ∀ a, a < 93 → kdC a = 4 → kdC (a + 2) = 14 by decide +kernel) a (kdC_lt a (by omega)) h
theorem rq_4_9 {a : Nat} (h : kdC a = 4) : rfC a 9 = a + 2 := by unfold rfC; rw [h]; rfl
theorem nq_4_9 {a : Nat} (h : kdC a = 4) : lnC (a + 2) = 10 := (show ∀ a, a < 93 → kdC a = 4 → lnC (a + 2) = 10 by decide +kernel) a (kdC_lt a (by omega)) h
theorem kq_4_10 {a : Nat} (h : kdC a = 4) : kdC (a + 3) = 12 := (show ∀ a, a < 93 → kdC a = 4 → kdC (a + 3) = 12 by decide +kernel) a (kdC_lt a (by omega)) h
theorem rq_4_10 {a : Nat} (h : kdC a = 4) : rfC a 10 = a + 3 := by unfold rfC; rw [h]; rfl
theorem nq_4_10 {a : Nat} (h : kdC a = 4) : lnC (a + 3) = 720 := (show ∀ a, a < 93 → kdC a = 4 → lnC (a + 3) = 720 by decide +kernel) a (kdC_lt a (by omega)) h
theorem kq_4_11 {a : Nat} (h : kdC a = 4) : kdC (a + 4) = 12 := (show ∀ a, a < 93 → kdC a = 4 → kdC (a + 4) = 12 by decide +kernel) a (kdC_lt a (by omega)) h
theorem rq_4_11 {a : Nat} (h : kdC a = 4) : rfC a 11 = a + 4 := by unfold rfC; rw [h]; rfl
theorem nq_4_11 {a : Nat} (h : kdC a = 4) : lnC (a + 4) = 720 := (show ∀ a, a < 93 → kdC a = 4 → lnC (a + 4) = 720 by decide +kernel) a (kdC_lt a (by omega)) h
theorem kq_0_0 {a : Nat} (h : kdC a = 0) : kdC (a + 1) = 1 := (show ∀ a, a < 93 → kdC a = 0 → kdC (a + 1) = 1 by decide +kernel) a (kdC_lt a (by omega)) h
theorem rq_0_0 {a : Nat} (h : kdC a = 0) : rfC a 0 = a + 1 := by unfold rfC; rw [h]; rfl
theorem kq_0_1 {a : Nat} (h : kdC a = 0) : kdC (a + 3) = 11 := (show ∀ a, a < 93 → kdC a = 0 → kdC (a + 3) = 11 by decide +kernel) a (kdC_lt a (by omega)) h
theorem rq_0_1 {a : Nat} (h : kdC a = 0) : rfC a 1 = a + 3 := by unfold rfC; rw [h]; rfl
theorem nq_0_1 {a : Nat} (h : kdC a = 0) : lnC (a + 3) = 10 := (show ∀ a, a < 93 → kdC a = 0 → lnC (a + 3) = 10 by decide +kernel) a (kdC_lt a (by omega)) h
theorem kq_1_0 {a : Nat} (h : kdC a = 1) : kdC (a + 1) = 11 := (show ∀ a, a < 93 → kdC a = 1 → kdC (a + 1) = 11 by decide +kernel) a (kdC_lt a (by omega)) h
theorem rq_1_0 {a : Nat} (h : kdC a = 1) : rfC a 0 = a + 1 := by unfold rfC; rw [h]; rfl
theorem nq_1_0 {a : Nat} (h : kdC a = 1) : lnC (a + 1) = 64 := (show ∀ a, a < 93 → kdC a = 1 → lnC (a + 1) = 64 by decide +kernel) a (kdC_lt a (by omega)) h
theorem rR_lt {n : Nat} {i : Int32} {j : Nat} (h : rR n i = some j) : j < n := by
  unfold rR at h
  by_cases hi : inb i n = true
  · rw [if_pos hi] at h; cases h
    have := inb_in hi
    unfold vp_in at this
    omega
  · rw [if_neg hi] at h; cases h
theorem kE15 {j : Nat} (h : j < 3) : kdC (11 + 15 * j) = 4 := (show ∀ j, j < 3 → kdC (11 + 15 * j) = 4 by decide +kernel) j h
theorem kE13 {j : Nat} (h : j < 8) : kdC (56 + 4 * j) = 0 := (show ∀ j, j < 8 → kdC (56 + 4 * j) = 0 by decide +kernel) j h
theorem kE14 {a j : Nat} (ha : kdC a = 4) (h : j < 10) : kdC (a + 5 + j) = 3 := (show ∀ a, a < 93 → kdC a = 4 → ∀ j, j < 10 → kdC (a + 5 + j) = 3 by decide +kernel) a (kdC_lt a (by omega)) ha j h
theorem rE14 {a j : Nat} (ha : kdC a = 4) : rfC (a + 2) j = a + 5 + j := by unfold rfC; rw [kq_4_9 ha]; show a + 2 + 3 + j = a + 5 + j; omega
def FU : Nat := 8192
def bd {α β : Type} (o : Option (α × Mem)) (f : α → Mem → Option β) : Option β := o.bind (fun q => f q.1 q.2)
theorem obd {α β : Type} {o : Option (α × Mem)} {f : α → Mem → Option β} {r : β} (h : bd o f = some r) : ∃ v m, o = some (v, m) ∧ f v m = some r := by
  cases o with
  | none => cases h
  | some q => exact ⟨q.1, q.2, rfl, h⟩
def oc {β : Type} (o : Option Nat) (a : β) (f : Nat → β) : β := match o with
  | none => a
  | some k => f k
theorem oc_n {β : Type} {a r : β} {f : Nat → β} (h : oc none a f = r) : a = r := h
theorem oc_s {β : Type} {a r : β} {f : Nat → β} {k : Nat} (h : oc (some k) a f = r) : f k = r := h
theorem ip {c : Prop} [Decidable c] {α : Type} {A B r : α} (hc : c) (h : (if c then A else B) = r) : A = r := by rwa [if_pos hc] at h
theorem iq {c : Prop} [Decidable c] {α : Type} {A B r : α} (hc : ¬ c) (h : (if c then A else B) = r) : B = r := by rwa [if_neg hc] at h
def bz (r : Int32) (μ : Mem) : Option (Int32 × Mem) := if r = 0 ∨ r = 1 then some (r, μ) else none
def FlI (own : String) (index ci j : Nat) : Prop := Fl own index ci j ∧ ci < 11 ∧ rb ci j = false ∧ j < nf ci
def FlR (own : String) (index ci j : Nat) : Prop := Fl own index ci j ∧ ci < 11 ∧ rb ci j = true ∧ j < nf ci
section
variable {X : Cx} {cc : ByteArray} {own : String} {d pc : Nat} {lv lv' : List (Nat × Value)} {st : List Value} {μ μ2 : Mem}
theorem so_gI (hX : Fx X cc own d) {a index ci j : Nat} (dg : decode cc pc = .ok (.getfield index, 3)) (hf : FlI own index ci j) (hk : evK (xV X) a = ci) (h : Gd X (pc + 3) lv (.int (μ.1 a j) :: st) μ) : Gd X pc lv (.ref (evA (xV X) a) :: st) μ := so_getI hX dg hf.1 hk hf.2.1 hf.2.2.1 hf.2.2.2 h
theorem so_gR (hX : Fx X cc own d) {a index ci j : Nat} (b : Nat) (dg : decode cc pc = .ok (.getfield index, 3)) (hf : FlR own index ci j) (hk : evK (xV X) a = ci) (hb : evR (xV X) a j = b) (h : Gd X (pc + 3) lv (.ref (evA (xV X) b) :: st) μ) : Gd X pc lv (.ref (evA (xV X) a) :: st) μ := so_getR hX b dg hf.1 hk hf.2.1 hf.2.2.1 hf.2.2.2 hb h
theorem so_pI (hX : Fx X cc own d) {a index ci j : Nat} {x : Int32} {ty : FieldType} (dg : decode cc pc = .ok (.putfield index, 3)) (hf : FlI own index ci j) (hw : Fw ci j ty) (hk : evK (xV X) a = ci) (hn1 : narrow ty (.int x) = .int x) (hn2 : fits ty (.int x) = true) (h : Gd X (pc + 3) lv st (sI μ a j x)) : Gd X pc lv (.int x :: .ref (evA (xV X) a) :: st) μ := so_put hX dg hf.1 hw hk hf.2.1 hf.2.2.1 hf.2.2.2 hn1 hn2 h
theorem so_ldcw (hX : Fx X cc own d) {index : Nat} {v : Int32} (dg : decode cc pc = .ok (.ldc_w index, 3)) (hc : Cond.constant own index v ∈ TT) (h : Gd X (pc + 3) lv (.int v :: st) μ) : Gd X pc lv st μ := fun H locs ls hP hD hS hv => lv_ldcw hX.1 hX.2.1 hX.2.2.2.1 (hX.2.2.2.2.1 _ hc) dg (h H locs ls hP hD hS hv)
theorem so_iretH (hX : Fx X cc own d) {v r : Int32} {ty : FieldType} (hR : Rt X (some ty) μ2 (some (.int r))) (h : some (v, μ) = some (r, μ2)) (hn : narrow ty (.int v) = .int v) (dg : decode cc pc = .ok (.ireturn, 1)) : Gd X pc lv [.int v] μ := by cases h; exact so_iret hX hR hn dg
theorem so_zretH (hX : Fx X cc own d) {v r : Int32} (hR : Rt X (some .boolean) μ2 (some (.int r))) (h : bz v μ = some (r, μ2)) (dg : decode cc pc = .ok (.ireturn, 1)) : Gd X pc lv [.int v] μ := by
  unfold bz at h
  by_cases hz : v = 0 ∨ v = 1
  · rw [if_pos hz] at h; cases h
    exact so_iret hX hR (by rcases hz with rfl | rfl <;> decide) dg
  · rw [if_neg hz] at h; cases h
theorem so_lretH (hX : Fx X cc own d) {v r : Int64} (hR : Rt X (some .long) μ2 (some (.long r))) (h : some (v, μ) = some (r, μ2)) (dg : decode cc pc = .ok (.lreturn, 1)) : Gd X pc lv [.long v] μ := by cases h; exact so_lret hX hR dg
theorem so_vretH (hX : Fx X cc own d) (hR : Rt X none μ2 none) (h : some μ = some μ2) (dg : decode cc pc = .ok (.return_, 1)) : Gd X pc lv [] μ := by cases h; exact so_vret hX hR dg
theorem so_aretN (hX : Fx X cc own d) {C : String} {o : Option Nat} (hR : Rt X (some (.object C)) μ2 (some (vr (xV X) o))) (h : some (none, μ) = some (o, μ2)) (dg : decode cc pc = .ok (.areturn, 1)) : Gd X pc lv [.null] μ := by cases h; exact so_aret hX hR rfl dg
theorem so_aretS (hX : Fx X cc own d) {C : String} {o : Option Nat} {a : Nat} (hR : Rt X (some (.object C)) μ2 (some (vr (xV X) o))) (h : some (some a, μ) = some (o, μ2)) (dg : decode cc pc = .ok (.areturn, 1)) : Gd X pc lv [.ref (evA (xV X) a)] μ := by cases h; exact so_aret hX hR rfl dg
end
theorem ti_ne {x c : Int32} (h : ¬ x = c) : x.toInt ≠ c.toInt := fun q => h (Int32.toInt_inj.mp q)
theorem tabO6 {x : Int32} (h0 : ¬ x = (0 : Int32)) (h1 : ¬ x = (1 : Int32)) (h2 : ¬ x = (2 : Int32)) (h3 : ¬ x = (3 : Int32)) (h4 : ¬ x = (4 : Int32)) (h5 : ¬ x = (5 : Int32)) : x.toInt < 0 ∨ 5 < x.toInt := by
  have q0 : x.toInt ≠ 0 := ti_ne h0
  have q1 : x.toInt ≠ 1 := ti_ne h1
  have q2 : x.toInt ≠ 2 := ti_ne h2
  have q3 : x.toInt ≠ 3 := ti_ne h3
  have q4 : x.toInt ≠ 4 := ti_ne h4
  have q5 : x.toInt ≠ 5 := ti_ne h5
  omega
theorem tabO10 {x : Int32} (h0 : ¬ x = (0 : Int32)) (h1 : ¬ x = (1 : Int32)) (h2 : ¬ x = (2 : Int32)) (h3 : ¬ x = (3 : Int32)) (h4 : ¬ x = (4 : Int32)) (h5 : ¬ x = (5 : Int32)) (h6 : ¬ x = (6 : Int32)) (h7 : ¬ x = (7 : Int32)) (h8 : ¬ x = (8 : Int32)) (h9 : ¬ x = (9 : Int32)) : x.toInt < 0 ∨ 9 < x.toInt := by
  have q0 : x.toInt ≠ 0 := ti_ne h0
  have q1 : x.toInt ≠ 1 := ti_ne h1
  have q2 : x.toInt ≠ 2 := ti_ne h2
  have q3 : x.toInt ≠ 3 := ti_ne h3
  have q4 : x.toInt ≠ 4 := ti_ne h4
  have q5 : x.toInt ≠ 5 := ti_ne h5
  have q6 : x.toInt ≠ 6 := ti_ne h6
  have q7 : x.toInt ≠ 7 := ti_ne h7
  have q8 : x.toInt ≠ 8 := ti_ne h8
  have q9 : x.toInt ≠ 9 := ti_ne h9
  omega
theorem tabO20 {x : Int32} (h0 : ¬ x = (0 : Int32)) (h1 : ¬ x = (1 : Int32)) (h2 : ¬ x = (2 : Int32)) (h3 : ¬ x = (3 : Int32)) (h4 : ¬ x = (4 : Int32)) (h5 : ¬ x = (5 : Int32)) (h6 : ¬ x = (6 : Int32)) (h7 : ¬ x = (7 : Int32)) (h8 : ¬ x = (8 : Int32)) (h9 : ¬ x = (9 : Int32)) (h10 : ¬ x = (10 : Int32)) (h11 : ¬ x = (11 : Int32)) (h12 : ¬ x = (12 : Int32)) (h13 : ¬ x = (13 : Int32)) (h14 : ¬ x = (14 : Int32)) (h15 : ¬ x = (15 : Int32)) (h16 : ¬ x = (16 : Int32)) (h17 : ¬ x = (17 : Int32)) (h18 : ¬ x = (18 : Int32)) (h19 : ¬ x = (19 : Int32)) : x.toInt < 0 ∨ 19 < x.toInt := by
  have q0 : x.toInt ≠ 0 := ti_ne h0
  have q1 : x.toInt ≠ 1 := ti_ne h1
  have q2 : x.toInt ≠ 2 := ti_ne h2
  have q3 : x.toInt ≠ 3 := ti_ne h3
  have q4 : x.toInt ≠ 4 := ti_ne h4
  have q5 : x.toInt ≠ 5 := ti_ne h5
  have q6 : x.toInt ≠ 6 := ti_ne h6
  have q7 : x.toInt ≠ 7 := ti_ne h7
  have q8 : x.toInt ≠ 8 := ti_ne h8
  have q9 : x.toInt ≠ 9 := ti_ne h9
  have q10 : x.toInt ≠ 10 := ti_ne h10
  have q11 : x.toInt ≠ 11 := ti_ne h11
  have q12 : x.toInt ≠ 12 := ti_ne h12
  have q13 : x.toInt ≠ 13 := ti_ne h13
  have q14 : x.toInt ≠ 14 := ti_ne h14
  have q15 : x.toInt ≠ 15 := ti_ne h15
  have q16 : x.toInt ≠ 16 := ti_ne h16
  have q17 : x.toInt ≠ 17 := ti_ne h17
  have q18 : x.toInt ≠ 18 := ti_ne h18
  have q19 : x.toInt ≠ 19 := ti_ne h19
  omega
theorem t1m_1 {w : Cond} (h : w ∈ tables_1_1) : w ∈ tables_1 := List.mem_append_left _ h
theorem t1m_2 {w : Cond} (h : w ∈ tables_1_2) : w ∈ tables_1 := List.mem_append_right _ (List.mem_append_left _ h)
theorem t1m_3 {w : Cond} (h : w ∈ tables_1_3) : w ∈ tables_1 := List.mem_append_right _ (List.mem_append_right _ (List.mem_append_left _ h))
theorem t1m_4 {w : Cond} (h : w ∈ tables_1_4) : w ∈ tables_1 := List.mem_append_right _ (List.mem_append_right _ (List.mem_append_right _ (List.mem_append_left _ h)))
theorem t1m_5 {w : Cond} (h : w ∈ tables_1_5) : w ∈ tables_1 := List.mem_append_right _ (List.mem_append_right _ (List.mem_append_right _ (List.mem_append_right _ (h))))
