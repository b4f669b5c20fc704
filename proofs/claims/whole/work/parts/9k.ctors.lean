/-! the class's constructors -/
def okB (V : Ev) (z : Zt) (n : Nat) : Prop := ∀ a j, z a j = true → a < n ∧ evR V a j < n
def mB (μ : Mem) (n : Nat) : Prop := ∀ a, n ≤ a → μ.1 a = (fun _ => 0) ∧ μ.2 a = fun _ => 0
theorem okB.z {V : Ev} {z : Zt} {n : Nat} (h : okB V z n) : okZ V z n := fun a j _ hz => (h a j hz).2
theorem okB.f {V : Ev} {z : Zt} {n : Nat} (h : okB V z n) (j : Nat) : z n j = false := by
  cases hz : z n j with
  | false => rfl
  | true => have := (h n j hz).1; omega
theorem okB.up {V : Ev} {z : Zt} {n : Nat} (h : okB V z n) : okB V z (n + 1) := fun a j hz => by have := h a j hz; omega
theorem okB.to {V : Ev} {z : Zt} {n n2 : Nat} (h : okB V z n) (hn : n ≤ n2) : okB V z n2 := fun a j hz => by have := h a j hz; omega
theorem okB.zu {V : Ev} {z : Zt} {n a j : Nat} (h : okB V z n) (ha : a < n) (hr : evR V a j < n) : okB V (zu z a j) n := by
  intro b i hz
  by_cases e : b = a ∧ i = j
  · obtain ⟨rfl, rfl⟩ := e; exact ⟨ha, hr⟩
  · rw [zu_ne e] at hz; exact h b i hz
theorem mB.up {μ : Mem} {n : Nat} (h : mB μ n) : mB μ (n + 1) := fun a ha => h a (by omega)
theorem mB.to {μ : Mem} {n n2 : Nat} (h : mB μ n) (hn : n ≤ n2) : mB μ n2 := fun a ha => h a (by omega)
theorem mB.sI {μ : Mem} {n a j : Nat} {v : Int32} (h : mB μ n) (ha : a < n) : mB (sI μ a j v) n := fun b hb => ⟨by rw [sI_pl (by omega)]; exact (h b hb).1, (h b hb).2⟩
theorem mB.z {μ : Mem} {n : Nat} (h : mB μ n) (j : Nat) : μ.1 n j = 0 := by rw [(h n (Nat.le_refl n)).1]
theorem k_X3 {l : Launch} {V : Ev} {h : Nat} {μ : Mem} {z : Zt} {n : Nat} : KT l V yX3_init cX3_init 1 1 0 0 [.ref h] μ z n μ z n := by
  refine gn_met [(0, .ref h)] (by decide) rfl (Nat.le_of_ble_eq_true rfl) rfl (fun X h1 h2 h3 hX hR => ?_)
  refine gn_aload_n hX dX3_init_0 0 rfl ?_
  refine gn_obj hX dX3_init_1 (by decide +kernel) (by decide) (by decide) ?_
  exact gn_ret hX hR (fun a ha => by rw [h2]) (Nat.le_refl 0) (Nat.le_refl 0) dX3_init_4
theorem k_X1 {l : Launch} {V : Ev} {a : Nat} {μ : Mem} {z : Zt} (ka : evK V a = 1) (kb : evK V (a + 1) = 11) (lb : evL V (a + 1) = 64) (ra : evR V a 0 = a + 1) (hz : okB V z (a + 1)) (hm : mB μ (a + 1)) : KT l V yX1_init cX1_init 1 1 1 64 [.ref (evA V a)] μ z (a + 1) μ (zu z a 0) (a + 1 + 1) := by
  refine gn_met [(0, .ref (evA V a))] (by decide) rfl (Nat.le_of_ble_eq_true rfl) rfl (fun X h1 h2 h3 hX hR => ?_)
  subst h2
  refine gn_aload_n hX dX1_init_0 0 rfl ?_
  refine gn_obj hX dX1_init_1 (by decide +kernel) (by decide) (by decide) ?_
  refine gn_aload_n hX dX1_init_4 0 rfl ?_
  refine gn_bipush (v := 64) hX dX1_init_5 (by decide) ?_
  refine gn_newi (N := 64) hX dX1_init_7 rfl (by decide) kb lb hz.z (hm _ (Nat.le_refl _)).1 (Nat.le_refl 1) (Nat.le_refl 64) (fun q => ?_)
  refine gn_putF (a := a) (ci := 1) (j := 0) hX dX1_init_9 fl_X1_11 ff_1_0 ka (by omega) (upA_ne (by omega)) (by rw [ra, upA_n]) ?_
  exact gn_ret hX hR (fun b hb => upA_ne (by omega)) (Nat.le_refl _) (Nat.le_refl _) dX1_init_12
theorem k_X2 {l : Launch} {V : Ev} {a : Nat} {μ : Mem} {z : Zt} (ka : evK V a = 2) (kb : evK V (a + 1) = 11) (lb : evL V (a + 1) = 10) (ra : evR V a 3 = a + 1) (hz : okB V z (a + 1)) (hm : mB μ (a + 1)) : KT l V yX2_init cX2_init 1 1 1 10 [.ref (evA V a)] μ z (a + 1) μ (zu z a 3) (a + 1 + 1) := by
  refine gn_met [(0, .ref (evA V a))] (by decide) rfl (Nat.le_of_ble_eq_true rfl) rfl (fun X h1 h2 h3 hX hR => ?_)
  subst h2
  refine gn_aload_n hX dX2_init_0 0 rfl ?_
  refine gn_obj hX dX2_init_1 (by decide +kernel) (by decide) (by decide) ?_
  refine gn_aload_n hX dX2_init_4 0 rfl ?_
  refine gn_bipush (v := 10) hX dX2_init_5 (by decide) ?_
  refine gn_newi (N := 10) hX dX2_init_7 rfl (by decide) kb lb hz.z (hm _ (Nat.le_refl _)).1 (Nat.le_refl 1) (Nat.le_refl 10) (fun q => ?_)
  refine gn_putF (a := a) (ci := 2) (j := 3) hX dX2_init_9 fl_X2_9 ff_2_3 ka (by omega) (upA_ne (by omega)) (by rw [ra, upA_n]) ?_
  exact gn_ret hX hR (fun b hb => upA_ne (by omega)) (Nat.le_refl _) (Nat.le_refl _) dX2_init_12
theorem k_X7 {l : Launch} {V : Ev} {a : Nat} {μ : Mem} {z : Zt} (ka : evK V a = 7) (kb : evK V (a + 1) = 11) (lb : evL V (a + 1) = 400) (ra : evR V a 0 = a + 1) (hz : okB V z (a + 1)) (hm : mB μ (a + 1)) : KT l V yX7_init cX7_init 1 1 1 400 [.ref (evA V a)] μ z (a + 1) μ (zu z a 0) (a + 1 + 1) := by
  refine gn_met [(0, .ref (evA V a))] (by decide) rfl (Nat.le_of_ble_eq_true rfl) rfl (fun X h1 h2 h3 hX hR => ?_)
  subst h2
  refine gn_aload_n hX dX7_init_0 0 rfl ?_
  refine gn_obj hX dX7_init_1 (by decide +kernel) (by decide) (by decide) ?_
  refine gn_aload_n hX dX7_init_4 0 rfl ?_
  refine gn_sipush (v := 400) hX dX7_init_5 (by decide) ?_
  refine gn_newi (N := 400) hX dX7_init_8 rfl (by decide) kb lb hz.z (hm _ (Nat.le_refl _)).1 (Nat.le_refl 1) (Nat.le_refl 400) (fun q => ?_)
  refine gn_putF (a := a) (ci := 7) (j := 0) hX dX7_init_10 fl_X7_11 ff_7_0 ka (by omega) (upA_ne (by omega)) (by rw [ra, upA_n]) ?_
  exact gn_ret hX hR (fun b hb => upA_ne (by omega)) (Nat.le_refl _) (Nat.le_refl _) dX7_init_13
/-! the places of the class in the order in which they are made -/
def kdKL : List Nat := [9, 6, 7, 11, 1, 11, 5, 8, 15, 13, 2, 11, 4, 11, 14, 12, 12, 3, 3, 3, 3, 3, 3, 3, 3, 3, 3, 4, 11, 14, 12, 12, 3, 3, 3, 3, 3, 3, 3, 3, 3, 3, 4, 11, 14, 12, 12, 3, 3, 3, 3, 3, 3, 3, 3, 3, 3, 0, 1, 11, 11, 0, 1, 11, 11, 0, 1, 11, 11, 0, 1, 11, 11, 0, 1, 11, 11, 0, 1, 11, 11, 0, 1, 11, 11, 0, 1, 11, 11, 11, 11, 11, 11]
def lnKL : List Nat := [0, 0, 0, 400, 0, 64, 0, 0, 3, 8, 0, 10, 0, 12, 10, 720, 720, 0, 0, 0, 0, 0, 0, 0, 0, 0, 0, 0, 12, 10, 720, 720, 0, 0, 0, 0, 0, 0, 0, 0, 0, 0, 0, 12, 10, 720, 720, 0, 0, 0, 0, 0, 0, 0, 0, 0, 0, 0, 0, 64, 10, 0, 0, 64, 10, 0, 0, 64, 10, 0, 0, 64, 10, 0, 0, 64, 10, 0, 0, 64, 10, 0, 0, 64, 10, 0, 0, 64, 10, 8, 3, 3, 3]
def kdK (a : Nat) : Nat := kdKL.getD a 99
def lnK (a : Nat) : Nat := lnKL.getD a 0
def rfK (a j : Nat) : Nat := if kdK a = 9 then [1, 2, 6, 7].getD j 0 else if kdK a = 7 then 3 else if kdK a = 6 then (if j = 0 then 2 else 4) else if kdK a = 1 then a + 1 else if kdK a = 8 then 8 + j else if kdK a = 15 then 12 + 15 * j else if kdK a = 13 then 57 + 4 * j else if kdK a = 14 then a + 3 + j else if kdK a = 2 then 11 else if kdK a = 4 then (if j = 5 then a + 1 else if j = 9 then a + 2 else if j = 10 then a + 3 else a + 4) else if kdK a = 0 then (if j = 0 then a + 1 else a + 3) else [7, 89, 90, 91, 92].getD j 0
def lyK : Ly := (93, kdK, lnK, rfK)
theorem ekK {V : Ev} {a k : Nat} (hL : V.2.2.2 = lyK) (h : kdK a = k) : evK V a = k := by unfold evK; rw [hL]; exact h
theorem elK {V : Ev} {a k : Nat} (hL : V.2.2.2 = lyK) (h : lnK a = k) : evL V a = k := by unfold evL; rw [hL]; exact h
theorem erK {V : Ev} {a j k : Nat} (hL : V.2.2.2 = lyK) (h : rfK a j = k) : evR V a j = k := by unfold evR; rw [hL]; exact h
/-- Reader(): a Tape and a Drawing come, faultPlace is -1 -/
def zR (z : Zt) : Zt := zu (zu (zu (zu z 2 0) 1 0) 4 0) 1 1
theorem k_X6 {l : Launch} {V : Ev} {μ : Mem} {z : Zt} (hL : V.2.2.2 = lyK) (hz : okB V z 2) (hm : mB μ 2) : KT l V yX6_init cX6_init 1 2 4 469 [.ref (evA V 1)] μ z 2 (sI μ 1 3 (-1)) (zR z) 6 := by
  refine gn_met [(0, .ref (evA V 1))] (by decide) rfl (Nat.le_of_ble_eq_true rfl) rfl (fun X h1 h2 h3 hX hR => ?_)
  subst h2
  have e1 : evK (xV X) 1 = 6 := ekK hL (by decide)
  have r10 : evR (xV X) 1 0 = 2 := erK hL rfl
  have r11 : evR (xV X) 1 1 = 4 := erK hL rfl
  have r20 : evR (xV X) 2 0 = 3 := erK hL rfl
  have r40 : evR (xV X) 4 0 = 5 := erK hL rfl
  refine gn_aload_n hX dX6_init_0 0 rfl ?_
  refine gn_obj hX dX6_init_1 (by decide +kernel) (by decide) (by decide) ?_
  refine gn_aload_n hX dX6_init_4 0 rfl ?_
  refine gn_new (ci := 7) hX dX6_init_5 nw_X6_9 (ekK hL (by decide)) hz.z hm.z hz.f (by decide) (by decide) (fun q1 => ?_)
  refine gn_dup hX dX6_init_8 rfl ?_
  refine gn_initN (As := []) (rest := [.ref q1, .ref (evA (xV X) 1)]) (b := q1) (mcc := 1) (msc := 400) hX dX6_init_9 (by
    have := k_X7 (l := xl X) (V := sA (xV X) (upA (evA (xV X)) 2 q1)) (a := 2) (μ := μ) (z := z) (ekK hL (by decide)) (ekK hL (by decide)) (elK hL (by decide)) r20 hz.up hm.up
    have e : evA (sA (xV X) (upA (evA (xV X)) 2 q1)) 2 = q1 := (show upA (evA (xV X)) 2 q1 2 = q1 from upA_n)
    rw [e] at this
    exact this) mwI_X7 imI_X7 rfl (by decide) rfl rfl (by decide) (by decide) (Nat.le_of_ble_eq_true rfl) (by decide) (by decide) (fun ad1 ha1 => ?_)
  have a1 : ad1 1 = evA (xV X) 1 := (ha1 1 (by decide)).trans (upA_ne (by decide))
  have t1 : ad1 2 = q1 := (ha1 2 (by decide)).trans upA_n
  refine gn_putF (a := 1) (ci := 6) (j := 0) hX dX6_init_12 fl_X6_12 ff_6_0 e1 (by decide) a1 (by rw [r10]; exact t1) ?_
  have hz1 : okB (xV X) (zu (zu z 2 0) 1 0) 4 := ((hz.to (show 2 ≤ 4 by decide)).zu (by decide) (by rw [r20]; decide)).zu (by decide) (by rw [r10]; decide)
  have hm1 : mB μ 4 := hm.to (by decide)
  refine gn_aload_n hX dX6_init_15 0 rfl ?_
  refine gn_new (ci := 1) hX dX6_init_16 nw_X6_18 (ekK hL (by decide)) hz1.z hm1.z hz1.f (by decide) (by decide) (fun q2 => ?_)
  refine gn_dup hX dX6_init_19 rfl ?_
  refine gn_initN (As := []) (rest := [.ref q2, .ref (evA (xV X) 1)]) (b := q2) (mcc := 1) (msc := 64) hX dX6_init_20 (by
    have := k_X1 (l := xl X) (V := sA (xV X) (upA ad1 4 q2)) (a := 4) (μ := μ) (z := zu (zu z 2 0) 1 0) (ekK hL (by decide)) (ekK hL (by decide)) (elK hL (by decide)) r40 hz1.up hm1.up
    have e : evA (sA (xV X) (upA ad1 4 q2)) 4 = q2 := (show upA ad1 4 q2 4 = q2 from upA_n)
    rw [e] at this
    exact this) mwI_X1 imI_X1 rfl (by decide) rfl rfl (by decide) (by decide) (Nat.le_of_ble_eq_true rfl) (by decide) (by decide) (fun ad2 ha2 => ?_)
  have a2 : ad2 1 = evA (xV X) 1 := (ha2 1 (by decide)).trans ((upA_ne (by decide)).trans a1)
  have t2 : ad2 4 = q2 := (ha2 4 (by decide)).trans upA_n
  refine gn_putF (a := 1) (ci := 6) (j := 1) hX dX6_init_23 fl_X6_21 ff_6_1 e1 (by decide) a2 (by rw [r11]; exact t2) ?_
  refine gn_aload_n hX dX6_init_26 0 rfl ?_
  refine gn_iconst (v := -1) hX dX6_init_27 (by decide) ?_
  refine gn_putI (a := 1) (ci := 6) (j := 3) hX dX6_init_28 fl_X6_25 fw_6_3 e1 (by decide) a2 rfl rfl ?_
  exact gn_ret hX hR (fun b hb => (ha2 b (by omega)).trans ((upA_ne (by omega)).trans ((ha1 b (by omega)).trans (upA_ne (by omega))))) (by decide) (by decide) dX6_init_31
/-- Door(): a Drawing, a row; made nowhere -/
theorem k_X0 {l : Launch} {V : Ev} {a : Nat} {μ : Mem} {z : Zt} (ka : evK V a = 0) (kb : evK V (a + 1) = 1) (kc : evK V (a + 1 + 1) = 11) (lc : evL V (a + 1 + 1) = 64) (kd : evK V (a + 1 + 1 + 1) = 11) (ld : evL V (a + 1 + 1 + 1) = 10) (ra : evR V a 0 = a + 1) (ra2 : evR V a 1 = a + 1 + 1 + 1) (rbb : evR V (a + 1) 0 = a + 1 + 1) (hz : okB V z (a + 1)) (hm : mB μ (a + 1)) : KT l V yX0_init cX0_init 1 2 3 77 [.ref (evA V a)] μ z (a + 1) (sI (sI (sI (sI μ a 8 (-1)) a 9 (-1)) a 10 (-1)) a 11 (-1)) (zu (zu (zu z (a + 1) 0) a 0) a 1) (a + 1 + 1 + 1 + 1) := by
  refine gn_met [(0, .ref (evA V a))] (by decide) rfl (Nat.le_of_ble_eq_true rfl) rfl (fun X h1 h2 h3 hX hR => ?_)
  subst h2
  refine gn_aload_n hX dX0_init_0 0 rfl ?_
  refine gn_obj hX dX0_init_1 (by decide +kernel) (by decide) (by decide) ?_
  refine gn_aload_n hX dX0_init_4 0 rfl ?_
  refine gn_new (ci := 1) hX dX0_init_5 nw_X0_9 kb hz.z hm.z hz.f (by decide) (by decide) (fun q => ?_)
  refine gn_dup hX dX0_init_8 rfl ?_
  have hh : upA (evA (xV X)) (a + 1) q (a + 1) = q := upA_n
  refine gn_initN (As := []) (rest := [.ref q, .ref (evA (xV X) a)]) (b := q) (mcc := 1) (msc := 64) hX dX0_init_9 (by
    have := k_X1 (l := xl X) (V := sA (xV X) (upA (evA (xV X)) (a + 1) q)) (a := a + 1) (μ := μ) (z := z) kb kc lc rbb hz.up hm.up
    have e : evA (sA (xV X) (upA (evA (xV X)) (a + 1) q)) (a + 1) = q := hh
    rw [e] at this
    exact this) mwI_X1 imI_X1 rfl (by decide) rfl rfl (by decide) (by decide) (Nat.le_of_ble_eq_true rfl) (by decide) (by decide) (fun ad2 ha2 => ?_)
  have e0 : ad2 a = evA (xV X) a := (ha2 a (by omega)).trans (upA_ne (by omega))
  have e1 : ad2 (a + 1) = q := (ha2 (a + 1) (by omega)).trans hh
  refine gn_putF (a := a) (ci := 0) (j := 0) hX dX0_init_12 fl_X0_12 ff_0_0 ka (by omega) e0 (by rw [ra]; exact e1) ?_
  refine gn_aload_n hX dX0_init_15 0 rfl ?_
  refine gn_bipush (v := 10) hX dX0_init_16 (by decide) ?_
  have hz3 : okB (xV X) (zu (zu z (a + 1) 0) a 0) (a + 1 + 1 + 1) := ((hz.to (show a + 1 ≤ a + 1 + 1 + 1 by omega)).zu (by omega) (by rw [rbb]; omega)).zu (by omega) (by rw [ra]; omega)
  refine gn_newi (N := 10) hX dX0_init_18 rfl (by decide) kd ld hz3.z (hm _ (by omega)).1 (by decide) (by decide) (fun q2 => ?_)
  have e2 : upA ad2 (a + 1 + 1 + 1) q2 a = evA (xV X) a := (upA_ne (by omega)).trans e0
  refine gn_putF (a := a) (ci := 0) (j := 1) hX dX0_init_20 fl_X0_18 ff_0_1 ka (by omega) e2 (by rw [ra2, upA_n]) ?_
  refine gn_aload_n hX dX0_init_23 0 rfl ?_
  refine gn_iconst (v := -1) hX dX0_init_24 (by decide) ?_
  refine gn_putI (a := a) (ci := 0) (j := 8) hX dX0_init_25 fl_X0_22 fw_0_8 ka (by omega) e2 rfl rfl ?_
  refine gn_aload_n hX dX0_init_28 0 rfl ?_
  refine gn_iconst (v := -1) hX dX0_init_29 (by decide) ?_
  refine gn_putI (a := a) (ci := 0) (j := 9) hX dX0_init_30 fl_X0_26 fw_0_9 ka (by omega) e2 rfl rfl ?_
  refine gn_aload_n hX dX0_init_33 0 rfl ?_
  refine gn_iconst (v := -1) hX dX0_init_34 (by decide) ?_
  refine gn_putI (a := a) (ci := 0) (j := 10) hX dX0_init_35 fl_X0_29 fw_0_10 ka (by omega) e2 rfl rfl ?_
  refine gn_aload_n hX dX0_init_38 0 rfl ?_
  refine gn_iconst (v := -1) hX dX0_init_39 (by decide) ?_
  refine gn_putI (a := a) (ci := 0) (j := 11) hX dX0_init_40 fl_X0_32 fw_0_11 ka (by omega) e2 rfl rfl ?_
  exact gn_ret hX hR (fun b hb => ((upA_ne (by omega)).trans (ha2 b (by omega))).trans (upA_ne (by omega))) (by decide) (by decide) dX0_init_43
