/-! the model's constructor -/
theorem ff_10_0 : FwF RX10 10 0 := ⟨_, _, _, tyX10, tyX10 0, rfl, tyX10_ok, nmX10, rfl, rfl, tyX10_ok 0 (by decide), fun _ => rfl, fun _ => rfl⟩
theorem ff_10_1 : FwF RX10 10 1 := ⟨_, _, _, tyX10, tyX10 1, rfl, tyX10_ok, nmX10, rfl, rfl, tyX10_ok 1 (by decide), fun _ => rfl, fun _ => rfl⟩
theorem ff_10_2 : FwF RX10 10 2 := ⟨_, _, _, tyX10, tyX10 2, rfl, tyX10_ok, nmX10, rfl, rfl, tyX10_ok 2 (by decide), fun _ => rfl, fun _ => rfl⟩
theorem ff_10_3 : FwF RX10 10 3 := ⟨_, _, _, tyX10, tyX10 3, rfl, tyX10_ok, nmX10, rfl, rfl, tyX10_ok 3 (by decide), fun _ => rfl, fun _ => rfl⟩
theorem ff_10_4 : FwF RX10 10 4 := ⟨_, _, _, tyX10, tyX10 4, rfl, tyX10_ok, nmX10, rfl, rfl, tyX10_ok 4 (by decide), fun _ => rfl, fun _ => rfl⟩
theorem ff_10_5 : FwF RX10 10 5 := ⟨_, _, _, tyX10, tyX10 5, rfl, tyX10_ok, nmX10, rfl, rfl, tyX10_ok 5 (by decide), fun _ => rfl, fun _ => rfl⟩
theorem ff_10_6 : FwF RX10 10 6 := ⟨_, _, _, tyX10, tyX10 6, rfl, tyX10_ok, nmX10, rfl, rfl, tyX10_ok 6 (by decide), fun _ => rfl, fun _ => rfl⟩
theorem ff_10_7 : FwF RX10 10 7 := ⟨_, _, _, tyX10, tyX10 7, rfl, tyX10_ok, nmX10, rfl, rfl, tyX10_ok 7 (by decide), fun _ => rfl, fun _ => rfl⟩
theorem ff_10_8 : FwF RX10 10 8 := ⟨_, _, _, tyX10, tyX10 8, rfl, tyX10_ok, nmX10, rfl, rfl, tyX10_ok 8 (by decide), fun _ => rfl, fun _ => rfl⟩
theorem ff_10_9 : FwF RX10 10 9 := ⟨_, _, _, tyX10, tyX10 9, rfl, tyX10_ok, nmX10, rfl, rfl, tyX10_ok 9 (by decide), fun _ => rfl, fun _ => rfl⟩
theorem ff_10_10 : FwF RX10 10 10 := ⟨_, _, _, tyX10, tyX10 10, rfl, tyX10_ok, nmX10, rfl, rfl, tyX10_ok 10 (by decide), fun _ => rfl, fun _ => rfl⟩
theorem ff_10_11 : FwF RX10 10 11 := ⟨_, _, _, tyX10, tyX10 11, rfl, tyX10_ok, nmX10, rfl, rfl, tyX10_ok 11 (by decide), fun _ => rfl, fun _ => rfl⟩
theorem ff_10_12 : FwF RX10 10 12 := ⟨_, _, _, tyX10, tyX10 12, rfl, tyX10_ok, nmX10, rfl, rfl, tyX10_ok 12 (by decide), fun _ => rfl, fun _ => rfl⟩
theorem ff_10_13 : FwF RX10 10 13 := ⟨_, _, _, tyX10, tyX10 13, rfl, tyX10_ok, nmX10, rfl, rfl, tyX10_ok 13 (by decide), fun _ => rfl, fun _ => rfl⟩
theorem ff_10_14 : FwF RX10 10 14 := ⟨_, _, _, tyX10, tyX10 14, rfl, tyX10_ok, nmX10, rfl, rfl, tyX10_ok 14 (by decide), fun _ => rfl, fun _ => rfl⟩
theorem ff_10_16 : FwF RX10 10 16 := ⟨_, _, _, tyX10, tyX10 16, rfl, tyX10_ok, nmX10, rfl, rfl, tyX10_ok 16 (by decide), fun _ => rfl, fun _ => rfl⟩
theorem ff_10_17 : FwF RX10 10 17 := ⟨_, _, _, tyX10, tyX10 17, rfl, tyX10_ok, nmX10, rfl, rfl, tyX10_ok 17 (by decide), fun _ => rfl, fun _ => rfl⟩
theorem ff_10_18 : FwF RX10 10 18 := ⟨_, _, _, tyX10, tyX10 18, rfl, tyX10_ok, nmX10, rfl, rfl, tyX10_ok 18 (by decide), fun _ => rfl, fun _ => rfl⟩
theorem ff_10_19 : FwF RX10 10 19 := ⟨_, _, _, tyX10, tyX10 19, rfl, tyX10_ok, nmX10, rfl, rfl, tyX10_ok 19 (by decide), fun _ => rfl, fun _ => rfl⟩
theorem ff_10_20 : FwF RX10 10 20 := ⟨_, _, _, tyX10, tyX10 20, rfl, tyX10_ok, nmX10, rfl, rfl, tyX10_ok 20 (by decide), fun _ => rfl, fun _ => rfl⟩
theorem ff_10_21 : FwF RX10 10 21 := ⟨_, _, _, tyX10, tyX10 21, rfl, tyX10_ok, nmX10, rfl, rfl, tyX10_ok 21 (by decide), fun _ => rfl, fun _ => rfl⟩
theorem ff_10_22 : FwF RX10 10 22 := ⟨_, _, _, tyX10, tyX10 22, rfl, tyX10_ok, nmX10, rfl, rfl, tyX10_ok 22 (by decide), fun _ => rfl, fun _ => rfl⟩
theorem ff_10_23 : FwF RX10 10 23 := ⟨_, _, _, tyX10, tyX10 23, rfl, tyX10_ok, nmX10, rfl, rfl, tyX10_ok 23 (by decide), fun _ => rfl, fun _ => rfl⟩
theorem ff_10_24 : FwF RX10 10 24 := ⟨_, _, _, tyX10, tyX10 24, rfl, tyX10_ok, nmX10, rfl, rfl, tyX10_ok 24 (by decide), fun _ => rfl, fun _ => rfl⟩
theorem ff_10_34 : FwF RX10 10 34 := ⟨_, _, _, tyX10, tyX10 34, rfl, tyX10_ok, nmX10, rfl, rfl, tyX10_ok 34 (by decide), fun _ => rfl, fun _ => rfl⟩
theorem ff_10_35 : FwF RX10 10 35 := ⟨_, _, _, tyX10, tyX10 35, rfl, tyX10_ok, nmX10, rfl, rfl, tyX10_ok 35 (by decide), fun _ => rfl, fun _ => rfl⟩
theorem ff_10_36 : FwF RX10 10 36 := ⟨_, _, _, tyX10, tyX10 36, rfl, tyX10_ok, nmX10, rfl, rfl, tyX10_ok 36 (by decide), fun _ => rfl, fun _ => rfl⟩
theorem ff_10_37 : FwF RX10 10 37 := ⟨_, _, _, tyX10, tyX10 37, rfl, tyX10_ok, nmX10, rfl, rfl, tyX10_ok 37 (by decide), fun _ => rfl, fun _ => rfl⟩
theorem ff_10_38 : FwF RX10 10 38 := ⟨_, _, _, tyX10, tyX10 38, rfl, tyX10_ok, nmX10, rfl, rfl, tyX10_ok 38 (by decide), fun _ => rfl, fun _ => rfl⟩
theorem ff_10_39 : FwF RX10 10 39 := ⟨_, _, _, tyX10, tyX10 39, rfl, tyX10_ok, nmX10, rfl, rfl, tyX10_ok 39 (by decide), fun _ => rfl, fun _ => rfl⟩
theorem ff_10_40 : FwF RX10 10 40 := ⟨_, _, _, tyX10, tyX10 40, rfl, tyX10_ok, nmX10, rfl, rfl, tyX10_ok 40 (by decide), fun _ => rfl, fun _ => rfl⟩
theorem ff_10_41 : FwF RX10 10 41 := ⟨_, _, _, tyX10, tyX10 41, rfl, tyX10_ok, nmX10, rfl, rfl, tyX10_ok 41 (by decide), fun _ => rfl, fun _ => rfl⟩
theorem ff_10_42 : FwF RX10 10 42 := ⟨_, _, _, tyX10, tyX10 42, rfl, tyX10_ok, nmX10, rfl, rfl, tyX10_ok 42 (by decide), fun _ => rfl, fun _ => rfl⟩
theorem ff_10_43 : FwF RX10 10 43 := ⟨_, _, _, tyX10, tyX10 43, rfl, tyX10_ok, nmX10, rfl, rfl, tyX10_ok 43 (by decide), fun _ => rfl, fun _ => rfl⟩
theorem ff_10_46 : FwF RX10 10 46 := ⟨_, _, _, tyX10, tyX10 46, rfl, tyX10_ok, nmX10, rfl, rfl, tyX10_ok 46 (by decide), fun _ => rfl, fun _ => rfl⟩
theorem ff_10_47 : FwF RX10 10 47 := ⟨_, _, _, tyX10, tyX10 47, rfl, tyX10_ok, nmX10, rfl, rfl, tyX10_ok 47 (by decide), fun _ => rfl, fun _ => rfl⟩
theorem ff_10_48 : FwF RX10 10 48 := ⟨_, _, _, tyX10, tyX10 48, rfl, tyX10_ok, nmX10, rfl, rfl, tyX10_ok 48 (by decide), fun _ => rfl, fun _ => rfl⟩
theorem ff_10_49 : FwF RX10 10 49 := ⟨_, _, _, tyX10, tyX10 49, rfl, tyX10_ok, nmX10, rfl, rfl, tyX10_ok 49 (by decide), fun _ => rfl, fun _ => rfl⟩
theorem ff_10_50 : FwF RX10 10 50 := ⟨_, _, _, tyX10, tyX10 50, rfl, tyX10_ok, nmX10, rfl, rfl, tyX10_ok 50 (by decide), fun _ => rfl, fun _ => rfl⟩
theorem ff_10_51 : FwF RX10 10 51 := ⟨_, _, _, tyX10, tyX10 51, rfl, tyX10_ok, nmX10, rfl, rfl, tyX10_ok 51 (by decide), fun _ => rfl, fun _ => rfl⟩
theorem ff_10_52 : FwF RX10 10 52 := ⟨_, _, _, tyX10, tyX10 52, rfl, tyX10_ok, nmX10, rfl, rfl, tyX10_ok 52 (by decide), fun _ => rfl, fun _ => rfl⟩
theorem ff_10_53 : FwF RX10 10 53 := ⟨_, _, _, tyX10, tyX10 53, rfl, tyX10_ok, nmX10, rfl, rfl, tyX10_ok 53 (by decide), fun _ => rfl, fun _ => rfl⟩
theorem ff_10_54 : FwF RX10 10 54 := ⟨_, _, _, tyX10, tyX10 54, rfl, tyX10_ok, nmX10, rfl, rfl, tyX10_ok 54 (by decide), fun _ => rfl, fun _ => rfl⟩
theorem ff_10_55 : FwF RX10 10 55 := ⟨_, _, _, tyX10, tyX10 55, rfl, tyX10_ok, nmX10, rfl, rfl, tyX10_ok 55 (by decide), fun _ => rfl, fun _ => rfl⟩
theorem ff_10_56 : FwF RX10 10 56 := ⟨_, _, _, tyX10, tyX10 56, rfl, tyX10_ok, nmX10, rfl, rfl, tyX10_ok 56 (by decide), fun _ => rfl, fun _ => rfl⟩
theorem ff_10_57 : FwF RX10 10 57 := ⟨_, _, _, tyX10, tyX10 57, rfl, tyX10_ok, nmX10, rfl, rfl, tyX10_ok 57 (by decide), fun _ => rfl, fun _ => rfl⟩
theorem ff_10_58 : FwF RX10 10 58 := ⟨_, _, _, tyX10, tyX10 58, rfl, tyX10_ok, nmX10, rfl, rfl, tyX10_ok 58 (by decide), fun _ => rfl, fun _ => rfl⟩
theorem ff_10_59 : FwF RX10 10 59 := ⟨_, _, _, tyX10, tyX10 59, rfl, tyX10_ok, nmX10, rfl, rfl, tyX10_ok 59 (by decide), fun _ => rfl, fun _ => rfl⟩
theorem ff_10_63 : FwF RX10 10 63 := ⟨_, _, _, tyX10, tyX10 63, rfl, tyX10_ok, nmX10, rfl, rfl, tyX10_ok 63 (by decide), fun _ => rfl, fun _ => rfl⟩
theorem ff_10_64 : FwF RX10 10 64 := ⟨_, _, _, tyX10, tyX10 64, rfl, tyX10_ok, nmX10, rfl, rfl, tyX10_ok 64 (by decide), fun _ => rfl, fun _ => rfl⟩
theorem ff_10_65 : FwF RX10 10 65 := ⟨_, _, _, tyX10, tyX10 65, rfl, tyX10_ok, nmX10, rfl, rfl, tyX10_ok 65 (by decide), fun _ => rfl, fun _ => rfl⟩
theorem gm_arr {X : Cx} {ms pc p N j index k m : Nat} {ad : Nat → Nat} {lv : List (Nat × Value)} {μ : Mem} {z : Zt} {v : Int32} (hX : FN X cX10_init RX10 1 51 ms) (hL : (xV X).2.2.2 = lyM) (h0 : ad 0 = evA (xV X) 0) (dn : decode cX10_init pc = .ok (.newarray .int, 2)) (dp : decode cX10_init (pc + 2) = .ok (.putfield index, 3)) (hf : FlR RX10 index 10 j) (hw : FwF RX10 10 j) (hv : v = nI N) (hN : N < 100000) (hp : 0 < p) (hk : kdM p = 11) (hl : lnM p = N) (hr : rfM 0 j = p) (hz : okB (xV X) z p) (hm : mB μ p) (hc1 : k + 1 ≤ 51) (hc2 : m + N ≤ ms) (h : ∀ ad2 : Nat → Nat, ad2 0 = evA (xV X) 0 → okB (xV X) (zu z 0 j) (p + 1) → mB μ (p + 1) → GN X ad2 (pc + 5) lv [] μ (zu z 0 j) (p + 1) (k + 1) (m + N)) : GN X ad pc lv [.int v, .ref (evA (xV X) 0)] μ z p k m := by
  refine gn_newi (N := N) hX dn hv hN (ekM hL hk) (elM hL hl) hz.z (hm p (Nat.le_refl p)).1 hc1 hc2 (fun q => ?_)
  have a0 : upA ad p q 0 = evA (xV X) 0 := (upA_ne (by omega)).trans h0
  have r0 : evR (xV X) 0 j = p := erM hL hr
  refine gn_putF (a := 0) (ci := 10) (j := j) hX dp hf hw (ekM hL rfl) (by omega) a0 (by rw [r0, upA_n]) ?_
  exact h (upA ad p q) a0 (hz.up.zu (by omega) (by rw [r0]; omega)) hm.up
theorem mB_fillF {μ : Mem} {n p : Nat} {v : Int32} (h : mB μ n) (hp : p < n) : ∀ k, mB (fillF μ p v k) n := fun k a ha => ⟨by rw [fillF_ne (by omega) k]; exact (h a ha).1, by rw [fillF_2 k]; exact (h a ha).2⟩
theorem gn_muM {X : Cx} {ad : Nat → Nat} {pc : Nat} {lv : List (Nat × Value)} {st : List Value} {μ μ2 : Mem} {z : Zt} {n k m : Nat} (e : μ = μ2) (h : GN X ad pc lv st μ2 z n k m) : GN X ad pc lv st μ z n k m := e ▸ h
def zM (z : Zt) : Zt := zu (zu (zu (zu (zu (zu (zu (zu (zu (zu (zu (zu (zu (zu (zu (zu (zu (zu (zu (zu (zu (zu (zu (zu (zu (zu (zu (zu (zu (zu (zu (zu (zu (zu (zu (zu (zu (zu (zu (zu (zu (zu (zu (zu (zu (zu (zu (zu (zu (zu (zu z 0 0) 0 1) 0 2) 0 3) 0 4) 0 5) 0 6) 0 7) 0 8) 0 9) 0 10) 0 11) 0 12) 0 13) 0 14) 0 16) 0 17) 0 18) 0 19) 0 20) 0 21) 0 22) 0 23) 0 24) 0 34) 0 35) 0 36) 0 37) 0 38) 0 39) 0 40) 0 41) 0 42) 0 43) 0 46) 0 47) 0 48) 0 49) 0 50) 0 51) 0 52) 0 53) 0 54) 0 55) 0 56) 0 57) 0 58) 0 59) 0 63) 0 64) 0 65
def mM (μ : Mem) : Mem := fillF (sI μ 0 31 (-1)) 44 (-1) 8
theorem k_X10 {l : Launch} {V : Ev} {μ : Mem} {z : Zt} (hL : V.2.2.2 = lyM) (hz0 : okB V z 1) (hm0 : mB μ 1) : KT l V yX10_init cX10_init 1 1 51 50487 [.ref (evA V 0)] μ z 1 (mM μ) (zM z) 52 := by
  refine gn_met [(0, .ref (evA V 0))] (by decide) rfl (Nat.le_of_ble_eq_true rfl) rfl (fun X h1 h2 h3 hX hR => ?_)
  subst h2
  have a0 : evA (xV X) 0 = evA (xV X) 0 := rfl
  refine gn_aload_n (pc := 0) hX dX10_init_0 0 rfl ?_
  refine gn_obj (pc := 1) hX dX10_init_1 (by decide +kernel) (by decide) (by decide) ?_
  refine gn_aload_n (pc := 4) hX dX10_init_4 0 rfl ?_
  refine gn_iconst (pc := 5) (v := 3) hX dX10_init_5 (by decide) ?_
  refine gm_arr (pc := 6) (p := 1) (N := 3) (k := 0) (m := 0) hX hL a0 dX10_init_6 dX10_init_8 fl_X10_7 ff_10_0 rfl (by decide) (by decide) rfl rfl rfl hz0 hm0 (by decide) (by decide) (fun ad1 a1 hz1 hm1 => ?_)
  refine gn_aload_n (pc := 11) hX dX10_init_11 0 rfl ?_
  refine gn_iconst (pc := 12) (v := 3) hX dX10_init_12 (by decide) ?_
  refine gm_arr (pc := 13) (p := 2) (N := 3) (k := 1) (m := 3) hX hL a1 dX10_init_13 dX10_init_15 fl_X10_13 ff_10_1 rfl (by decide) (by decide) rfl rfl rfl hz1 hm1 (by decide) (by decide) (fun ad2 a2 hz2 hm2 => ?_)
  refine gn_aload_n (pc := 18) hX dX10_init_18 0 rfl ?_
  refine gn_iconst (pc := 19) (v := 3) hX dX10_init_19 (by decide) ?_
  refine gm_arr (pc := 20) (p := 3) (N := 3) (k := 2) (m := 6) hX hL a2 dX10_init_20 dX10_init_22 fl_X10_16 ff_10_2 rfl (by decide) (by decide) rfl rfl rfl hz2 hm2 (by decide) (by decide) (fun ad3 a3 hz3 hm3 => ?_)
  refine gn_aload_n (pc := 25) hX dX10_init_25 0 rfl ?_
  refine gn_iconst (pc := 26) (v := 3) hX dX10_init_26 (by decide) ?_
  refine gm_arr (pc := 27) (p := 4) (N := 3) (k := 3) (m := 9) hX hL a3 dX10_init_27 dX10_init_29 fl_X10_19 ff_10_3 rfl (by decide) (by decide) rfl rfl rfl hz3 hm3 (by decide) (by decide) (fun ad4 a4 hz4 hm4 => ?_)
  refine gn_aload_n (pc := 32) hX dX10_init_32 0 rfl ?_
  refine gn_iconst (pc := 33) (v := 3) hX dX10_init_33 (by decide) ?_
  refine gm_arr (pc := 34) (p := 5) (N := 3) (k := 4) (m := 12) hX hL a4 dX10_init_34 dX10_init_36 fl_X10_22 ff_10_4 rfl (by decide) (by decide) rfl rfl rfl hz4 hm4 (by decide) (by decide) (fun ad5 a5 hz5 hm5 => ?_)
  refine gn_aload_n (pc := 39) hX dX10_init_39 0 rfl ?_
  refine gn_iconst (pc := 40) (v := 3) hX dX10_init_40 (by decide) ?_
  refine gm_arr (pc := 41) (p := 6) (N := 3) (k := 5) (m := 15) hX hL a5 dX10_init_41 dX10_init_43 fl_X10_25 ff_10_5 rfl (by decide) (by decide) rfl rfl rfl hz5 hm5 (by decide) (by decide) (fun ad6 a6 hz6 hm6 => ?_)
  refine gn_aload_n (pc := 46) hX dX10_init_46 0 rfl ?_
  refine gn_iconst (pc := 47) (v := 3) hX dX10_init_47 (by decide) ?_
  refine gm_arr (pc := 48) (p := 7) (N := 3) (k := 6) (m := 18) hX hL a6 dX10_init_48 dX10_init_50 fl_X10_28 ff_10_6 rfl (by decide) (by decide) rfl rfl rfl hz6 hm6 (by decide) (by decide) (fun ad7 a7 hz7 hm7 => ?_)
  refine gn_aload_n (pc := 53) hX dX10_init_53 0 rfl ?_
  refine gn_bipush (pc := 54) (v := 30) hX dX10_init_54 (by decide) ?_
  refine gm_arr (pc := 56) (p := 8) (N := 30) (k := 7) (m := 21) hX hL a7 dX10_init_56 dX10_init_58 fl_X10_31 ff_10_7 rfl (by decide) (by decide) rfl rfl rfl hz7 hm7 (by decide) (by decide) (fun ad8 a8 hz8 hm8 => ?_)
  refine gn_aload_n (pc := 61) hX dX10_init_61 0 rfl ?_
  refine gn_bipush (pc := 62) (v := 30) hX dX10_init_62 (by decide) ?_
  refine gm_arr (pc := 64) (p := 9) (N := 30) (k := 8) (m := 51) hX hL a8 dX10_init_64 dX10_init_66 fl_X10_34 ff_10_8 rfl (by decide) (by decide) rfl rfl rfl hz8 hm8 (by decide) (by decide) (fun ad9 a9 hz9 hm9 => ?_)
  refine gn_aload_n (pc := 69) hX dX10_init_69 0 rfl ?_
  refine gn_bipush (pc := 70) (v := 30) hX dX10_init_70 (by decide) ?_
  refine gm_arr (pc := 72) (p := 10) (N := 30) (k := 9) (m := 81) hX hL a9 dX10_init_72 dX10_init_74 fl_X10_37 ff_10_9 rfl (by decide) (by decide) rfl rfl rfl hz9 hm9 (by decide) (by decide) (fun ad10 a10 hz10 hm10 => ?_)
  refine gn_aload_n (pc := 77) hX dX10_init_77 0 rfl ?_
  refine gn_bipush (pc := 78) (v := 30) hX dX10_init_78 (by decide) ?_
  refine gm_arr (pc := 80) (p := 11) (N := 30) (k := 10) (m := 111) hX hL a10 dX10_init_80 dX10_init_82 fl_X10_40 ff_10_10 rfl (by decide) (by decide) rfl rfl rfl hz10 hm10 (by decide) (by decide) (fun ad11 a11 hz11 hm11 => ?_)
  refine gn_aload_n (pc := 85) hX dX10_init_85 0 rfl ?_
  refine gn_bipush (pc := 86) (v := 30) hX dX10_init_86 (by decide) ?_
  refine gm_arr (pc := 88) (p := 12) (N := 30) (k := 11) (m := 141) hX hL a11 dX10_init_88 dX10_init_90 fl_X10_43 ff_10_11 rfl (by decide) (by decide) rfl rfl rfl hz11 hm11 (by decide) (by decide) (fun ad12 a12 hz12 hm12 => ?_)
  refine gn_aload_n (pc := 93) hX dX10_init_93 0 rfl ?_
  refine gn_bipush (pc := 94) (v := 30) hX dX10_init_94 (by decide) ?_
  refine gm_arr (pc := 96) (p := 13) (N := 30) (k := 12) (m := 171) hX hL a12 dX10_init_96 dX10_init_98 fl_X10_46 ff_10_12 rfl (by decide) (by decide) rfl rfl rfl hz12 hm12 (by decide) (by decide) (fun ad13 a13 hz13 hm13 => ?_)
  refine gn_aload_n (pc := 101) hX dX10_init_101 0 rfl ?_
  refine gn_bipush (pc := 102) (v := 30) hX dX10_init_102 (by decide) ?_
  refine gm_arr (pc := 104) (p := 14) (N := 30) (k := 13) (m := 201) hX hL a13 dX10_init_104 dX10_init_106 fl_X10_49 ff_10_13 rfl (by decide) (by decide) rfl rfl rfl hz13 hm13 (by decide) (by decide) (fun ad14 a14 hz14 hm14 => ?_)
  refine gn_aload_n (pc := 109) hX dX10_init_109 0 rfl ?_
  refine gn_bipush (pc := 110) (v := 30) hX dX10_init_110 (by decide) ?_
  refine gm_arr (pc := 112) (p := 15) (N := 30) (k := 14) (m := 231) hX hL a14 dX10_init_112 dX10_init_114 fl_X10_52 ff_10_14 rfl (by decide) (by decide) rfl rfl rfl hz14 hm14 (by decide) (by decide) (fun ad15 a15 hz15 hm15 => ?_)
  refine gn_aload_n (pc := 117) hX dX10_init_117 0 rfl ?_
  refine gn_sipush (pc := 118) (v := 6000) hX dX10_init_118 (by decide) ?_
  refine gm_arr (pc := 121) (p := 16) (N := 6000) (k := 15) (m := 261) hX hL a15 dX10_init_121 dX10_init_123 fl_X10_55 ff_10_16 rfl (by decide) (by decide) rfl rfl rfl hz15 hm15 (by decide) (by decide) (fun ad16 a16 hz16 hm16 => ?_)
  refine gn_aload_n (pc := 126) hX dX10_init_126 0 rfl ?_
  refine gn_sipush (pc := 127) (v := 6000) hX dX10_init_127 (by decide) ?_
  refine gm_arr (pc := 130) (p := 17) (N := 6000) (k := 16) (m := 6261) hX hL a16 dX10_init_130 dX10_init_132 fl_X10_58 ff_10_17 rfl (by decide) (by decide) rfl rfl rfl hz16 hm16 (by decide) (by decide) (fun ad17 a17 hz17 hm17 => ?_)
  refine gn_aload_n (pc := 135) hX dX10_init_135 0 rfl ?_
  refine gn_sipush (pc := 136) (v := 6000) hX dX10_init_136 (by decide) ?_
  refine gm_arr (pc := 139) (p := 18) (N := 6000) (k := 17) (m := 12261) hX hL a17 dX10_init_139 dX10_init_141 fl_X10_61 ff_10_18 rfl (by decide) (by decide) rfl rfl rfl hz17 hm17 (by decide) (by decide) (fun ad18 a18 hz18 hm18 => ?_)
  refine gn_aload_n (pc := 144) hX dX10_init_144 0 rfl ?_
  refine gn_sipush (pc := 145) (v := 6000) hX dX10_init_145 (by decide) ?_
  refine gm_arr (pc := 148) (p := 19) (N := 6000) (k := 18) (m := 18261) hX hL a18 dX10_init_148 dX10_init_150 fl_X10_64 ff_10_19 rfl (by decide) (by decide) rfl rfl rfl hz18 hm18 (by decide) (by decide) (fun ad19 a19 hz19 hm19 => ?_)
  refine gn_aload_n (pc := 153) hX dX10_init_153 0 rfl ?_
  refine gn_sipush (pc := 154) (v := 6000) hX dX10_init_154 (by decide) ?_
  refine gm_arr (pc := 157) (p := 20) (N := 6000) (k := 19) (m := 24261) hX hL a19 dX10_init_157 dX10_init_159 fl_X10_67 ff_10_20 rfl (by decide) (by decide) rfl rfl rfl hz19 hm19 (by decide) (by decide) (fun ad20 a20 hz20 hm20 => ?_)
  refine gn_aload_n (pc := 162) hX dX10_init_162 0 rfl ?_
  refine gn_sipush (pc := 163) (v := 6000) hX dX10_init_163 (by decide) ?_
  refine gm_arr (pc := 166) (p := 21) (N := 6000) (k := 20) (m := 30261) hX hL a20 dX10_init_166 dX10_init_168 fl_X10_70 ff_10_21 rfl (by decide) (by decide) rfl rfl rfl hz20 hm20 (by decide) (by decide) (fun ad21 a21 hz21 hm21 => ?_)
  refine gn_aload_n (pc := 171) hX dX10_init_171 0 rfl ?_
  refine gn_sipush (pc := 172) (v := 6000) hX dX10_init_172 (by decide) ?_
  refine gm_arr (pc := 175) (p := 22) (N := 6000) (k := 21) (m := 36261) hX hL a21 dX10_init_175 dX10_init_177 fl_X10_73 ff_10_22 rfl (by decide) (by decide) rfl rfl rfl hz21 hm21 (by decide) (by decide) (fun ad22 a22 hz22 hm22 => ?_)
  refine gn_aload_n (pc := 180) hX dX10_init_180 0 rfl ?_
  refine gn_sipush (pc := 181) (v := 6000) hX dX10_init_181 (by decide) ?_
  refine gm_arr (pc := 184) (p := 23) (N := 6000) (k := 22) (m := 42261) hX hL a22 dX10_init_184 dX10_init_186 fl_X10_76 ff_10_23 rfl (by decide) (by decide) rfl rfl rfl hz22 hm22 (by decide) (by decide) (fun ad23 a23 hz23 hm23 => ?_)
  refine gn_aload_n (pc := 189) hX dX10_init_189 0 rfl ?_
  refine gn_sipush (pc := 190) (v := 400) hX dX10_init_190 (by decide) ?_
  refine gm_arr (pc := 193) (p := 24) (N := 400) (k := 23) (m := 48261) hX hL a23 dX10_init_193 dX10_init_195 fl_X10_79 ff_10_24 rfl (by decide) (by decide) rfl rfl rfl hz23 hm23 (by decide) (by decide) (fun ad24 a24 hz24 hm24 => ?_)
  refine gn_aload_n (pc := 198) hX dX10_init_198 0 rfl ?_
  refine gn_iconst (pc := 199) (v := -1) hX dX10_init_199 (by decide) ?_
  refine gn_putI (pc := 200) (a := 0) (ci := 10) (j := 31) hX dX10_init_200 fl_X10_82 fw_10_31 (ekM hL rfl) (by decide) a24 rfl rfl ?_
  replace hm24 : mB (sI μ 0 31 (-1)) 25 := hm24.sI (by decide)
  refine gn_aload_n (pc := 203) hX dX10_init_203 0 rfl ?_
  refine gn_bipush (pc := 204) (v := 64) hX dX10_init_204 (by decide) ?_
  refine gm_arr (pc := 206) (p := 25) (N := 64) (k := 24) (m := 48661) hX hL a24 dX10_init_206 dX10_init_208 fl_X10_86 ff_10_34 rfl (by decide) (by decide) rfl rfl rfl hz24 hm24 (by decide) (by decide) (fun ad25 a25 hz25 hm25 => ?_)
  refine gn_aload_n (pc := 211) hX dX10_init_211 0 rfl ?_
  refine gn_bipush (pc := 212) (v := 64) hX dX10_init_212 (by decide) ?_
  refine gm_arr (pc := 214) (p := 26) (N := 64) (k := 25) (m := 48725) hX hL a25 dX10_init_214 dX10_init_216 fl_X10_89 ff_10_35 rfl (by decide) (by decide) rfl rfl rfl hz25 hm25 (by decide) (by decide) (fun ad26 a26 hz26 hm26 => ?_)
  refine gn_aload_n (pc := 219) hX dX10_init_219 0 rfl ?_
  refine gn_bipush (pc := 220) (v := 8) hX dX10_init_220 (by decide) ?_
  refine gm_arr (pc := 222) (p := 27) (N := 8) (k := 26) (m := 48789) hX hL a26 dX10_init_222 dX10_init_224 fl_X10_92 ff_10_36 rfl (by decide) (by decide) rfl rfl rfl hz26 hm26 (by decide) (by decide) (fun ad27 a27 hz27 hm27 => ?_)
  refine gn_aload_n (pc := 227) hX dX10_init_227 0 rfl ?_
  refine gn_bipush (pc := 228) (v := 8) hX dX10_init_228 (by decide) ?_
  refine gm_arr (pc := 230) (p := 28) (N := 8) (k := 27) (m := 48797) hX hL a27 dX10_init_230 dX10_init_232 fl_X10_95 ff_10_37 rfl (by decide) (by decide) rfl rfl rfl hz27 hm27 (by decide) (by decide) (fun ad28 a28 hz28 hm28 => ?_)
  refine gn_aload_n (pc := 235) hX dX10_init_235 0 rfl ?_
  refine gn_sipush (pc := 236) (v := 512) hX dX10_init_236 (by decide) ?_
  refine gm_arr (pc := 239) (p := 29) (N := 512) (k := 28) (m := 48805) hX hL a28 dX10_init_239 dX10_init_241 fl_X10_98 ff_10_38 rfl (by decide) (by decide) rfl rfl rfl hz28 hm28 (by decide) (by decide) (fun ad29 a29 hz29 hm29 => ?_)
  refine gn_aload_n (pc := 244) hX dX10_init_244 0 rfl ?_
  refine gn_bipush (pc := 245) (v := 8) hX dX10_init_245 (by decide) ?_
  refine gm_arr (pc := 247) (p := 30) (N := 8) (k := 29) (m := 49317) hX hL a29 dX10_init_247 dX10_init_249 fl_X10_101 ff_10_39 rfl (by decide) (by decide) rfl rfl rfl hz29 hm29 (by decide) (by decide) (fun ad30 a30 hz30 hm30 => ?_)
  refine gn_aload_n (pc := 252) hX dX10_init_252 0 rfl ?_
  refine gn_bipush (pc := 253) (v := 8) hX dX10_init_253 (by decide) ?_
  refine gm_arr (pc := 255) (p := 31) (N := 8) (k := 30) (m := 49325) hX hL a30 dX10_init_255 dX10_init_257 fl_X10_104 ff_10_40 rfl (by decide) (by decide) rfl rfl rfl hz30 hm30 (by decide) (by decide) (fun ad31 a31 hz31 hm31 => ?_)
  refine gn_aload_n (pc := 260) hX dX10_init_260 0 rfl ?_
  refine gn_sipush (pc := 261) (v := 512) hX dX10_init_261 (by decide) ?_
  refine gm_arr (pc := 264) (p := 32) (N := 512) (k := 31) (m := 49333) hX hL a31 dX10_init_264 dX10_init_266 fl_X10_107 ff_10_41 rfl (by decide) (by decide) rfl rfl rfl hz31 hm31 (by decide) (by decide) (fun ad32 a32 hz32 hm32 => ?_)
  refine gn_aload_n (pc := 269) hX dX10_init_269 0 rfl ?_
  refine gn_bipush (pc := 270) (v := 8) hX dX10_init_270 (by decide) ?_
  refine gm_arr (pc := 272) (p := 33) (N := 8) (k := 32) (m := 49845) hX hL a32 dX10_init_272 dX10_init_274 fl_X10_110 ff_10_42 rfl (by decide) (by decide) rfl rfl rfl hz32 hm32 (by decide) (by decide) (fun ad33 a33 hz33 hm33 => ?_)
  refine gn_aload_n (pc := 277) hX dX10_init_277 0 rfl ?_
  refine gn_bipush (pc := 278) (v := 8) hX dX10_init_278 (by decide) ?_
  refine gm_arr (pc := 280) (p := 34) (N := 8) (k := 33) (m := 49853) hX hL a33 dX10_init_280 dX10_init_282 fl_X10_113 ff_10_43 rfl (by decide) (by decide) rfl rfl rfl hz33 hm33 (by decide) (by decide) (fun ad34 a34 hz34 hm34 => ?_)
  refine gn_aload_n (pc := 285) hX dX10_init_285 0 rfl ?_
  refine gn_bipush (pc := 286) (v := 6) hX dX10_init_286 (by decide) ?_
  refine gm_arr (pc := 288) (p := 35) (N := 6) (k := 34) (m := 49861) hX hL a34 dX10_init_288 dX10_init_290 fl_X10_116 ff_10_46 rfl (by decide) (by decide) rfl rfl rfl hz34 hm34 (by decide) (by decide) (fun ad35 a35 hz35 hm35 => ?_)
  refine gn_aload_n (pc := 293) hX dX10_init_293 0 rfl ?_
  refine gn_bipush (pc := 294) (v := 6) hX dX10_init_294 (by decide) ?_
  refine gm_arr (pc := 296) (p := 36) (N := 6) (k := 35) (m := 49867) hX hL a35 dX10_init_296 dX10_init_298 fl_X10_119 ff_10_47 rfl (by decide) (by decide) rfl rfl rfl hz35 hm35 (by decide) (by decide) (fun ad36 a36 hz36 hm36 => ?_)
  refine gn_aload_n (pc := 301) hX dX10_init_301 0 rfl ?_
  refine gn_bipush (pc := 302) (v := 6) hX dX10_init_302 (by decide) ?_
  refine gm_arr (pc := 304) (p := 37) (N := 6) (k := 36) (m := 49873) hX hL a36 dX10_init_304 dX10_init_306 fl_X10_122 ff_10_48 rfl (by decide) (by decide) rfl rfl rfl hz36 hm36 (by decide) (by decide) (fun ad37 a37 hz37 hm37 => ?_)
  refine gn_aload_n (pc := 309) hX dX10_init_309 0 rfl ?_
  refine gn_bipush (pc := 310) (v := 8) hX dX10_init_310 (by decide) ?_
  refine gm_arr (pc := 312) (p := 38) (N := 8) (k := 37) (m := 49879) hX hL a37 dX10_init_312 dX10_init_314 fl_X10_125 ff_10_49 rfl (by decide) (by decide) rfl rfl rfl hz37 hm37 (by decide) (by decide) (fun ad38 a38 hz38 hm38 => ?_)
  refine gn_aload_n (pc := 317) hX dX10_init_317 0 rfl ?_
  refine gn_bipush (pc := 318) (v := 8) hX dX10_init_318 (by decide) ?_
  refine gm_arr (pc := 320) (p := 39) (N := 8) (k := 38) (m := 49887) hX hL a38 dX10_init_320 dX10_init_322 fl_X10_128 ff_10_50 rfl (by decide) (by decide) rfl rfl rfl hz38 hm38 (by decide) (by decide) (fun ad39 a39 hz39 hm39 => ?_)
  refine gn_aload_n (pc := 325) hX dX10_init_325 0 rfl ?_
  refine gn_sipush (pc := 326) (v := 512) hX dX10_init_326 (by decide) ?_
  refine gm_arr (pc := 329) (p := 40) (N := 512) (k := 39) (m := 49895) hX hL a39 dX10_init_329 dX10_init_331 fl_X10_131 ff_10_51 rfl (by decide) (by decide) rfl rfl rfl hz39 hm39 (by decide) (by decide) (fun ad40 a40 hz40 hm40 => ?_)
  refine gn_aload_n (pc := 334) hX dX10_init_334 0 rfl ?_
  refine gn_bipush (pc := 335) (v := 8) hX dX10_init_335 (by decide) ?_
  refine gm_arr (pc := 337) (p := 41) (N := 8) (k := 40) (m := 50407) hX hL a40 dX10_init_337 dX10_init_339 fl_X10_134 ff_10_52 rfl (by decide) (by decide) rfl rfl rfl hz40 hm40 (by decide) (by decide) (fun ad41 a41 hz41 hm41 => ?_)
  refine gn_aload_n (pc := 342) hX dX10_init_342 0 rfl ?_
  refine gn_bipush (pc := 343) (v := 8) hX dX10_init_343 (by decide) ?_
  refine gm_arr (pc := 345) (p := 42) (N := 8) (k := 41) (m := 50415) hX hL a41 dX10_init_345 dX10_init_347 fl_X10_137 ff_10_53 rfl (by decide) (by decide) rfl rfl rfl hz41 hm41 (by decide) (by decide) (fun ad42 a42 hz42 hm42 => ?_)
  refine gn_aload_n (pc := 350) hX dX10_init_350 0 rfl ?_
  refine gn_bipush (pc := 351) (v := 8) hX dX10_init_351 (by decide) ?_
  refine gm_arr (pc := 353) (p := 43) (N := 8) (k := 42) (m := 50423) hX hL a42 dX10_init_353 dX10_init_355 fl_X10_140 ff_10_54 rfl (by decide) (by decide) rfl rfl rfl hz42 hm42 (by decide) (by decide) (fun ad43 a43 hz43 hm43 => ?_)
  refine gn_aload_n (pc := 358) hX dX10_init_358 0 rfl ?_
  refine gn_bipush (pc := 359) (v := 8) hX dX10_init_359 (by decide) ?_
  refine gn_newi (pc := 361) (n := 44) (k := 43) (m := 50431) (N := 8) hX dX10_init_361 rfl (by decide) (ekM hL rfl) (elM hL rfl) hz43.z (hm43 _ (by decide)).1 (by decide) (by decide) (fun q => ?_)
  have a44 : upA ad43 44 q 0 = evA (xV X) 0 := (upA_ne (by decide)).trans a43
  have aq : upA ad43 44 q 44 = q := upA_n
  refine gn_dup (pc := 363) hX dX10_init_363 rfl ?_
  refine gn_iconst (pc := 364) (v := 0) hX dX10_init_364 (by decide) ?_
  refine gn_iconst (pc := 365) (v := -1) hX dX10_init_365 (by decide) ?_
  refine gn_iast (pc := 366) (a := 44) (N := 8) (i := 0) hX dX10_init_366 rfl (by decide) (by decide) (ekM hL rfl) (elM hL rfl) (by decide) aq ?_
  refine gn_dup (pc := 367) hX dX10_init_367 rfl ?_
  refine gn_iconst (pc := 368) (v := 1) hX dX10_init_368 (by decide) ?_
  refine gn_iconst (pc := 369) (v := -1) hX dX10_init_369 (by decide) ?_
  refine gn_iast (pc := 370) (a := 44) (N := 8) (i := 1) hX dX10_init_370 rfl (by decide) (by decide) (ekM hL rfl) (elM hL rfl) (by decide) aq ?_
  refine gn_dup (pc := 371) hX dX10_init_371 rfl ?_
  refine gn_iconst (pc := 372) (v := 2) hX dX10_init_372 (by decide) ?_
  refine gn_iconst (pc := 373) (v := -1) hX dX10_init_373 (by decide) ?_
  refine gn_iast (pc := 374) (a := 44) (N := 8) (i := 2) hX dX10_init_374 rfl (by decide) (by decide) (ekM hL rfl) (elM hL rfl) (by decide) aq ?_
  refine gn_dup (pc := 375) hX dX10_init_375 rfl ?_
  refine gn_iconst (pc := 376) (v := 3) hX dX10_init_376 (by decide) ?_
  refine gn_iconst (pc := 377) (v := -1) hX dX10_init_377 (by decide) ?_
  refine gn_iast (pc := 378) (a := 44) (N := 8) (i := 3) hX dX10_init_378 rfl (by decide) (by decide) (ekM hL rfl) (elM hL rfl) (by decide) aq ?_
  refine gn_dup (pc := 379) hX dX10_init_379 rfl ?_
  refine gn_iconst (pc := 380) (v := 4) hX dX10_init_380 (by decide) ?_
  refine gn_iconst (pc := 381) (v := -1) hX dX10_init_381 (by decide) ?_
  refine gn_iast (pc := 382) (a := 44) (N := 8) (i := 4) hX dX10_init_382 rfl (by decide) (by decide) (ekM hL rfl) (elM hL rfl) (by decide) aq ?_
  refine gn_dup (pc := 383) hX dX10_init_383 rfl ?_
  refine gn_iconst (pc := 384) (v := 5) hX dX10_init_384 (by decide) ?_
  refine gn_iconst (pc := 385) (v := -1) hX dX10_init_385 (by decide) ?_
  refine gn_iast (pc := 386) (a := 44) (N := 8) (i := 5) hX dX10_init_386 rfl (by decide) (by decide) (ekM hL rfl) (elM hL rfl) (by decide) aq ?_
  refine gn_dup (pc := 387) hX dX10_init_387 rfl ?_
  refine gn_bipush (pc := 388) (v := 6) hX dX10_init_388 (by decide) ?_
  refine gn_iconst (pc := 390) (v := -1) hX dX10_init_390 (by decide) ?_
  refine gn_iast (pc := 391) (a := 44) (N := 8) (i := 6) hX dX10_init_391 rfl (by decide) (by decide) (ekM hL rfl) (elM hL rfl) (by decide) aq ?_
  refine gn_dup (pc := 392) hX dX10_init_392 rfl ?_
  refine gn_bipush (pc := 393) (v := 7) hX dX10_init_393 (by decide) ?_
  refine gn_iconst (pc := 395) (v := -1) hX dX10_init_395 (by decide) ?_
  refine gn_iast (pc := 396) (a := 44) (N := 8) (i := 7) hX dX10_init_396 rfl (by decide) (by decide) (ekM hL rfl) (elM hL rfl) (by decide) aq ?_
  have r44 : evR (xV X) 0 55 = 44 := erM hL rfl
  refine gn_putF (pc := 397) (a := 0) (ci := 10) (j := 55) hX dX10_init_397 fl_X10_143 ff_10_55 (ekM hL rfl) (by decide) a44 (by rw [r44]; exact aq) ?_
  have hz44 := hz43.up.zu (a := 0) (j := 55) (by decide) (by rw [r44]; decide)
  have hm44 : mB (mM μ) 45 := mB_fillF hm43.up (by decide) 8
  refine gn_muM rfl ?_
  refine gn_aload_n (pc := 400) hX dX10_init_400 0 rfl ?_
  refine gn_bipush (pc := 401) (v := 8) hX dX10_init_401 (by decide) ?_
  refine gm_arr (pc := 403) (p := 45) (N := 8) (k := 44) (m := 50439) hX hL a44 dX10_init_403 dX10_init_405 fl_X10_146 ff_10_56 rfl (by decide) (by decide) rfl rfl rfl hz44 hm44 (by decide) (by decide) (fun ad45 a45 hz45 hm45 => ?_)
  refine gn_aload_n (pc := 408) hX dX10_init_408 0 rfl ?_
  refine gn_bipush (pc := 409) (v := 8) hX dX10_init_409 (by decide) ?_
  refine gm_arr (pc := 411) (p := 46) (N := 8) (k := 45) (m := 50447) hX hL a45 dX10_init_411 dX10_init_413 fl_X10_149 ff_10_57 rfl (by decide) (by decide) rfl rfl rfl hz45 hm45 (by decide) (by decide) (fun ad46 a46 hz46 hm46 => ?_)
  refine gn_aload_n (pc := 416) hX dX10_init_416 0 rfl ?_
  refine gn_bipush (pc := 417) (v := 8) hX dX10_init_417 (by decide) ?_
  refine gm_arr (pc := 419) (p := 47) (N := 8) (k := 46) (m := 50455) hX hL a46 dX10_init_419 dX10_init_421 fl_X10_152 ff_10_58 rfl (by decide) (by decide) rfl rfl rfl hz46 hm46 (by decide) (by decide) (fun ad47 a47 hz47 hm47 => ?_)
  refine gn_aload_n (pc := 424) hX dX10_init_424 0 rfl ?_
  refine gn_bipush (pc := 425) (v := 10) hX dX10_init_425 (by decide) ?_
  refine gm_arr (pc := 427) (p := 48) (N := 10) (k := 47) (m := 50463) hX hL a47 dX10_init_427 dX10_init_429 fl_X10_155 ff_10_59 rfl (by decide) (by decide) rfl rfl rfl hz47 hm47 (by decide) (by decide) (fun ad48 a48 hz48 hm48 => ?_)
  refine gn_aload_n (pc := 432) hX dX10_init_432 0 rfl ?_
  refine gn_bipush (pc := 433) (v := 8) hX dX10_init_433 (by decide) ?_
  refine gm_arr (pc := 435) (p := 49) (N := 8) (k := 48) (m := 50473) hX hL a48 dX10_init_435 dX10_init_437 fl_X10_158 ff_10_63 rfl (by decide) (by decide) rfl rfl rfl hz48 hm48 (by decide) (by decide) (fun ad49 a49 hz49 hm49 => ?_)
  refine gn_aload_n (pc := 440) hX dX10_init_440 0 rfl ?_
  refine gn_iconst (pc := 441) (v := 3) hX dX10_init_441 (by decide) ?_
  refine gm_arr (pc := 442) (p := 50) (N := 3) (k := 49) (m := 50481) hX hL a49 dX10_init_442 dX10_init_444 fl_X10_161 ff_10_64 rfl (by decide) (by decide) rfl rfl rfl hz49 hm49 (by decide) (by decide) (fun ad50 a50 hz50 hm50 => ?_)
  refine gn_aload_n (pc := 447) hX dX10_init_447 0 rfl ?_
  refine gn_iconst (pc := 448) (v := 3) hX dX10_init_448 (by decide) ?_
  refine gm_arr (pc := 449) (p := 51) (N := 3) (k := 50) (m := 50484) hX hL a50 dX10_init_449 dX10_init_451 fl_X10_164 ff_10_65 rfl (by decide) (by decide) rfl rfl rfl hz50 hm50 (by decide) (by decide) (fun ad51 a51 hz51 hm51 => ?_)
  refine gn_ret (pc := 454) hX hR (fun b hb => ?_) (by decide) (by decide) dX10_init_454
  have : b = 0 := by omega
  rw [this]; exact a51
