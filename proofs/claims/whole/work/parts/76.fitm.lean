/-! place: the model's search -/
def RP (S : List Strip) (μ : Mem) (l d : Nat) (g : LogD) (D : DoorD) : Prop := Mg μ l g ∧ Md μ d D ∧ MS μ S
theorem RP_sc {S : List Strip} {μ r : Mem} {l d : Nat} {g : LogD} {D : DoorD} (h : RP S μ l d g D) (s : scM μ r) : RP S r l d g D :=
  ⟨Mg_of (fun b h1 h2 => s.1 b h1 (by omega)) h.1, Md_of (fun b h1 h2 => s.1 b (by omega) (by omega)) h.2.1, MS_of (s.2 15 (by omega)) (fun b h1 h2 => s.1 b (by omega) (by omega)) h.2.2⟩
theorem RP_of {σ : St} {μ : Mem} {l d : Nat} {g : LogD} {D : DoorD} (hm : RM σ μ) (hl : l < 3) (hL : σL σ l = some g) (hd : d < 8) (hD : σD σ d = some D) : RP (σS σ) μ l d g D := by
  have mg : Mg μ l g := by have := hm.1 l hl; rw [hL] at this; exact this
  have md : Md μ d D := by have := hm.2.1 d hd; rw [hD] at this; exact this
  exact ⟨mg, md, hm.2.2.1⟩
theorem fits_L {n : Nat} {σ : St} {μ : Mem} {l d F Y X : Nat} {g : LogD} {D : DoorD} (hw : WF n σ) (hn : n < 600) (hg : WFg g) (wd : WFd D) (rp : RP (σS σ) μ l d g D) (hM : cmM μ (cnt D)) (hl : l < 3) (hd : d < 8) (hF : ∀ o, o < 10 → cnt D o ≠ 0 → F + o < gN g) (hY : Y ≤ 60) (hX : X ≤ 64) : ∀ (m q k : Nat), k + m = 10 → m < q → ((∀ o, k ≤ o → o < 10 → cnt D o ≠ 0 → okBox (σS σ) l g (F + o) X Y (dPw D) (cnt D o * dPh D)) ∧ f_X10_fits_L3 (nI d) (nI l) (nI F) (nI Y) (nI X) (fun μ18 => (some ((1 : Int32), μ18))) q (nI k) μ = some (1, μ)) ∨ (¬ (∀ o, k ≤ o → o < 10 → cnt D o ≠ 0 → okBox (σS σ) l g (F + o) X Y (dPw D) (cnt D o * dPh D)) ∧ f_X10_fits_L3 (nI d) (nI l) (nI F) (nI Y) (nI X) (fun μ18 => (some ((1 : Int32), μ18))) q (nI k) μ = some (0, μ)) := by
  obtain ⟨mg, md, ms⟩ := rp
  have hN := hg.2.1
  have hlen := hg.2.2.2.1
  have hfl := WFg_fl hg
  have p2 := wd.2.2.2.2.2.2.1
  have p4 := wd.2.2.2.2.2.2.2.2.1
  intro m
  induction m with
  | zero =>
    intro q k hk hq
    obtain ⟨q', rfl⟩ : ∃ q', q = q' + 1 := ⟨q - 1, by omega⟩
    have : k = 10 := by omega
    subst this
    left
    exact ⟨fun o h1 h2 => by omega, by rw [f_X10_fits_L3, if_pos (by decide)]⟩
  | succ m ih =>
    intro q k hk hq
    obtain ⟨q', rfl⟩ : ∃ q', q = q' + 1 := ⟨q - 1, by omega⟩
    have hk10 : ¬ (10 : Int32) ≤ nI k := nI_ge (b := 10) (by omega) (by omega)
    have hc6 := cnt_le wd k
    have skip : okBox (σS σ) l g (F + k) X Y (dPw D) (cnt D k * dPh D) ∨ cnt D k = 0 → ((∀ o, k ≤ o → o < 10 → cnt D o ≠ 0 → okBox (σS σ) l g (F + o) X Y (dPw D) (cnt D o * dPh D)) ∧ f_X10_fits_L3 (nI d) (nI l) (nI F) (nI Y) (nI X) (fun μ18 => (some ((1 : Int32), μ18))) q' (nI (k + 1)) μ = some (1, μ)) ∨ (¬ (∀ o, k ≤ o → o < 10 → cnt D o ≠ 0 → okBox (σS σ) l g (F + o) X Y (dPw D) (cnt D o * dPh D)) ∧ f_X10_fits_L3 (nI d) (nI l) (nI F) (nI Y) (nI X) (fun μ18 => (some ((1 : Int32), μ18))) q' (nI (k + 1)) μ = some (0, μ)) := by
      intro hok
      rcases ih q' (k + 1) (by omega) (by omega) with ⟨h1, e⟩ | ⟨h1, e⟩
      · left
        refine ⟨fun o h2 h3 h4 => ?_, e⟩
        by_cases e3 : o = k
        · rw [e3]
          rcases hok with h | h
          · exact h
          · rw [e3] at h4; exact absurd h h4
        · exact h1 o (by omega) h3 h4
      · right
        exact ⟨fun z => h1 (fun o h2 h3 h4 => z o (by omega) h3 h4), e⟩
    rw [f_X10_fits_L3, if_neg hk10, rI_nI (by omega) (by decide), bi_some, hM k (by omega)]
    by_cases h0 : cnt D k = 0
    · rw [h0, if_pos (show nI 0 = 0 from rfl), nI_s]
      exact skip (Or.inr h0)
    · have hne : ¬ nI (cnt D k) = 0 := by
        rw [iz0, iz_nat]; exact fun z => h0 (by have := (iz_eq (by omega) (by omega) (by omega) (by omega)).mp z; omega)
      have hFk := hF k (by omega) h0
      have hmh := mh_rng (k := cnt D k) (h := dPh D) hc6 p4
      have eX : (nI X).toInt = X := nI_toInt (by omega)
      have eY : (nI Y).toInt = Y := nI_toInt (by omega)
      have ew : (nI (dPw D)).toInt = dPw D := nI_toInt (by omega)
      have eh : (nI (cnt D k * dPh D)).toInt = (cnt D k * dPh D : Nat) := nI_toInt (by omega)
      rw [if_neg hne, bi_some, rI_nI hd (by decide), bi_some, rI_nI hd (by decide), bi_some, md.2.2.2.1, md.2.2.2.2.1, pk_mul, nI_add, within_eq hg mg hl (by omega) (by rw [toI64]; omega) (by rw [toI64]; omega) (by rw [toI64]; omega) (by rw [toI64]; omega), bd_some, toI64, toI64, eX, eY, ew, eh]
      have stop : ¬ okBox (σS σ) l g (F + k) X Y (dPw D) (cnt D k * dPh D) → ¬ (∀ o, k ≤ o → o < 10 → cnt D o ≠ 0 → okBox (σS σ) l g (F + o) X Y (dPw D) (cnt D o * dPh D)) := fun h z => h (z k (Nat.le_refl k) (by omega) h0)
      by_cases h3 : ((0 : Int) ≤ (X : Int) ∧ (X : Int) + (dPw D : Nat) ≤ wdt g (F + k)) ∧ ((0 : Int) ≤ (Y : Int) ∧ (Y : Int) + ((cnt D k * dPh D : Nat) : Int) ≤ gLen g)
      · have hfn := fiV_none (o := fiL (gF g) 0 (nI (F + k)) (nI X) (nI Y) (nI (dPw D)) (nI (cnt D k * dPh D))) (fun k hk => by have := fiL_lt _ _ _ hk; omega)
        rw [b01_t h3, if_neg (show ¬ (1 : Int32) = 0 by decide), rI_nI hd (by decide), bi_some, md.2.2.2.1, flawIn_eq hg hl mg, bd_some]
        by_cases h4 : fiL (gF g) 0 (nI (F + k)) (nI X) (nI Y) (nI (dPw D)) (nI (cnt D k * dPh D)) = none
        · rw [if_pos (hfn.mpr h4), rI_nI hd (by decide), bi_some, md.2.2.2.1, cutM hw hn ms hl (by omega) (by omega) (by omega) (by omega) (by omega), bd_some]
          by_cases h5 : (σS σ).any (stB l (F + k) X Y (dPw D) (cnt D k * dPh D)) = true
          · right
            rw [b01_t h5, if_neg (show ¬ (1 : Int32) = 0 by decide)]
            exact ⟨stop (fun z => by have := z.2.2.2.2; rw [h5] at this; cases this), rfl⟩
          · rw [b01_f h5, if_pos rfl, nI_s]
            exact skip (Or.inl ⟨hFk, by omega, by omega, h4, Bool.eq_false_iff.mpr h5⟩)
        · right
          rw [if_neg (fun z => h4 (hfn.mp z))]
          exact ⟨stop (fun z => h4 z.2.2.2.1), rfl⟩
      · right
        rw [b01_f h3, if_pos rfl]
        exact ⟨stop (fun z => h3 ⟨⟨by omega, by have := z.2.1; omega⟩, by omega, by have := z.2.2.1; omega⟩), rfl⟩
theorem fitsM {n : Nat} {σ : St} {μ : Mem} {l d F Y X : Nat} {g : LogD} {D : DoorD} (hw : WF n σ) (hn : n < 600) (hg : WFg g) (wd : WFd D) (rp : RP (σS σ) μ l d g D) (hM : cmM μ (cnt D)) (hl : l < 3) (hd : d < 8) (hF : ∀ o, o < 10 → cnt D o ≠ 0 → F + o < gN g) (hY : Y ≤ 60) (hX : X ≤ 64) : (FIT (σS σ) l g D F Y X ∧ f_X10_fits (nI d) (nI l) (nI F) (nI Y) (nI X) μ = some (1, μ)) ∨ (¬ FIT (σS σ) l g D F Y X ∧ f_X10_fits (nI d) (nI l) (nI F) (nI Y) (nI X) μ = some (0, μ)) := by
  unfold f_X10_fits
  rcases fits_L hw hn hg wd rp hM hl hd hF hY hX 10 FU 0 rfl (by decide) with ⟨h, e⟩ | ⟨h, e⟩
  · left
    exact ⟨fun o => h o (Nat.zero_le o), e⟩
  · right
    exact ⟨fun z => h (fun o _ => z o), e⟩
def mfound (μ : Mem) (f y x : Nat) : Mem := sI (sI (sI μ 0 60 (nI f)) 0 61 (nI y)) 0 62 (nI x)
theorem scM_found {μ : Mem} {f y x : Nat} : scM μ (mfound μ f y x) := by
  unfold mfound
  refine ⟨fun b h _ => ?_, fun j h => ?_⟩
  · rw [sI_pl (by omega), sI_pl (by omega), sI_pl (by omega)]
  · rw [sI_sl (by omega), sI_sl (by omega), sI_sl (by omega)]
theorem mfound_at {μ : Mem} {f y x : Nat} : (mfound μ f y x).1 0 60 = nI f ∧ (mfound μ f y x).1 0 61 = nI y ∧ (mfound μ f y x).1 0 62 = nI x := by
  unfold mfound
  refine ⟨?_, ?_, sI_same _ _ _ _⟩
  · rw [sI_sl (by decide), sI_sl (by decide), sI_same]
  · rw [sI_sl (by decide), sI_same]
theorem px_L {n : Nat} {σ : St} {μ : Mem} {l d F Y : Nat} {g : LogD} {D : DoorD} {K : Mem → Option (Int32 × Mem)} (hw : WF n σ) (hn : n < 600) (hg : WFg g) (wd : WFd D) (rp : RP (σS σ) μ l d g D) (hM : cmM μ (cnt D)) (hl : l < 3) (hd : d < 8) (hF : ∀ o, o < 10 → cnt D o ≠ 0 → F + o < gN g) (hY : Y ≤ 60) (hex : ∃ o, o < 10 ∧ cnt D o ≠ 0) : ∀ (m q k : Nat), k + m = 64 → m < q → (f_X10_places_L47 (nI d) (nI l) (nI F) (nI Y) K q (nI k) μ = K μ ∧ ∀ x, k ≤ x → ¬ FIT (σS σ) l g D F Y x) ∨ ∃ x, f_X10_places_L47 (nI d) (nI l) (nI F) (nI Y) K q (nI k) μ = some (1, mfound μ F Y x) ∧ k ≤ x ∧ FIT (σS σ) l g D F Y x ∧ ∀ x2, k ≤ x2 → FIT (σS σ) l g D F Y x2 → ¬ x2 < x := by
  intro m
  induction m with
  | zero =>
    intro q k hk hq
    obtain ⟨q', rfl⟩ : ∃ q', q = q' + 1 := ⟨q - 1, by omega⟩
    have : k = 64 := by omega
    subst this
    left
    refine ⟨by rw [f_X10_places_L47, if_pos (by decide)], fun x hx h => ?_⟩
    obtain ⟨o, ho, h1⟩ := hex
    have hN := hg.2.1
    have h2 := h o ho h1
    have := hF o ho h1
    have wr := wdt_rng hg (show F + o < 12 by omega)
    have := h2.2.1
    omega
  | succ m ih =>
    intro q k hk hq
    obtain ⟨q', rfl⟩ : ∃ q', q = q' + 1 := ⟨q - 1, by omega⟩
    have hk64 : ¬ (64 : Int32) ≤ nI k := nI_ge (b := 64) (by omega) (by omega)
    rw [f_X10_places_L47, if_neg hk64]
    rcases fitsM (Y := Y) (X := k) hw hn hg wd rp hM hl hd hF hY (by omega) with ⟨h, e⟩ | ⟨h, e⟩
    · right
      rw [e, bd_some, if_neg (show ¬ (1 : Int32) = 0 by decide)]
      exact ⟨k, rfl, Nat.le_refl k, h, fun x2 h1 h2 => by omega⟩
    · rw [e, bd_some, if_pos rfl, nI_s]
      rcases ih q' (k + 1) (by omega) (by omega) with ⟨e2, h4⟩ | ⟨x, e2, h4, h5, h6⟩
      · left
        refine ⟨e2, fun x h7 h8 => ?_⟩
        by_cases e3 : x = k
        · rw [e3] at h8; exact h h8
        · exact h4 x (by omega) h8
      · right
        refine ⟨x, e2, by omega, h5, fun x2 h7 h8 => ?_⟩
        by_cases e3 : x2 = k
        · rw [e3] at h8; exact absurd h8 h
        · exact h6 x2 (by omega) h8
theorem py_L {n : Nat} {σ : St} {μ : Mem} {l d F : Nat} {g : LogD} {D : DoorD} {K : Mem → Option (Int32 × Mem)} (hw : WF n σ) (hn : n < 600) (hg : WFg g) (wd : WFd D) (rp : RP (σS σ) μ l d g D) (hM : cmM μ (cnt D)) (hl : l < 3) (hd : d < 8) (hF : ∀ o, o < 10 → cnt D o ≠ 0 → F + o < gN g) (hex : ∃ o, o < 10 ∧ cnt D o ≠ 0) : ∀ (m q k : Nat), k + m = gLen g → m < q → (f_X10_places_L33 (nI d) (nI l) (nI F) K q (nI k) μ = K μ ∧ ∀ y x, k ≤ y → ¬ FIT (σS σ) l g D F y x) ∨ ∃ y x, f_X10_places_L33 (nI d) (nI l) (nI F) K q (nI k) μ = some (1, mfound μ F y x) ∧ k ≤ y ∧ FIT (σS σ) l g D F y x ∧ ∀ y2 x2, k ≤ y2 → FIT (σS σ) l g D F y2 x2 → ¬ (y2 < y ∨ y2 = y ∧ x2 < x) := by
  have mg := rp.1
  have hlen := hg.2.2.2.1
  intro m
  induction m with
  | zero =>
    intro q k hk hq
    obtain ⟨q', rfl⟩ : ∃ q', q = q' + 1 := ⟨q - 1, by omega⟩
    left
    refine ⟨by rw [f_X10_places_L33, rI_nI hl (by decide), bi_some, mg.2.1, if_pos (nI_le (by omega) (by omega))], fun y x hx h => ?_⟩
    obtain ⟨o, ho, h1⟩ := hex
    have h2 := (h o ho h1).2.2.1
    have hh : 1 ≤ cnt D o * dPh D := Nat.mul_pos (by omega) (by have := wd.2.2.2.2.2.2.2.1; omega)
    omega
  | succ m ih =>
    intro q k hk hq
    obtain ⟨q', rfl⟩ : ∃ q', q = q' + 1 := ⟨q - 1, by omega⟩
    rw [f_X10_places_L33, rI_nI hl (by decide), bi_some, mg.2.1, if_neg (nI_ge (by omega) (by omega))]
    rcases px_L (Y := k) (K := fun μ13 => f_X10_places_L33 (nI d) (nI l) (nI F) K q' (nI k + (1 : Int32)) μ13) hw hn hg wd rp hM hl hd hF (by omega) hex 64 FU 0 rfl (by decide) with ⟨e, h⟩ | ⟨x, e, -, h5, h6⟩
    · rw [show nI 0 = (0 : Int32) from rfl] at e
      rw [e, nI_s]
      rcases ih q' (k + 1) (by omega) (by omega) with ⟨e2, h4⟩ | ⟨y, x, e2, h4, h5, h6⟩
      · left
        refine ⟨e2, fun y x h7 h8 => ?_⟩
        by_cases e3 : y = k
        · rw [e3] at h8; exact h x (Nat.zero_le _) h8
        · exact h4 y x (by omega) h8
      · right
        refine ⟨y, x, e2, by omega, h5, fun y2 x2 h7 h8 => ?_⟩
        by_cases e3 : y2 = k
        · rw [e3] at h8; exact absurd h8 (h x2 (Nat.zero_le _))
        · exact h6 y2 x2 (by omega) h8
    · rw [show nI 0 = (0 : Int32) from rfl] at e
      right
      refine ⟨k, x, e, Nat.le_refl k, h5, fun y2 x2 h7 h8 h9 => ?_⟩
      rcases h9 with h9 | ⟨h9, h10⟩
      · omega
      · rw [h9] at h8; exact h6 x2 (Nat.zero_le _) h8 h10
