/-! plan: what both sides search for -/
def bc (u : Nat) : Nat := u % 2 + u / 2 % 2 + u / 4 % 2
def asg : Nat → List (List Nat)
  | 0 => [[]]
  | w+1 => (asg w).map (List.cons 0) ++ ((asg w).map (List.cons 1) ++ (asg w).map (List.cons 2))
def okA (pl : List Strip → Nat → Nat → Option (List Strip)) : List Strip → List Nat → List Nat → Bool
  | _, [], _ => true
  | _, _ :: _, [] => false
  | S, d :: W, l :: a => match pl S d l with
    | none => false
    | some S' => okA pl S' W a
def msk : Nat → List Nat → Nat
  | u, [] => u
  | u, l :: a => msk (u ||| 2 ^ l) a
def stp (pl : List Strip → Nat → Nat → Option (List Strip)) (S : List Strip) (W : List Nat) (u : Nat) (t : List Nat) (b : Nat × List Nat) (a : List Nat) : Nat × List Nat := if bc (msk u a) < b.1 ∧ okA pl S W a = true then (bc (msk u a), t ++ a) else b
def fld (pl : List Strip → Nat → Nat → Option (List Strip)) (S : List Strip) (W : List Nat) (u : Nat) (t : List Nat) (b : Nat × List Nat) : Nat × List Nat := (asg W.length).foldl (stp pl S W u t) b
def sub (pl : List Strip → Nat → Nat → Option (List Strip)) (S : List Strip) (d : Nat) (W : List Nat) (u : Nat) (t : List Nat) (l : Nat) (b : Nat × List Nat) : Nat × List Nat := match pl S d l with
  | none => b
  | some S' => fld pl S' W (u ||| 2 ^ l) (t ++ [l]) b
theorem fold_id {α β : Type} {f : α → β → α} {b : α} : ∀ (L : List β), (∀ x ∈ L, f b x = b) → L.foldl f b = b := by
  intro L
  induction L with
  | nil => intro _; rfl
  | cons x L ih =>
    intro h
    rw [List.foldl_cons, h x List.mem_cons_self]
    exact ih (fun y hy => h y (List.mem_cons_of_mem _ hy))
theorem fold_eq {α β : Type} {f g : α → β → α} : ∀ (L : List β) (b : α), (∀ b x, x ∈ L → f b x = g b x) → L.foldl f b = L.foldl g b := by
  intro L
  induction L with
  | nil => intro _ _; rfl
  | cons x L ih =>
    intro b h
    rw [List.foldl_cons, List.foldl_cons, h b x List.mem_cons_self]
    exact ih _ (fun b y hy => h b y (List.mem_cons_of_mem _ hy))
theorem asg_dig : ∀ (w : Nat) (a : List Nat), a ∈ asg w → ∀ l ∈ a, l < 3 := by
  intro w
  induction w with
  | zero =>
    intro a ha l hl
    have : a = [] := by simpa [asg] using ha
    rw [this] at hl; cases hl
  | succ w ih =>
    intro a ha l hl
    simp only [asg, List.mem_append, List.mem_map] at ha
    rcases ha with ⟨q, h1, h2⟩ | ⟨q, h1, h2⟩ | ⟨q, h1, h2⟩
    all_goals
      subst h2
      rcases List.mem_cons.mp hl with h | h
      · omega
      · exact ih q h1 l h
theorem bc_or : ∀ u, u < 8 → ∀ l, l < 3 → bc u ≤ bc (u ||| 2 ^ l) ∧ u ||| 2 ^ l < 8 := by decide
theorem bc_msk : ∀ (a : List Nat) (u : Nat), u < 8 → (∀ l ∈ a, l < 3) → bc u ≤ bc (msk u a) := by
  intro a
  induction a with
  | nil => intro u _ _; exact Nat.le_refl _
  | cons l a ih =>
    intro u hu h
    have h1 := bc_or u hu l (h l List.mem_cons_self)
    exact Nat.le_trans h1.1 (ih _ h1.2 (fun x hx => h x (List.mem_cons_of_mem _ hx)))
theorem fld_prune {pl : List Strip → Nat → Nat → Option (List Strip)} {S : List Strip} {W : List Nat} {u : Nat} {t : List Nat} {b : Nat × List Nat} (hu : u < 8) (h : ¬ bc u < b.1) : fld pl S W u t b = b := by
  unfold fld
  apply fold_id
  intro a ha
  unfold stp
  have := bc_msk a u hu (asg_dig _ a ha)
  rw [if_neg (fun z => by have := z.1; omega)]
theorem fld_nil {pl : List Strip → Nat → Nat → Option (List Strip)} {S : List Strip} {u : Nat} {t : List Nat} {b : Nat × List Nat} : fld pl S [] u t b = if bc u < b.1 then (bc u, t) else b := by
  unfold fld
  show stp pl S [] u t b [] = _
  unfold stp
  show (if bc u < b.1 ∧ true = true then (bc u, t ++ []) else b) = _
  rw [List.append_nil]
  by_cases h : bc u < b.1
  · rw [if_pos ⟨h, rfl⟩, if_pos h]
  · rw [if_neg (fun z => h z.1), if_neg h]
theorem fld_l {pl : List Strip → Nat → Nat → Option (List Strip)} {S : List Strip} {d : Nat} {W : List Nat} {u : Nat} {t : List Nat} {b : Nat × List Nat} {l : Nat} : ((asg W.length).map (List.cons l)).foldl (stp pl S (d :: W) u t) b = sub pl S d W u t l b := by
  rw [List.foldl_map]
  unfold sub
  cases hp : pl S d l with
  | none =>
    apply fold_id
    intro a ha
    unfold stp
    have : okA pl S (d :: W) (l :: a) = false := by
      show (match pl S d l with
        | none => false
        | some S' => okA pl S' W a) = false
      rw [hp]
    rw [this, if_neg (fun z => by cases z.2)]
  | some S' =>
    apply fold_eq
    intro b a ha
    unfold stp
    have : okA pl S (d :: W) (l :: a) = okA pl S' W a := by
      show (match pl S d l with
        | none => false
        | some S' => okA pl S' W a) = _
      rw [hp]
    rw [this]
    show (if bc (msk (u ||| 2 ^ l) a) < b.1 ∧ okA pl S' W a = true then (bc (msk (u ||| 2 ^ l) a), t ++ l :: a) else b) = _
    rw [List.append_assoc]; rfl
theorem fld_cons {pl : List Strip → Nat → Nat → Option (List Strip)} {S : List Strip} {d : Nat} {W : List Nat} {u : Nat} {t : List Nat} {b : Nat × List Nat} : fld pl S (d :: W) u t b = sub pl S d W u t 2 (sub pl S d W u t 1 (sub pl S d W u t 0 b)) := by
  unfold fld
  rw [List.length_cons]
  show ((asg W.length).map (List.cons 0) ++ ((asg W.length).map (List.cons 1) ++ (asg W.length).map (List.cons 2))).foldl _ b = _
  rw [List.foldl_append, List.foldl_append, fld_l, fld_l, fld_l]
/-- pl tells what a placing gives, over the doors and logs of a state -/
def HP (pl : List Strip → Nat → Nat → Option (List Strip)) (L : Nat → Option LogD) (Dr : Nat → Option DoorD) : Prop := ∀ S d l, (L l = none → pl S d l = none) ∧ ∀ g D p, L l = some g → Dr d = some D → isFirst (FT S l g D) p → pl S d l = p.map (fun q => S ++ mkS d D l q.1 q.2.1 q.2.2)
theorem HP_ex (L : Nat → Option LogD) (Dr : Nat → Option DoorD) : ∃ pl, HP pl L Dr := by
  have key : ∀ S : List Strip, ∃ f : Nat → Nat → Option (List Strip), ∀ d l, (L l = none → f d l = none) ∧ ∀ g D p, L l = some g → Dr d = some D → isFirst (FT S l g D) p → f d l = p.map (fun q => S ++ mkS d D l q.1 q.2.1 q.2.2) := by
    intro S
    have k2 : ∀ d : Nat, ∃ f : Nat → Option (List Strip), ∀ l, (L l = none → f l = none) ∧ ∀ g D p, L l = some g → Dr d = some D → isFirst (FT S l g D) p → f l = p.map (fun q => S ++ mkS d D l q.1 q.2.1 q.2.2) := by
      intro d
      have k3 : ∀ l : Nat, ∃ r : Option (List Strip), (L l = none → r = none) ∧ ∀ g D p, L l = some g → Dr d = some D → isFirst (FT S l g D) p → r = p.map (fun q => S ++ mkS d D l q.1 q.2.1 q.2.2) := by
        intro l
        by_cases h : ∃ g D p, L l = some g ∧ Dr d = some D ∧ isFirst (FT S l g D) p
        · obtain ⟨g, D, p, h1, h2, h3⟩ := h
          refine ⟨p.map (fun q => S ++ mkS d D l q.1 q.2.1 q.2.2), (fun h => by rw [h1] at h; cases h), fun g2 D2 p2 q1 q2 q3 => ?_⟩
          rw [h1] at q1; rw [h2] at q2
          cases q1; cases q2
          rw [first_eq q3 h3]
        · exact ⟨none, fun _ => rfl, fun g D p h1 h2 h3 => absurd ⟨g, D, p, h1, h2, h3⟩ h⟩
      exact Classical.axiomOfChoice k3
    exact Classical.axiomOfChoice k2
  exact Classical.axiomOfChoice key
