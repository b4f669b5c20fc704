/-! what a state of the desk IS: logs, doors, strips, tape, fault, plan; and how each memory holds it -/
def iz (z : Int) : Int32 := Int32.ofInt z
theorem iz_nat (n : Nat) : nI n = iz n := rfl
theorem iz_toInt {a : Int} (h1 : -2147483648 ≤ a) (h2 : a < 2147483648) : (iz a).toInt = a := by
  unfold iz; rw [Int32.toInt_ofInt]
  have e : ((Int32.size : Nat) : Int) = 4294967296 := rfl
  exact Int.bmod_eq_of_le (by omega) (by omega)
theorem iz_of (x : Int32) : iz x.toInt = x := Int32.ofInt_toInt x
theorem iz_add (a b : Int) : iz a + iz b = iz (a + b) := (Int32.ofInt_add a b).symm
theorem iz_sub (a b : Int) : iz a - iz b = iz (a - b) := (Int32.ofInt_sub a b).symm
theorem iz_mul (a b : Int) : iz a * iz b = iz (a * b) := (Int32.ofInt_mul a b).symm
theorem iz_lt {a b : Int} (h1 : -2147483648 ≤ a) (h2 : a < 2147483648) (h3 : -2147483648 ≤ b) (h4 : b < 2147483648) : iz a < iz b ↔ a < b := by rw [lt_toInt, iz_toInt h1 h2, iz_toInt h3 h4]
theorem iz_le {a b : Int} (h1 : -2147483648 ≤ a) (h2 : a < 2147483648) (h3 : -2147483648 ≤ b) (h4 : b < 2147483648) : iz a ≤ iz b ↔ a ≤ b := by rw [le_toInt, iz_toInt h1 h2, iz_toInt h3 h4]
theorem iz_eq {a b : Int} (h1 : -2147483648 ≤ a) (h2 : a < 2147483648) (h3 : -2147483648 ≤ b) (h4 : b < 2147483648) : iz a = iz b ↔ a = b := by
  constructor
  · intro h; have := congrArg Int32.toInt h; rwa [iz_toInt h1 h2, iz_toInt h3 h4] at this
  · intro h; rw [h]
-- a flaw: first, last, x, y, wide, high, dx, dy
abbrev FlawD : Type := Nat × Nat × Nat × Nat × Nat × Nat × Int × Int
abbrev fF (f : FlawD) : Nat := f.1
abbrev fL (f : FlawD) : Nat := f.2.1
abbrev fX (f : FlawD) : Nat := f.2.2.1
abbrev fY (f : FlawD) : Nat := f.2.2.2.1
abbrev fW (f : FlawD) : Nat := f.2.2.2.2.1
abbrev fH (f : FlawD) : Nat := f.2.2.2.2.2.1
abbrev fDx (f : FlawD) : Int := f.2.2.2.2.2.2.1
abbrev fDy (f : FlawD) : Int := f.2.2.2.2.2.2.2
-- a log: leaves, length, wide, grows, tone, darkens, flaws
abbrev LogD : Type := Nat × Nat × Nat × Int × Nat × Int × List FlawD
abbrev gN (g : LogD) : Nat := g.1
abbrev gLen (g : LogD) : Nat := g.2.1
abbrev gW (g : LogD) : Nat := g.2.2.1
abbrev gG (g : LogD) : Int := g.2.2.2.1
abbrev gT (g : LogD) : Nat := g.2.2.2.2.1
abbrev gD (g : LogD) : Int := g.2.2.2.2.2.1
abbrev gF (g : LogD) : List FlawD := g.2.2.2.2.2.2
-- a door: wide, high, its pieces (column, row), a piece's width and height, tones apart, where it is made (log, leaf, y, x)
abbrev DoorD : Type := Nat × Nat × (Nat → Nat → Nat) × Nat × Nat × Nat × Option (Nat × Nat × Nat × Nat)
abbrev dW (d : DoorD) : Nat := d.1
abbrev dH (d : DoorD) : Nat := d.2.1
abbrev dC (d : DoorD) : Nat → Nat → Nat := d.2.2.1
abbrev dPw (d : DoorD) : Nat := d.2.2.2.1
abbrev dPh (d : DoorD) : Nat := d.2.2.2.2.1
abbrev dT (d : DoorD) : Nat := d.2.2.2.2.2.1
abbrev dM (d : DoorD) : Option (Nat × Nat × Nat × Nat) := d.2.2.2.2.2.2
-- a strip: log, leaf, x, y, wide, high, how many, door (or -1)
abbrev Strip : Type := Nat × Nat × Nat × Nat × Nat × Nat × Nat × Int
abbrev tL (s : Strip) : Nat := s.1
abbrev tF (s : Strip) : Nat := s.2.1
abbrev tX (s : Strip) : Nat := s.2.2.1
abbrev tY (s : Strip) : Nat := s.2.2.2.1
abbrev tW (s : Strip) : Nat := s.2.2.2.2.1
abbrev tH (s : Strip) : Nat := s.2.2.2.2.2.1
abbrev tM (s : Strip) : Nat := s.2.2.2.2.2.2.1
abbrev tD (s : Strip) : Int := s.2.2.2.2.2.2.2
-- the state: logs, doors, strips, tape, fault and its place, plan
abbrev St : Type := (Nat → Option LogD) × (Nat → Option DoorD) × List Strip × List Nat × (Nat × Int) × (Nat → Int)
abbrev σL (σ : St) : Nat → Option LogD := σ.1
abbrev σD (σ : St) : Nat → Option DoorD := σ.2.1
abbrev σS (σ : St) : List Strip := σ.2.2.1
abbrev σT (σ : St) : List Nat := σ.2.2.2.1
abbrev σF (σ : St) : Nat × Int := σ.2.2.2.2.1
abbrev σP (σ : St) : Nat → Int := σ.2.2.2.2.2
def offs (v : Nat) : Nat := v % 16
/-- how many pieces of a door have an offset -/
def cnt (D : DoorD) (o : Nat) : Nat := ((List.range (dH D)).map (fun r => (List.range (dW D)).countP (fun c => offs (dC D c r) == o))).sum
def wdt (g : LogD) (i : Nat) : Nat := (max 1 ((gW g : Int) + i * gG g)).toNat
def covS (s : Strip) (l i x y : Nat) : Prop := tL s = l ∧ tF s = i ∧ tX s ≤ x ∧ x < tX s + tW s ∧ tY s ≤ y ∧ y < tY s + tH s
def covF (f : FlawD) (i : Nat) (x y : Int) : Prop := fF f ≤ i ∧ i ≤ fL f ∧ fX f + ((i : Int) - fF f) * fDx f ≤ x ∧ x < fX f + ((i : Int) - fF f) * fDx f + fW f ∧ fY f + ((i : Int) - fF f) * fDy f ≤ y ∧ y < fY f + ((i : Int) - fF f) * fDy f + fH f
def disS (s t : Strip) : Prop := ∀ l i x y, ¬ (covS s l i x y ∧ covS t l i x y)
/-- the strips of a door made at a place -/
def mkS (d : Nat) (D : DoorD) (l f y x : Nat) : List Strip := (List.range 10).filterMap (fun o => if cnt D o = 0 then none else some (l, f + o, x, y, dPw D, cnt D o * dPh D, cnt D o, (d : Int)))
-- well-formed parts
def WFf (n : Nat) (f : FlawD) : Prop := fF f ≤ fL f ∧ fL f < n ∧ fX f ≤ 100 ∧ fY f ≤ 100 ∧ 1 ≤ fW f ∧ fW f ≤ 100 ∧ 1 ≤ fH f ∧ fH f ≤ 100 ∧ -20 ≤ fDx f ∧ fDx f ≤ 20 ∧ -20 ≤ fDy f ∧ fDy f ≤ 20
def WFg (g : LogD) : Prop := 1 ≤ gN g ∧ gN g ≤ 12 ∧ 10 ≤ gLen g ∧ gLen g ≤ 60 ∧ 10 ≤ gW g ∧ gW g ≤ 40 ∧ -2 ≤ gG g ∧ gG g ≤ 2 ∧ gT g ≤ 100 ∧ -5 ≤ gD g ∧ gD g ≤ 5 ∧ (gF g).length ≤ 10 ∧ ∀ f ∈ gF g, WFf (gN g) f
def WFd (D : DoorD) : Prop := 1 ≤ dW D ∧ dW D ≤ 8 ∧ 1 ≤ dH D ∧ dH D ≤ 8 ∧ (∀ c r, c < dW D → r < dH D → offs (dC D c r) ≤ 9 ∧ dC D c r < 64) ∧ 1 ≤ dPw D ∧ dPw D ≤ 60 ∧ 1 ≤ dPh D ∧ dPh D ≤ 60 ∧ dT D ≤ 200
def WFs (σ : St) (s : Strip) : Prop := tL s < 3 ∧ (∃ g, σL σ (tL s) = some g ∧ tF s < gN g ∧ tX s + tW s ≤ wdt g (tF s) ∧ tY s + tH s ≤ gLen g) ∧ 1 ≤ tW s ∧ 1 ≤ tH s ∧ 1 ≤ tM s ∧ tM s ≤ 60 ∧ (tD s = -1 ∨ ∃ d, d < 8 ∧ tD s = (d : Nat))
/-- n: how many calls were made so far -/
def WF (n : Nat) (σ : St) : Prop :=
  (∀ l g, σL σ l = some g → l < 3 ∧ WFg g) ∧ (∀ d D, σD σ d = some D → d < 8 ∧ WFd D) ∧
  (∀ s ∈ σS σ, WFs σ s) ∧ (σS σ).Pairwise disS ∧ (σS σ).length ≤ 10 * n ∧
  (∀ d : Nat, d < 8 → (σS σ).filter (fun s => tD s == (d : Int)) = match (σD σ d).bind dM with
    | none => []
    | some q => mkS d ((σD σ d).getD (0, 0, fun _ _ => 0, 0, 0, 0, none)) q.1 q.2.1 q.2.2.1 q.2.2.2) ∧
  (σT σ).length ≤ 400 ∧ (∀ b ∈ σT σ, b < 256) ∧ (σF σ).1 ≤ 3 ∧ -1 ≤ (σF σ).2 ∧ (σF σ).2 ≤ 400 ∧ (∀ d, d < 8 → -1 ≤ σP σ d ∧ σP σ d ≤ 2)
-- the model's memory
def Mf (μ : Mem) (q : Nat) (f : FlawD) : Prop := μ.1 8 q = nI (fF f) ∧ μ.1 9 q = nI (fL f) ∧ μ.1 10 q = nI (fX f) ∧ μ.1 11 q = nI (fY f) ∧ μ.1 12 q = iz (fDx f) ∧ μ.1 13 q = iz (fDy f) ∧ μ.1 14 q = nI (fW f) ∧ μ.1 15 q = nI (fH f)
def Mg (μ : Mem) (l : Nat) (g : LogD) : Prop := μ.1 1 l = nI (gN g) ∧ μ.1 2 l = nI (gLen g) ∧ μ.1 3 l = nI (gW g) ∧ μ.1 4 l = iz (gG g) ∧ μ.1 5 l = nI (gT g) ∧ μ.1 6 l = iz (gD g) ∧ μ.1 7 l = nI (gF g).length ∧ ∀ k f, (gF g)[k]? = some f → Mf μ (10 * l + k) f
def ML (μ : Mem) (L : Nat → Option LogD) : Prop := ∀ l, l < 3 → match L l with
  | none => μ.1 1 l = 0
  | some g => Mg μ l g
def Md (μ : Mem) (d : Nat) (D : DoorD) : Prop := μ.1 38 d = nI (dW D) ∧ μ.1 39 d = nI (dH D) ∧ (∀ c r, c < dW D → r < dH D → μ.1 40 (64 * d + 8 * r + c) = nI (dC D c r)) ∧ μ.1 41 d = nI (dPw D) ∧ μ.1 42 d = nI (dPh D) ∧ μ.1 43 d = nI (dT D) ∧ match dM D with
  | none => μ.1 44 d = -1
  | some q => μ.1 44 d = nI q.1 ∧ μ.1 45 d = nI q.2.1 ∧ μ.1 46 d = nI q.2.2.1 ∧ μ.1 47 d = nI q.2.2.2
def MD (μ : Mem) (Dr : Nat → Option DoorD) : Prop := ∀ d, d < 8 → match Dr d with
  | none => μ.1 38 d = 0 ∧ μ.1 44 d = -1
  | some D => Md μ d D
def Ms (μ : Mem) (k : Nat) (s : Strip) : Prop := μ.1 16 k = nI (tL s) ∧ μ.1 17 k = nI (tF s) ∧ μ.1 18 k = nI (tX s) ∧ μ.1 19 k = nI (tY s) ∧ μ.1 20 k = nI (tW s) ∧ μ.1 21 k = nI (tH s) ∧ μ.1 22 k = nI (tM s) ∧ μ.1 23 k = iz (tD s)
def MS (μ : Mem) (S : List Strip) : Prop := μ.1 0 15 = nI S.length ∧ ∀ k s, S[k]? = some s → Ms μ k s
def MT (μ : Mem) (T : List Nat) : Prop := μ.1 0 25 = nI T.length ∧ ∀ k b, T[k]? = some b → μ.1 24 k = nI b
def MF (μ : Mem) (F : Nat × Int) : Prop := μ.1 0 30 = nI F.1 ∧ μ.1 0 31 = iz F.2
def MP (μ : Mem) (P : Nat → Int) : Prop := (μ.1 0 66 = 0 ∧ ∀ d, d < 8 → P d = -1) ∨ (μ.1 0 66 = 1 ∧ ∀ d, d < 8 → μ.1 49 d = iz (P d))
def RM (σ : St) (μ : Mem) : Prop := ML μ (σL σ) ∧ MD μ (σD σ) ∧ MS μ (σS σ) ∧ MT μ (σT σ) ∧ MF μ (σF σ) ∧ MP μ (σP σ)
-- the class's memory
def Cf (μ : Mem) (a : Nat) (f : FlawD) : Prop := μ.1 a 0 = nI (fF f) ∧ μ.1 a 1 = nI (fL f) ∧ μ.1 a 2 = nI (fX f) ∧ μ.1 a 3 = nI (fY f) ∧ μ.1 a 4 = nI (fW f) ∧ μ.1 a 5 = nI (fH f) ∧ μ.1 a 6 = iz (fDx f) ∧ μ.1 a 7 = iz (fDy f)
def bitL (x : Int64) (i : Nat) : Bool := x.toBitVec.getLsbD i
def Cg (μ : Mem) (a : Nat) (g : LogD) : Prop := μ.1 a 0 = 1 ∧ μ.1 a 1 = nI (gN g) ∧ μ.1 a 2 = nI (gLen g) ∧ μ.1 a 6 = nI (gW g) ∧ μ.1 a 7 = iz (gG g) ∧ μ.1 a 3 = nI (gT g) ∧ μ.1 a 4 = iz (gD g) ∧ μ.1 a 8 = nI (gF g).length ∧ (∀ k f, (gF g)[k]? = some f → Cf μ (a + 5 + k) f) ∧
  ∀ i y x, i < gN g → y < gLen g → x < wdt g i → (bitL (μ.2 (a + 3) (60 * i + y)) x = true ↔ ∃ f ∈ gF g, covF f i x y)
def CL (μ : Mem) (L : Nat → Option LogD) : Prop := ∀ l, l < 3 → match L l with
  | none => μ.1 (11 + 15 * l) 0 = 0
  | some g => Cg μ (11 + 15 * l) g
def isLeast (D : DoorD) (o : Nat) : Prop := cnt D o ≠ 0 ∧ ∀ q, q < o → cnt D q = 0
def isGreat (D : DoorD) (o : Nat) : Prop := cnt D o ≠ 0 ∧ ∀ q, o < q → q < 10 → cnt D q = 0
def Cd (μ : Mem) (a : Nat) (D : DoorD) : Prop := μ.1 a 2 = 1 ∧ μ.1 (a + 1) 1 = nI (dW D) ∧ μ.1 (a + 1) 2 = nI (dH D) ∧ (∀ c r, c < dW D → r < dH D → μ.1 (a + 1 + 1) (8 * r + c) = nI (dC D c r)) ∧ μ.1 a 3 = nI (dPw D) ∧ μ.1 a 4 = nI (dPh D) ∧ μ.1 a 5 = nI (dT D) ∧ (∀ o, o < 10 → μ.1 (a + 3) o = nI (cnt D o)) ∧ (∃ o, o < 10 ∧ isLeast D o ∧ μ.1 a 6 = nI o) ∧ (∃ o, o < 10 ∧ isGreat D o ∧ μ.1 a 7 = nI o) ∧ match dM D with
  | none => μ.1 a 8 = -1 ∧ μ.1 a 9 = -1 ∧ μ.1 a 10 = -1 ∧ μ.1 a 11 = -1
  | some q => μ.1 a 8 = nI q.1 ∧ μ.1 a 9 = nI q.2.1 ∧ μ.1 a 10 = nI q.2.2.1 ∧ μ.1 a 11 = nI q.2.2.2
def CD (μ : Mem) (Dr : Nat → Option DoorD) : Prop := ∀ d, d < 8 → match Dr d with
  | none => μ.1 (56 + 4 * d) 2 = 0 ∧ μ.1 (56 + 4 * d) 8 = -1
  | some D => Cd μ (56 + 4 * d) D
def sumM (S : List Strip) (l i : Nat) : Nat := ((S.filter (fun s => tL s == l && tF s == i)).map tM).sum
def CS (μ : Mem) (L : Nat → Option LogD) (S : List Strip) : Prop := ∀ l g, l < 3 → L l = some g → (∀ i, i < 12 → μ.1 (11 + 15 * l + 1) i = nI (sumM S l i)) ∧ ∀ i y x, i < 12 → y < 60 → x < 64 → (bitL (μ.2 (11 + 15 * l + 4) (60 * i + y)) x = true ↔ ∃ s ∈ S, covS s l i x y)
def CT2 (μ : Mem) (T : List Nat) : Prop := μ.1 1 1 = nI T.length ∧ ∀ k b, T[k]? = some b → μ.1 2 k = nI b
def CF (μ : Mem) (F : Nat × Int) : Prop := μ.1 3 2 = nI F.1 ∧ μ.1 3 3 = iz F.2
def CP (μ : Mem) (P : Nat → Int) : Prop := ∀ d, d < 8 → μ.1 89 d = iz (P d)
def RC (σ : St) (μ : Mem) : Prop := CL μ (σL σ) ∧ CD μ (σD σ) ∧ CS μ (σL σ) (σS σ) ∧ CT2 μ (σT σ) ∧ CF μ (σF σ) ∧ CP μ (σP σ)
/-- the two memories hold one state, n calls behind the start -/
def Sim (n : Nat) (μc μm : Mem) : Prop := ∃ σ, WF n σ ∧ RC σ μc ∧ RM σ μm
