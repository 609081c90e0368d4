/-- crates: how many, the last one's load, first book, books, house, each book's crate -/
abbrev PK : Type := Nat × Int32 × (Nat → Int32) × (Nat → Int32) × (Nat → Int32) × (Nat → Int32)
def packS (o : Nat → Nat) (thick house : Nat → Int32) (hold : Int32) (i : Nat) (s : PK) : PK :=
  if 0 < s.1 ∧ s.2.2.2.2.1 (s.1 - 1) = house (o i) ∧ ¬ hold < s.2.1 + thick (o i) then
    (s.1, s.2.1 + thick (o i), s.2.2.1, upd s.2.2.2.1 (s.1 - 1) (s.2.2.2.1 (s.1 - 1) + 1), s.2.2.2.2.1, upd s.2.2.2.2.2 (o i) (nI (s.1 - 1)))
  else (s.1 + 1, 0 + thick (o i), upd s.2.2.1 s.1 (nI (o i)), upd s.2.2.2.1 s.1 (0 + 1), upd s.2.2.2.2.1 s.1 (house (o i)), upd s.2.2.2.2.2 (o i) (nI s.1))
def packF (o : Nat → Nat) (thick house : Nat → Int32) (hold : Int32) : Nat → PK
  | 0 => (0, 0, fun _ => 0, fun _ => 0, fun _ => 0, fun _ => 0)
  | i + 1 => packS o thick house hold i (packF o thick house hold i)
theorem packF_le (o : Nat → Nat) (thick house : Nat → Int32) (hold : Int32) : ∀ i, (packF o thick house hold i).1 ≤ i
  | 0 => Nat.le_refl 0
  | i + 1 => by
    have := packF_le o thick house hold i
    show (packS o thick house hold i (packF o thick house hold i)).1 ≤ i + 1
    unfold packS
    split
    · show (packF o thick house hold i).1 ≤ i + 1; omega
    · show (packF o thick house hold i).1 + 1 ≤ i + 1; omega
def sm (w : Nat → Nat) : Nat → Nat
  | 0 => 0
  | c + 1 => sm w c + w c
theorem sm_le (w : Nat → Nat) (h : ∀ c, w c ≤ 100) : ∀ c, sm w c ≤ 100 * c
  | 0 => Nat.le_refl 0
  | c + 1 => by
    have h1 := sm_le w h c
    have h2 := h c
    show sm w c + w c ≤ 100 * (c + 1)
    omega
theorem sm_mono (w : Nat → Nat) {a b : Nat} (h : a ≤ b) : sm w a ≤ sm w b := by
  induction b with
  | zero => have : a = 0 := by omega
            subst this; exact Nat.le_refl _
  | succ b ih =>
    rcases Nat.lt_or_ge a (b + 1) with q | q
    · exact Nat.le_trans (ih (by omega)) (Nat.le_add_right _ _)
    · have : a = b + 1 := by omega
      subst this; exact Nat.le_refl _
/-- the meeting, among the first c: how many the first team carries, when both have ended -/
def bestF (w : Nat → Nat) (all : Nat) : Nat → Nat × Nat
  | 0 => (0, all)
  | c + 1 => if max (sm w (c + 1)) (all - sm w (c + 1)) < (bestF w all c).2 then (c + 1, max (sm w (c + 1)) (all - sm w (c + 1))) else bestF w all c
def begF (w : Nat → Nat) (all of : Nat) (c : Nat) : Nat := if c < of then sm w c else all - sm w (c + 1)
theorem bestF_le (w : Nat → Nat) (all : Nat) : ∀ c, (bestF w all c).1 ≤ c
  | 0 => Nat.le_refl 0
  | c + 1 => by
    have := bestF_le w all c
    unfold bestF
    split
    · exact Nat.le_refl _
    · omega
/-- the row: the books that have a shelf, in order -/
def rowF (o : Nat → Nat) (sh : Nat → Int32) : Nat → Nat × (Nat → Nat)
  | 0 => (0, fun _ => 0)
  | i + 1 => if sh (o i) = -1 then rowF o sh i else ((rowF o sh i).1 + 1, fun j => if j = (rowF o sh i).1 then o i else (rowF o sh i).2 j)
/-- how many can stay from a place on -/
def mxF (lt : Nat → Nat → Bool) (row : Nat → Nat) (f : Nat → Nat) (i : Nat) : Nat → Nat
  | 0 => 0
  | d + 1 => if f (i + 1 + d) > mxF lt row f i d ∧ lt (row i) (row (i + 1 + d)) = true then f (i + 1 + d) else mxF lt row f i d
def stF (lt : Nat → Nat → Bool) (row : Nat → Nat) (m : Nat) : Nat → Nat → Nat
  | 0 => fun _ => 0
  | d + 1 => fun j => if j = m - 1 - d then 1 + mxF lt row (stF lt row m d) (m - 1 - d) d else stF lt row m d j
def topF (lt : Nat → Nat → Bool) (row : Nat → Nat) (m : Nat) : Nat → Nat
  | 0 => 0
  | d + 1 => max (topF lt row m d) (stF lt row m (d + 1) (m - 1 - d))
/-- who stays, from the front: how many are left to find, the last that stays (0: none, else the place + 1), who is out -/
def outS (c : Nat → Nat → Int32) (row st : Nat → Nat) (i : Nat) (s : Nat × Option Nat × (Nat → Int32)) : Nat × Option Nat × (Nat → Int32) :=
  if st i = s.1 ∧ (s.2.1 = none ∨ ∃ q, s.2.1 = some q ∧ c q (row i) = -1) then (s.1 - 1, some (row i), upd s.2.2 i 0) else (s.1, s.2.1, upd s.2.2 i 1)
noncomputable def outF (c : Nat → Nat → Int32) (row st : Nat → Nat) (top : Nat) : Nat → Nat × Option Nat × (Nat → Int32)
  | 0 => (top, none, fun _ => 0)
  | i + 1 => outS c row st i (outF c row st top i)
/-! the relation between the class's state and the reference's -/
def nds (x : ST) : Nat → Int32 := fun b => x.2.1 12 b * (100 + x.2.1 17 (x.2.1 14 b).toNatClampNeg)
def ordX (n r : Nat) (x : ST) : Nat → Nat := ordF (ltK (x.2.2 (6 + r))) n
def layX (n r ns : Nat) (x : ST) : LY := layF (ordX n r x) (x.2.1 13) (nds x) (x.2.1 16) ns (x.1 13) n
def packX (n r : Nat) (x : ST) : PK := packF (ordX n r x) (x.2.1 12) (x.2.1 11) (x.1 16) n
def wX (x : ST) (ch : Nat → Int32) : Nat → Nat := fun c => (x.2.1 23 (ch c).toNatClampNeg).toNatClampNeg
def LayOK (n ns : Nat) (s : LY) (x : ST) : Prop :=
  x.1 14 = s.2.1 ∧ x.1 15 = s.2.2.1 ∧ (∀ b, b < n → x.2.1 20 b = s.2.2.2.1 b ∧ x.2.1 21 b = s.2.2.2.2.1 b) ∧ ∀ j, j < ns → x.2.1 18 j = s.2.2.2.2.2.1 j ∧ x.2.1 19 j = s.2.2.2.2.2.2 j
def PackOK (n : Nat) (s : PK) (x : ST) : Prop :=
  x.1 17 = nI s.1 ∧ (∀ c, c < s.1 → x.2.1 24 c = s.2.2.1 c ∧ x.2.1 25 c = s.2.2.2.1 c ∧ x.2.1 26 c = s.2.2.2.2.1 c) ∧ ∀ b, b < n → x.2.1 29 b = s.2.2.2.2.2 b
def MeetOK (w : Nat → Nat) (cnt : Nat) (x : ST) : Prop :=
  x.1 18 = nI (bestF w (sm w cnt) cnt).1 ∧ x.1 19 = nI (bestF w (sm w cnt) cnt).2 ∧ ∀ c, c < cnt → x.2.1 27 c = nI (begF w (sm w cnt) (bestF w (sm w cnt) cnt).1 c) ∧ x.2.1 28 c = nI (begF w (sm w cnt) (bestF w (sm w cnt) cnt).1 c + w c)
def PlanOK (n r ns : Nat) (x : ST) : Prop := LayOK n ns (layX n r ns x) x ∧ PackOK n (packX n r x) x ∧ MeetOK (wX x (packX n r x).2.2.2.2.1) (packX n r x).1 x
def rowX (x : ST) : Nat → Nat := fun j => (x.2.1 31 j).toNatClampNeg
noncomputable def outX (r m : Nat) (x : ST) : Nat → Int32 := (outF (cK (x.2.2 (6 + r))) (rowX x) (stF (ltK (x.2.2 (6 + r))) (rowX x) m m) (topF (ltK (x.2.2 (6 + r))) (rowX x) m m) m).2.2
def OutOK (r m : Nat) (x : ST) : Prop := x.1 21 = nI (m - topF (ltK (x.2.2 (6 + r))) (rowX x) m m) ∧ ∀ j, j < m → x.2.1 32 j = outX r m x j
/-- the digits behind the point, in elevens -/
def elev (v : Nat) : Nat → Nat
  | 0 => 0
  | d + 1 => elev (v / 10) d * 11 + (v % 10 + 1)
/-- a mark: its number, what stands behind (none: -1), how many digits, its letters; and its key by a rule -/
def MkOK (num beh dig let_ : Int32) : Prop := ∃ N L : Nat, N ≤ 9999 ∧ L < 19683 ∧ num = nI N ∧ let_ = nI L ∧ ((beh = -1 ∧ dig = nI 0) ∨ ∃ B d : Nat, 1 ≤ d ∧ d ≤ 4 ∧ B < 10 ^ d ∧ beh = nI B ∧ dig = nI d)
def KeyOK (k0 k1 : Int64) (num beh dig let_ : Int32) : Prop := ∃ N L : Nat, N ≤ 9999 ∧ L < 19683 ∧ num = nI N ∧ let_ = nI L ∧
  ((beh = -1 ∧ dig = nI 0 ∧ k0 = lN ((N * 50000 + 0) * 19683 + L) ∧ k1 = lN ((N * 50000 + 0) * 19683 + L)) ∨
    ∃ B d : Nat, 1 ≤ d ∧ d ≤ 4 ∧ B < 10 ^ d ∧ beh = nI B ∧ dig = nI d ∧ k0 = lN ((N * 50000 + elev B d * 11 ^ (4 - d)) * 19683 + L) ∧ k1 = lN ((N * 50000 + (B * 5 + d)) * 19683 + L))
def RBook (b : Nat) (x y : ST) : Prop :=
  x.2.1 11 b = y.2.1 40 b ∧ x.2.1 12 b = y.2.1 41 b ∧ x.2.1 13 b = y.2.1 42 b ∧ x.2.1 14 b = y.2.1 36 b / 1000 ∧ (∃ h, h < 5 ∧ x.2.1 11 b = nI h) ∧ (∃ t, t < 10 ∧ x.2.1 14 b = nI t) ∧ KeyOK (x.2.2 6 b) (x.2.2 7 b) (y.2.1 36 b) (y.2.1 37 b) (y.2.1 38 b) (y.2.1 39 b)
def RB (n : Nat) (x y : ST) : Prop := n ≤ 60 ∧ x.1 10 = nI n ∧ y.1 22 = nI n ∧ ∀ b, b < n → RBook b x y
def RO (n : Nat) (x : ST) : Prop := (∀ k, k < n → x.2.1 9 k = nI (ordX n 0 x k)) ∧ ∀ k, k < n → x.2.1 10 k = nI (ordX n 1 x k)
theorem RO.at {n r : Nat} {x : ST} (h : RO n x) (hr : r < 2) : ∀ k, k < n → x.2.1 (9 + r) k = nI (ordX n r x k) := by
  match r, hr with
  | 0, _ => exact h.1
  | 1, _ => exact h.2
def RQ (n : Nat) (x : ST) : Prop := x.1 11 = nI (quA (quK (x.2.2 6) (x.2.2 7)) n)
def RU (r : Nat) (x y : ST) : Prop := r < 2 ∧ x.1 0 = nI r ∧ y.1 23 = nI r
def RS (ns : Nat) (x y : ST) : Prop := ns ≤ 16 ∧ x.1 12 = nI ns ∧ y.1 26 = nI ns ∧ (∀ j, j < ns → x.2.1 16 j = y.2.1 43 j) ∧ (∀ j, j < 10 → x.2.1 17 j = y.2.1 44 j) ∧ x.1 13 = y.1 24 ∧ x.1 16 = y.1 25 ∧ ∀ j, j < 5 → x.2.1 23 j = y.2.1 45 j ∧ ∃ w, 1 ≤ w ∧ w ≤ 100 ∧ x.2.1 23 j = nI w
def RW (n m : Nat) (x y : ST) : Prop := m ≤ 60 ∧ x.1 20 = nI m ∧ y.1 35 = nI m ∧ (∀ j, j < m → x.2.1 31 j = y.2.1 58 j ∧ ∃ b, b < n ∧ x.2.1 31 j = nI b) ∧ ∀ i j, i < m → j < m → x.2.1 31 i = x.2.1 31 j → i = j
def RT (t : Nat) (x y : ST) : Prop := t ≤ 20 ∧ x.1 3 = nI t ∧ y.1 27 = nI t ∧ (∀ i, i < t → x.2.1 2 i = y.2.1 46 i) ∧ x.1 4 = y.1 28
def RP (n r ns : Nat) (x : ST) : Prop := x.1 1 = 0 ∨ (x.1 1 = 1 ∧ PlanOK n r ns x)
def RZ (r m : Nat) (x : ST) : Prop := x.1 2 = 0 ∨ (x.1 2 = 1 ∧ OutOK r m x)
def RR (n r ns m t : Nat) (x y : ST) : Prop := RB n x y ∧ RO n x ∧ RQ n x ∧ RU r x y ∧ RS ns x y ∧ RW n m x y ∧ RT t x y ∧ RP n r ns x ∧ RZ r m x
def R (x y : ST) : Prop := ∃ n r ns m t, RR n r ns m t x y
/-- one call of both -/
def SIM (wx wy : (Int32 → ST → Prop) → ST → Prop) : Prop := ∀ (x y : ST) (Q : Int32 → Int32 → ST → ST → Prop), R x y → (∀ v x' y', R x' y' → Q v v x' y') → wx (fun v x' => wy (fun v' y' => Q v v' x' y') y) x
theorem R_0 : R x0 y0 := by
  refine ⟨0, 0, 0, 0, 0, ⟨by omega, rfl, rfl, fun b h => absurd h (Nat.not_lt_zero b)⟩, ⟨fun k h => absurd h (Nat.not_lt_zero k), fun k h => absurd h (Nat.not_lt_zero k)⟩, rfl, ⟨by omega, rfl, rfl⟩, ⟨by omega, rfl, rfl, fun j h => absurd h (Nat.not_lt_zero j), fun j _ => rfl, rfl, rfl, fun j hj => ⟨rfl, 10, by omega, by omega, ?_⟩⟩, ⟨by omega, rfl, rfl, fun j h => absurd h (Nat.not_lt_zero j), fun i j h => absurd h (Nat.not_lt_zero i)⟩, ⟨by omega, rfl, rfl, fun j h => absurd h (Nat.not_lt_zero j), rfl⟩, Or.inl rfl, Or.inl rfl⟩
  match j, hj with
  | 0, _ => rfl
  | 1, _ => rfl
  | 2, _ => rfl
  | 3, _ => rfl
  | 4, _ => rfl
  | k + 5, h => exact absurd h (by omega)
