/-! what both programs reckon, as functions -/
/-- how two books stand by their keys (then by their numbers) -/
def cK (k : Nat → Int64) (a b : Nat) : Int32 := if k a < k b then -1 else if k b < k a then 1 else if a < b then -1 else if a = b then 0 else 1
def ltK (k : Nat → Int64) (a b : Nat) : Bool := decide (cK k a b = -1)
theorem i64_tri (a b : Int64) : a < b ∨ a = b ∨ b < a := by
  rw [Int64.lt_iff_toInt_lt, Int64.lt_iff_toInt_lt, ← Int64.toInt_inj]; omega
theorem i64_asym {a b : Int64} (h : a < b) : ¬ b < a := by
  rw [Int64.lt_iff_toInt_lt] at h ⊢; omega
theorem i64_irr (a : Int64) : ¬ a < a := by rw [Int64.lt_iff_toInt_lt]; omega
theorem cK_neg (k : Nat → Int64) (a b : Nat) : cK k b a = - cK k a b := by
  unfold cK
  rcases i64_tri (k a) (k b) with h | h | h
  · have := i64_asym h; simp [h, this]
  · have h1 := i64_irr (k b)
    rw [h]
    simp only [h1, if_false]
    rcases Nat.lt_trichotomy a b with q | q | q
    · have q1 : ¬ b < a := by omega
      have q2 : ¬ b = a := by omega
      simp [q, q1, q2]
    · subst q; simp
    · have q1 : ¬ a < b := by omega
      have q2 : ¬ a = b := by omega
      simp [q, q1, q2]
  · have := i64_asym h; simp [h, this]
theorem cK_val (k : Nat → Int64) (a b : Nat) : cK k a b = -1 ∨ (cK k a b = 0 ∧ a = b) ∨ cK k a b = 1 := by
  unfold cK
  split
  · exact Or.inl rfl
  · split
    · exact Or.inr (Or.inr rfl)
    · split
      · exact Or.inl rfl
      · split
        · exact Or.inr (Or.inl ⟨rfl, by assumption⟩)
        · exact Or.inr (Or.inr rfl)
theorem cK_self (k : Nat → Int64) (a : Nat) : cK k a a = 0 := by
  unfold cK; simp [i64_irr]
theorem cK_cong {k k2 : Nat → Int64} {a b : Nat} (ha : k a = k2 a) (hb : k b = k2 b) : cK k a b = cK k2 a b := by
  unfold cK; rw [ha, hb]
/-- where a book comes to stand, sought from behind -/
def posF (lt : Nat → Nat → Bool) (b : Nat) (o : Nat → Nat) : Nat → Nat
  | 0 => 0
  | i + 1 => if lt b (o i) then posF lt b o i else i + 1
def insF (o : Nat → Nat) (b p : Nat) : Nat → Nat := fun j => if j < p then o j else if j = p then b else o (j - 1)
def ordF (lt : Nat → Nat → Bool) : Nat → Nat → Nat
  | 0 => fun _ => 0
  | n + 1 => insF (ordF lt n) n (posF lt n (ordF lt n) n)
theorem posF_le (lt : Nat → Nat → Bool) (b : Nat) (o : Nat → Nat) : ∀ i, posF lt b o i ≤ i
  | 0 => Nat.le_refl 0
  | i + 1 => by
    unfold posF
    split
    · have := posF_le lt b o i; omega
    · exact Nat.le_refl _
theorem posF_cong {lt lt2 : Nat → Nat → Bool} {b : Nat} {o o2 : Nat → Nat} : ∀ {i : Nat}, (∀ j, j < i → o j = o2 j) → (∀ j, j < i → lt b (o j) = lt2 b (o j)) → posF lt b o i = posF lt2 b o2 i
  | 0, _, _ => rfl
  | i + 1, h, h2 => by
    unfold posF
    rw [← h i (by omega), ← h2 i (by omega), posF_cong (fun j hj => h j (by omega)) (fun j hj => h2 j (by omega))]
theorem ordF_lt (lt : Nat → Nat → Bool) : ∀ n k, k < n → ordF lt n k < n
  | 0, k, h => absurd h (Nat.not_lt_zero k)
  | n + 1, k, h => by
    show insF (ordF lt n) n (posF lt n (ordF lt n) n) k < n + 1
    have hp := posF_le lt n (ordF lt n) n
    unfold insF
    split
    · have := ordF_lt lt n k (by omega); omega
    · split
      · omega
      · have := ordF_lt lt n (k - 1) (by omega); omega
theorem ordF_inj (lt : Nat → Nat → Bool) : ∀ n i j, i < n → j < n → ordF lt n i = ordF lt n j → i = j
  | 0, i, j, h, _, _ => absurd h (Nat.not_lt_zero i)
  | n + 1, i, j, hi, hj, e => by
    have hp := posF_le lt n (ordF lt n) n
    have e : insF (ordF lt n) n (posF lt n (ordF lt n) n) i = insF (ordF lt n) n (posF lt n (ordF lt n) n) j := e
    generalize posF lt n (ordF lt n) n = p at hp e
    have L := ordF_lt lt n
    have ih := ordF_inj lt n
    unfold insF at e
    by_cases i1 : i < p <;> by_cases j1 : j < p
    · rw [if_pos i1, if_pos j1] at e; exact ih i j (by omega) (by omega) e
    · rw [if_pos i1, if_neg j1] at e
      by_cases j2 : j = p
      · rw [if_pos j2] at e; have := L i (by omega); omega
      · rw [if_neg j2] at e; have := ih i (j - 1) (by omega) (by omega) e; omega
    · rw [if_neg i1, if_pos j1] at e
      by_cases i2 : i = p
      · rw [if_pos i2] at e; have := L j (by omega); omega
      · rw [if_neg i2] at e; have := ih (i - 1) j (by omega) (by omega) e; omega
    · rw [if_neg i1, if_neg j1] at e
      by_cases i2 : i = p <;> by_cases j2 : j = p
      · omega
      · rw [if_pos i2, if_neg j2] at e; have := L (j - 1) (by omega); omega
      · rw [if_neg i2, if_pos j2] at e; have := L (i - 1) (by omega); omega
      · rw [if_neg i2, if_neg j2] at e; have := ih (i - 1) (j - 1) (by omega) (by omega) e; omega
theorem ordF_onto (lt : Nat → Nat → Bool) : ∀ n b, b < n → ∃ k, k < n ∧ ordF lt n k = b
  | 0, b, h => absurd h (Nat.not_lt_zero b)
  | n + 1, b, h => by
    have hp := posF_le lt n (ordF lt n) n
    show ∃ k, k < n + 1 ∧ insF (ordF lt n) n (posF lt n (ordF lt n) n) k = b
    generalize posF lt n (ordF lt n) n = p at hp
    unfold insF
    rcases Nat.lt_or_ge b n with q | q
    · obtain ⟨k, hk, e⟩ := ordF_onto lt n b q
      rcases Nat.lt_or_ge k p with z | z
      · exact ⟨k, by omega, by rw [if_pos z]; exact e⟩
      · exact ⟨k + 1, by omega, by rw [if_neg (by omega), if_neg (by omega)]; exact e⟩
    · exact ⟨p, by omega, by rw [if_neg (by omega), if_pos rfl]; omega⟩
theorem ordF_cong {lt lt2 : Nat → Nat → Bool} : ∀ n, (∀ a b, a < n → b < n → lt a b = lt2 a b) → ∀ k, k < n → ordF lt n k = ordF lt2 n k
  | 0, _, k, h => absurd h (Nat.not_lt_zero k)
  | n + 1, h, k, hk => by
    have ih := ordF_cong n (fun a b ha hb => h a b (by omega) (by omega))
    show insF (ordF lt n) n (posF lt n (ordF lt n) n) k = insF (ordF lt2 n) n (posF lt2 n (ordF lt2 n) n) k
    have e : posF lt n (ordF lt n) n = posF lt2 n (ordF lt2 n) n := posF_cong ih (fun j hj => h n _ (by omega) (by have := ordF_lt lt n j hj; omega))
    rw [e]
    have hp := posF_le lt2 n (ordF lt2 n) n
    unfold insF
    split
    · exact ih k (by omega)
    · split
      · rfl
      · exact ih (k - 1) (by omega)
/-- quarrels -/
def quB (q : Nat → Nat → Bool) (b : Nat) : Nat → Nat
  | 0 => 0
  | j + 1 => quB q b j + (if q j b then 1 else 0)
def quA (q : Nat → Nat → Bool) : Nat → Nat
  | 0 => 0
  | n + 1 => quA q n + quB q n n
def quK (k0 k1 : Nat → Int64) (a b : Nat) : Bool := decide (cK k0 a b ≠ cK k1 a b)
theorem quB_le (q : Nat → Nat → Bool) (b : Nat) : ∀ j, quB q b j ≤ j
  | 0 => Nat.le_refl 0
  | j + 1 => by
    have := quB_le q b j
    unfold quB
    split <;> omega
theorem quA_le (q : Nat → Nat → Bool) : ∀ n, quA q n ≤ n * n
  | 0 => Nat.le_refl 0
  | n + 1 => by
    have h1 := quA_le q n
    have h2 := quB_le q n n
    show quA q n + quB q n n ≤ (n + 1) * (n + 1)
    have : (n + 1) * (n + 1) = n * n + n + n + 1 := by rw [Nat.add_mul, Nat.mul_add]; omega
    omega
theorem quB_cong {q q2 : Nat → Nat → Bool} {b : Nat} : ∀ {j : Nat}, (∀ a, a < j → q a b = q2 a b) → quB q b j = quB q2 b j
  | 0, _ => rfl
  | j + 1, h => by
    unfold quB
    rw [h j (by omega), quB_cong (fun a ha => h a (by omega))]
theorem quA_cong {q q2 : Nat → Nat → Bool} : ∀ {n : Nat}, (∀ a b, a < n → b < n → q a b = q2 a b) → quA q n = quA q2 n
  | 0, _ => rfl
  | n + 1, h => by
    unfold quA
    rw [quA_cong (fun a b ha hb => h a b (by omega) (by omega)), quB_cong (fun a ha => h a n (by omega) (by omega))]
theorem quK_sym (k0 k1 : Nat → Int64) (a b : Nat) : quK k0 k1 a b = quK k0 k1 b a := by
  unfold quK
  rw [cK_neg k0 b a, cK_neg k1 b a]
  rcases cK_val k0 b a with h | ⟨h, -⟩ | h <;> rcases cK_val k1 b a with g | ⟨g, -⟩ | g <;> rw [h, g] <;> decide
/-- LAID: the shelf at hand, OUTSIZE, NOT LAID, each book's shelf and place, each shelf's books and needs -/
abbrev LY : Type := Nat × Int32 × Int32 × (Nat → Int32) × (Nat → Int32) × (Nat → Int32) × (Nat → Int32)
def advF (full : Nat → Bool) (ns : Nat) : Nat → Nat → Nat
  | 0, h => h
  | f + 1, h => if h < ns ∧ full h = true then advF full ns f (h + 1) else h
def fullF (need long : Nat → Int32) (nd : Int32) (h : Nat) : Bool := decide (¬ need h + nd ≤ 100 * long h)
def layS (o : Nat → Nat) (tall nds long : Nat → Int32) (ns : Nat) (limit : Int32) (i : Nat) (s : LY) : LY :=
  if tall (o i) ≤ limit then
    if advF (fullF s.2.2.2.2.2.2 long (nds (o i))) ns 16 s.1 < ns then
      (advF (fullF s.2.2.2.2.2.2 long (nds (o i))) ns 16 s.1, s.2.1, s.2.2.1, upd s.2.2.2.1 (o i) (nI (advF (fullF s.2.2.2.2.2.2 long (nds (o i))) ns 16 s.1)), upd s.2.2.2.2.1 (o i) (s.2.2.2.2.2.1 (advF (fullF s.2.2.2.2.2.2 long (nds (o i))) ns 16 s.1)),
        upd s.2.2.2.2.2.1 (advF (fullF s.2.2.2.2.2.2 long (nds (o i))) ns 16 s.1) (s.2.2.2.2.2.1 (advF (fullF s.2.2.2.2.2.2 long (nds (o i))) ns 16 s.1) + 1), upd s.2.2.2.2.2.2 (advF (fullF s.2.2.2.2.2.2 long (nds (o i))) ns 16 s.1) (s.2.2.2.2.2.2 (advF (fullF s.2.2.2.2.2.2 long (nds (o i))) ns 16 s.1) + nds (o i)))
    else (advF (fullF s.2.2.2.2.2.2 long (nds (o i))) ns 16 s.1, s.2.1, s.2.2.1 + 1, upd s.2.2.2.1 (o i) (-1), upd s.2.2.2.2.1 (o i) (-1), s.2.2.2.2.2.1, s.2.2.2.2.2.2)
  else (s.1, s.2.1 + 1, s.2.2.1, upd s.2.2.2.1 (o i) (-1), upd s.2.2.2.2.1 (o i) (-1), s.2.2.2.2.2.1, s.2.2.2.2.2.2)
def layF (o : Nat → Nat) (tall nds long : Nat → Int32) (ns : Nat) (limit : Int32) : Nat → LY
  | 0 => (0, 0, 0, fun _ => -1, fun _ => -1, fun _ => 0, fun _ => 0)
  | i + 1 => layS o tall nds long ns limit i (layF o tall nds long ns limit i)
