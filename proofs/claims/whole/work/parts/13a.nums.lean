/-- the two states behind the constructors -/
def way0 : Nat → Int32 := upd (upd (upd (upd (upd (fun _ => 0) (0 : Int32).toNatClampNeg 10) (1 : Int32).toNatClampNeg 10) (2 : Int32).toNatClampNeg 10) (3 : Int32).toNatClampNeg 10) (4 : Int32).toNatClampNeg 10
def x0 : ST := (fun k => if k = 4 then -1 else if k = 13 then 30 else if k = 16 then 100 else 0, fun p => if p = 23 then way0 else fun _ => 0, fun _ _ => 0)
def y0 : ST := (fun k => if k = 24 then 30 else if k = 25 then 100 else if k = 28 then -1 else 0, fun p => if p = 45 then way0 else fun _ => 0, fun _ _ => 0)
/-! THE PURE SIDE: no machine from here on. Numbers, states, loops. -/
theorem i10 : ((1 : Int32) = 0) = False := by decide
theorem i01 : ((0 : Int32) = 1) = False := by decide
theorem gI_e (x : ST) (k : Nat) : gI x k = x.1 k := rfl
theorem gA_n (x : ST) (k : Nat) {n : Nat} (h : n < 2 ^ 31) : gA x k (nI n) = x.2.1 k n := by
  show x.2.1 k (nI n).toNatClampNeg = _
  rw [nI_clamp h]
theorem gL_n (x : ST) (k : Nat) {n : Nat} (h : n < 2 ^ 31) : gL x k (nI n) = x.2.2 k n := by
  show x.2.2 k (nI n).toNatClampNeg = _
  rw [nI_clamp h]
theorem pA_n (x : ST) (k : Nat) {n : Nat} (h : n < 2 ^ 31) (v : Int32) : pA x k (nI n) v = (x.1, va_up x.2.1 k (upd (x.2.1 k) n v), x.2.2) := by
  unfold pA
  rw [nI_clamp h]
theorem pL_n (x : ST) (k : Nat) {n : Nat} (h : n < 2 ^ 31) (v : Int64) : pL x k (nI n) v = (x.1, x.2.1, va_up x.2.2 k (vp_updL (x.2.2 k) n v)) := by
  unfold pL
  rw [nI_clamp h]
theorem nI_toI {n : Nat} (h : n < 2 ^ 31) : (nI n).toInt = (n : Int) := nI_toInt h
theorem i32_le (a b : Int32) : a ≤ b ↔ a.toInt ≤ b.toInt := Int32.le_iff_toInt_le
theorem i32_lt (a b : Int32) : a < b ↔ a.toInt < b.toInt := Int32.lt_iff_toInt_lt
theorem i32_eq (a b : Int32) : a = b ↔ a.toInt = b.toInt := Int32.toInt_inj.symm
theorem i32_rng (x : Int32) : -2147483648 ≤ x.toInt ∧ x.toInt < 2147483648 := by
  have h1 := x.toBitVec.isLt
  have h2 : x.toInt = x.toBitVec.toInt := rfl
  rw [h2, BitVec.toInt_eq_toNat_cond]
  split <;> omega
theorem i32_ofN {x : Int32} {n : Nat} (h : x.toInt = (n : Int)) (hn : n < 2 ^ 31) : x = nI n := (i32_eq _ _).mpr (by rw [h, nI_toI hn])
theorem i32_pos {x : Int32} (h : 0 ≤ x.toInt) : ∃ n : Nat, n < 2 ^ 31 ∧ x = nI n :=
  ⟨x.toInt.toNat, by have := (i32_rng x).2; omega, i32_ofN (by omega) (by have := (i32_rng x).2; omega)⟩
/-- 'within': 1 or 0 -/
def wi (a lo hi : Int32) : Int32 := if a < lo then 0 else if hi < a then 0 else 1
theorem wi_or (a lo hi : Int32) : (wi a lo hi = 0 ∧ (a < lo ∨ hi < a)) ∨ (wi a lo hi = 1 ∧ ¬ a < lo ∧ ¬ hi < a) := by
  unfold wi
  by_cases h1 : a < lo
  · simp [h1]
  · by_cases h2 : hi < a
    · simp [h1, h2]
    · simp [h1, h2]
theorem within_iff (a lo hi : Int32) (K : Int32 → ST → Prop) (x : ST) : wX6_within a lo hi K x ↔ K (wi a lo hi) x := by
  unfold wX6_within wi
  by_cases h1 : a < lo
  · simp [h1]
  · by_cases h2 : hi < a
    · simp [h1, h2]
    · simp [h1, h2]
theorem isIn_iff (a lo hi : Int32) (K : Int32 → ST → Prop) (x : ST) : wX7_isIn a lo hi K x ↔ K (wi a lo hi) x := by
  unfold wX7_isIn wi
  by_cases h1 : a < lo
  · simp [h1]
  · by_cases h2 : hi < a
    · simp [h1, h2]
    · simp [h1, h2]
/-- an int that lies between 0 and n - 1 is a place -/
theorem wi_n {a : Int32} {n : Nat} (hn : n < 2 ^ 31) (h0 : ¬ a < 0) (h1 : ¬ (nI n - 1) < a) : ∃ j, j < n ∧ a = nI j := by
  rw [i32_lt] at h0 h1
  have e0 : (0 : Int32).toInt = 0 := rfl
  obtain ⟨j, hj, rfl⟩ := i32_pos (x := a) (by omega)
  refine ⟨j, ?_, rfl⟩
  rw [nI_toI hj] at h1
  rcases Nat.eq_zero_or_pos n with h | h
  · subst h
    have : (nI 0 - 1 : Int32).toInt = -1 := by decide
    omega
  · have e : nI n - 1 = nI (n - 1) := by
      have : nI n = nI (n - 1 + 1) := by rw [Nat.sub_add_cancel h]
      rw [this]; exact nI_pred (n - 1)
    rw [e, nI_toI (by omega)] at h1
    omega
theorem wi_c {a : Int32} {n : Nat} (hn : n < 2 ^ 31) (h0 : ¬ a < 0) (h1 : ¬ nI n < a) : ∃ j, j ≤ n ∧ a = nI j := by
  rw [i32_lt] at h0 h1
  have e0 : (0 : Int32).toInt = 0 := rfl
  obtain ⟨j, hj, rfl⟩ := i32_pos (x := a) (by omega)
  rw [nI_toI hj, nI_toI hn] at h1
  exact ⟨j, by omega, rfl⟩
theorem wi_of {a : Int32} {lo hi : Nat} (hlo : lo < 2 ^ 31) (hh : hi < 2 ^ 31) (h0 : ¬ a < nI lo) (h1 : ¬ nI hi < a) : ∃ j, lo ≤ j ∧ j ≤ hi ∧ a = nI j := by
  rw [i32_lt] at h0 h1
  rw [nI_toI hlo] at h0
  obtain ⟨j, hj, rfl⟩ := i32_pos (x := a) (by omega)
  rw [nI_toI hj] at h0 h1
  rw [nI_toI hh] at h1
  exact ⟨j, by omega, by omega, rfl⟩
/-- loops: an invariant with a measure -/
theorem it1 {F : (Int32 → ST → Prop) → Int32 → ST → Prop} (I : Nat → Int32 → ST → Prop) (hs : ∀ m a x G, I m a x → (∀ m' a' x', m' < m → I m' a' x' → G a' x') → F G a x) {m : Nat} {a : Int32} {x : ST} (h : I m a x) : ∃ n, it (fun (_ : Int32) (_ : ST) => False) F n a x := by
  have key : ∀ n m a x, m < n → I m a x → it (fun (_ : Int32) (_ : ST) => False) F n a x := by
    intro n
    induction n with
    | zero => intro m a x hm; omega
    | succ n ih => intro m a x hm hI; exact hs m a x _ hI (fun m' a' x' hlt hI' => ih m' a' x' (by omega) hI')
  exact ⟨m + 1, key _ m a x (by omega) h⟩
theorem it2 {F : (Int32 → Int32 → ST → Prop) → Int32 → Int32 → ST → Prop} (I : Nat → Int32 → Int32 → ST → Prop) (hs : ∀ m a b x G, I m a b x → (∀ m' a' b' x', m' < m → I m' a' b' x' → G a' b' x') → F G a b x) {m : Nat} {a b : Int32} {x : ST} (h : I m a b x) : ∃ n, it (fun (_ : Int32) (_ : Int32) (_ : ST) => False) F n a b x := by
  have key : ∀ n m a b x, m < n → I m a b x → it (fun (_ : Int32) (_ : Int32) (_ : ST) => False) F n a b x := by
    intro n
    induction n with
    | zero => intro m a b x hm; omega
    | succ n ih => intro m a b x hm hI; exact hs m a b x _ hI (fun m' a' b' x' hlt hI' => ih m' a' b' x' (by omega) hI')
  exact ⟨m + 1, key _ m a b x (by omega) h⟩
theorem it3 {F : (Int32 → Int32 → Int32 → ST → Prop) → Int32 → Int32 → Int32 → ST → Prop} (I : Nat → Int32 → Int32 → Int32 → ST → Prop) (hs : ∀ m a b c x G, I m a b c x → (∀ m' a' b' c' x', m' < m → I m' a' b' c' x' → G a' b' c' x') → F G a b c x) {m : Nat} {a b c : Int32} {x : ST} (h : I m a b c x) : ∃ n, it (fun (_ : Int32) (_ : Int32) (_ : Int32) (_ : ST) => False) F n a b c x := by
  have key : ∀ n m a b c x, m < n → I m a b c x → it (fun (_ : Int32) (_ : Int32) (_ : Int32) (_ : ST) => False) F n a b c x := by
    intro n
    induction n with
    | zero => intro m a b c x hm; omega
    | succ n ih => intro m a b c x hm hI; exact hs m a b c x _ hI (fun m' a' b' c' x' hlt hI' => ih m' a' b' c' x' (by omega) hI')
  exact ⟨m + 1, key _ m a b c x (by omega) h⟩
theorem nI_m1 {n : Nat} (h : 0 < n) : nI n - 1 = nI (n - 1) := by
  have : nI n = nI (n - 1 + 1) := by rw [Nat.sub_add_cancel h]
  rw [this]; exact nI_pred (n - 1)
theorem nI_am1 {n : Nat} (h : 0 < n) : nI n + (-1) = nI (n - 1) := by
  have : nI n = nI (n - 1 + 1) := by rw [Nat.sub_add_cancel h]
  rw [this]; exact pk_m1 (n - 1)
theorem lit (n : Nat) : (OfNat.ofNat n : Int32) = nI n := rfl
theorem vin {n N : Nat} (h : n < N) (hN : N < 2 ^ 31) : vp_in (nI n) N := vp_in_nI h hN
/-- two branches -/
theorem brT {c A B : Prop} (h : c) (a : A) : (c → A) ∧ (¬ c → B) := ⟨fun _ => a, fun n => absurd h n⟩
theorem brF {c A B : Prop} (h : ¬ c) (b : B) : (c → A) ∧ (¬ c → B) := ⟨fun n => absurd n h, fun _ => b⟩
theorem rbT {c A B : Prop} (h : c) (a : A) : (¬ c → B) ∧ (c → A) := ⟨fun n => absurd h n, fun _ => a⟩
theorem rbF {c A B : Prop} (h : ¬ c) (b : B) : (¬ c → B) ∧ (c → A) := ⟨fun _ => b, fun n => absurd n h⟩
theorem n10 : ¬ (1 : Int32) = 0 := by decide
