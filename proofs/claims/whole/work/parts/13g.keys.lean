/-! how the two programs compare two books: by one key; by number, what stands behind, letters -/
theorem fk_form {B d : Nat} (h1 : 1 ≤ d) (h4 : d ≤ 4) (hB : B < 10 ^ d) : ∃ p q r s : Nat, p < 10 ∧ q < 10 ∧ r < 10 ∧ s < 10 ∧
    ((d = 1 ∧ elev B d * 11 ^ (4 - d) = 1331 * (p + 1) ∧ 10 * (B * 10 ^ (4 - d)) + d = 10000 * p + 1) ∨
     (d = 2 ∧ elev B d * 11 ^ (4 - d) = 1331 * (p + 1) + 121 * (q + 1) ∧ 10 * (B * 10 ^ (4 - d)) + d = 10000 * p + 1000 * q + 2) ∨
     (d = 3 ∧ elev B d * 11 ^ (4 - d) = 1331 * (p + 1) + 121 * (q + 1) + 11 * (r + 1) ∧ 10 * (B * 10 ^ (4 - d)) + d = 10000 * p + 1000 * q + 100 * r + 3) ∨
     (d = 4 ∧ elev B d * 11 ^ (4 - d) = 1331 * (p + 1) + 121 * (q + 1) + 11 * (r + 1) + (s + 1) ∧ 10 * (B * 10 ^ (4 - d)) + d = 10000 * p + 1000 * q + 100 * r + 10 * s + 4)) := by
  rcases (show d = 1 ∨ d = 2 ∨ d = 3 ∨ d = 4 by omega) with rfl | rfl | rfl | rfl
  · refine ⟨B, 0, 0, 0, by omega, by omega, by omega, by omega, Or.inl ⟨rfl, ?_, ?_⟩⟩
    · simp only [elev]; omega
    · omega
  · refine ⟨B / 10, B % 10, 0, 0, by omega, by omega, by omega, by omega, Or.inr (Or.inl ⟨rfl, ?_, ?_⟩)⟩
    · simp only [elev]; omega
    · omega
  · refine ⟨B / 100, B / 10 % 10, B % 10, 0, by omega, by omega, by omega, by omega, Or.inr (Or.inr (Or.inl ⟨rfl, ?_, ?_⟩))⟩
    · simp only [elev]; omega
    · omega
  · refine ⟨B / 1000, B / 100 % 10, B / 10 % 10, B % 10, by omega, by omega, by omega, by omega, Or.inr (Or.inr (Or.inr ⟨rfl, ?_, ?_⟩))⟩
    · simp only [elev]; omega
    · omega
theorem fk_lt {B d B2 d2 : Nat} (h1 : 1 ≤ d) (h4 : d ≤ 4) (hB : B < 10 ^ d) (h12 : 1 ≤ d2) (h42 : d2 ≤ 4) (hB2 : B2 < 10 ^ d2) :
    elev B d * 11 ^ (4 - d) < elev B2 d2 * 11 ^ (4 - d2) ↔ 10 * (B * 10 ^ (4 - d)) + d < 10 * (B2 * 10 ^ (4 - d2)) + d2 := by
  obtain ⟨p, q, r, s, hp, hq, hr, hs, h⟩ := fk_form h1 h4 hB
  obtain ⟨p2, q2, r2, s2, hp2, hq2, hr2, hs2, h2⟩ := fk_form h12 h42 hB2
  rcases h with ⟨-, e1, e2⟩ | ⟨-, e1, e2⟩ | ⟨-, e1, e2⟩ | ⟨-, e1, e2⟩ <;> rcases h2 with ⟨-, e3, e4⟩ | ⟨-, e3, e4⟩ | ⟨-, e3, e4⟩ | ⟨-, e3, e4⟩ <;> rw [e1, e2, e3, e4] <;> clear e1 e2 e3 e4 hB hB2 <;> first | omega | (rcases Nat.lt_trichotomy p p2 with c | c | c <;> first | omega | (rcases Nat.lt_trichotomy q q2 with c2 | c2 | c2 <;> first | omega | (rcases Nat.lt_trichotomy r r2 with c3 | c3 | c3 <;> omega)))
theorem fk_bound {B d : Nat} (h1 : 1 ≤ d) (h4 : d ≤ 4) (hB : B < 10 ^ d) : 0 < elev B d * 11 ^ (4 - d) ∧ elev B d * 11 ^ (4 - d) < 50000 ∧ 10 * (B * 10 ^ (4 - d)) + d < 200000 := by
  obtain ⟨p, q, r, s, hp, hq, hr, hs, h⟩ := fk_form h1 h4 hB
  rcases h with ⟨-, e1, e2⟩ | ⟨-, e1, e2⟩ | ⟨-, e1, e2⟩ | ⟨-, e1, e2⟩ <;> rw [e1, e2] <;> omega
theorem sg_x {a b r : Nat} {K : Int32 → ST → Prop} {x : ST} (ha : a < 60) (hb : b < 60) (hr : r < 2) (h : K (cK (x.2.2 (6 + r)) a b) x) : wX0_sign (nI a) (nI b) (nI r) K x := by
  unfold wX0_sign
  refine ⟨vin hr (by omega), vin ha (by omega), fun v4 e4 => ⟨vin hb (by omega), fun v6 e6 => ?_⟩⟩
  rw [nI_clamp (by omega), gL_n _ _ (by omega)] at e4 e6
  subst e4 e6
  unfold cK at h
  unfold lg_cmp
  generalize x.2.2 (6 + r) a = p at h ⊢
  generalize x.2.2 (6 + r) b = q at h ⊢
  rcases i64_tri p q with c | c | c
  · rw [if_pos c] at h
    have c1 := i64_asym c
    have c2 : ¬ p = q := fun e => i64_irr p (by rw [← e] at c; exact c)
    rw [if_neg (show ¬ p > q from c1), if_neg c2]
    exact brF (by decide) (brF (by decide) h)
  · subst c
    have c1 := i64_irr p
    rw [if_neg c1, if_neg c1] at h
    rw [if_neg (show ¬ p > p from c1), if_pos rfl]
    refine brT rfl ?_
    rw [nI_leI (by omega) (by omega), nI_eq (by omega) (by omega)]
    by_cases c2 : a < b
    · rw [if_pos c2] at h; exact brF (by omega) h
    · rw [if_neg c2] at h
      refine brT (by omega) ?_
      by_cases c3 : a = b
      · rw [if_pos c3] at h; exact rbT c3 h
      · rw [if_neg c3] at h; exact rbF c3 h
  · have c1 := i64_asym c
    rw [if_neg c1, if_pos c] at h
    rw [if_pos (show p > q from c)]
    exact brF (by decide) (brT (by decide) h)
theorem sg_y {p q : Int32} {K : Int32 → ST → Prop} {y : ST} (h : K (if p.toInt < q.toInt then -1 else if q.toInt < p.toInt then 1 else 0) y) : wX7_sign p q K y := by
  unfold wX7_sign
  rw [i32_le, i32_le]
  by_cases c : p.toInt < q.toInt
  · rw [if_pos c] at h; exact brF (by omega) h
  · rw [if_neg c] at h
    refine brT (by omega) ?_
    by_cases c2 : q.toInt < p.toInt
    · rw [if_pos c2] at h; exact brF (by omega) h
    · rw [if_neg c2] at h; exact brT (by omega) h
/-- the number that stands for what is behind the point, by a rule -/
def kvF (r : Nat) (B d : Nat) : Nat := if r = 0 then 10 * (B * 10 ^ (4 - d)) + d else 10 * B + d
theorem ko_y {a r B d : Nat} {K : Int32 → ST → Prop} {y : ST} (ha : a < 60) (hr : r < 2) (hd1 : 1 ≤ d) (hd4 : d ≤ 4) (hB : B < 10 ^ d) (h1 : y.2.1 37 a = nI B) (h2 : y.2.1 38 a = nI d) (h : K (nI (kvF r B d)) y) : wX7_keyOf (nI a) (nI r) K y := by
  have hB4 : B < 10000 := by
    rcases (show d = 1 ∨ d = 2 ∨ d = 3 ∨ d = 4 by omega) with rfl | rfl | rfl | rfl <;> omega
  unfold wX7_keyOf
  rw [gA_n _ _ (by omega), gA_n _ _ (by omega), h1, h2]
  refine ⟨vin ha (by omega), brT (nI_pos' (by omega)) (fun v3 e3 => ?_)⟩
  unfold kvF at h
  by_cases c : r = 0
  · rw [if_pos c] at h
    subst c
    refine rbT rfl (fun v4 e4 => ?_)
    subst e3 e4
    refine it2 (I := fun mm v w y2 => ∃ k, k ≤ 4 - d ∧ v = nI (B * 10 ^ k) ∧ w = nI (d + k) ∧ mm = 5 - (d + k) ∧ y2 = y) ?_ (m := 5 - d) ⟨0, by omega, by simp, by simp, by omega, rfl⟩
    rintro mm v w y2 G ⟨k, hk, rfl, rfl, hmm, rfl⟩ hG
    unfold FX7_keyOf_30
    rw [show (4 : Int32) = nI 4 from rfl, nI_leI (by omega) (by omega)]
    by_cases c2 : 4 ≤ d + k
    · refine brT c2 ⟨vin ha (by omega), ?_⟩
      rw [gA_n _ _ (by omega), h2, show (10 : Int32) = nI 10 from rfl, pk_mul, nI_add, show k = 4 - d by omega]
      exact h
    · refine brF c2 (fun v5 e5 w5 e6 => ?_)
      rw [show (10 : Int32) = nI 10 from rfl, pk_mul] at e5
      rw [nI_1] at e6
      refine hG (5 - (d + (k + 1))) _ _ _ (by omega) ⟨k + 1, by omega, ?_, by rw [e6]; rfl, rfl, rfl⟩
      rw [e5, Nat.pow_succ, Nat.mul_assoc]
  · rw [if_neg c] at h
    have e0 : ¬ nI r = 0 := nI_ne0 (by omega) (by omega)
    refine rbF e0 ?_
    rw [e3, show (10 : Int32) = nI 10 from rfl, pk_mul, nI_add]
    exact h
theorem ko_n {a r : Nat} {K : Int32 → ST → Prop} {y : ST} (ha : a < 60) (h1 : y.2.1 37 a = -1) (h : K (-1) y) : wX7_keyOf (nI a) (nI r) K y := by
  unfold wX7_keyOf
  rw [gA_n _ _ (by omega), h1]
  exact ⟨vin ha (by omega), brF (by decide) h⟩
/-- a book's number, letters, what stands behind as a number (none: -1), and the middle of its key -/
def KeyV (r a : Nat) (k : Int64) (y : ST) (N L f : Nat) (kv : Int32) : Prop :=
  N ≤ 9999 ∧ L < 19683 ∧ f < 50000 ∧ y.2.1 36 a = nI N ∧ y.2.1 39 a = nI L ∧ k = lN ((N * 50000 + f) * 19683 + L) ∧ ∀ K : Int32 → ST → Prop, K kv y → wX7_keyOf (nI a) (nI r) K y
theorem keyV2 {a b r : Nat} {k : Nat → Nat → Int64} {y : ST} (ha : a < 60) (hb : b < 60) (hr : r < 2) (h1 : KeyOK (k 0 a) (k 1 a) (y.2.1 36 a) (y.2.1 37 a) (y.2.1 38 a) (y.2.1 39 a)) (h2 : KeyOK (k 0 b) (k 1 b) (y.2.1 36 b) (y.2.1 37 b) (y.2.1 38 b) (y.2.1 39 b)) :
    ∃ (N1 L1 f1 : Nat) (v1 : Int32) (N2 L2 f2 : Nat) (v2 : Int32), KeyV r a (k r a) y N1 L1 f1 v1 ∧ KeyV r b (k r b) y N2 L2 f2 v2 ∧ (f1 < f2 ↔ v1.toInt < v2.toInt) ∧ (f2 < f1 ↔ v2.toInt < v1.toInt) := by
  have hm : (-1 : Int32).toInt = -1 := by decide
  obtain ⟨N1, L1, a1, a2, a3, a4, a5⟩ := h1
  obtain ⟨N2, L2, b1, b2, b3, b4, b5⟩ := h2
  have up : ∀ {B d : Nat}, 1 ≤ d → d ≤ 4 → B < 10 ^ d → B < 10000 := by
    intro B d h1 h4 hB
    rcases (show d = 1 ∨ d = 2 ∨ d = 3 ∨ d = 4 by omega) with rfl | rfl | rfl | rfl <;> omega
  have hkv : ∀ {B d : Nat}, 1 ≤ d → d ≤ 4 → B < 10 ^ d → kvF r B d < 200000 := by
    intro B d h1 h4 hB
    unfold kvF
    split
    · exact (fk_bound h1 h4 hB).2.2
    · have := up h1 h4 hB; omega
  have hf : ∀ {B d : Nat}, 1 ≤ d → d ≤ 4 → B < 10 ^ d → 0 < (if r = 0 then elev B d * 11 ^ (4 - d) else B * 5 + d) ∧ (if r = 0 then elev B d * 11 ^ (4 - d) else B * 5 + d) < 50000 := by
    intro B d h1 h4 hB
    split
    · exact ⟨(fk_bound h1 h4 hB).1, (fk_bound h1 h4 hB).2.1⟩
    · have := up h1 h4 hB; omega
  have hmono : ∀ {B d B2 d2 : Nat}, 1 ≤ d → d ≤ 4 → B < 10 ^ d → 1 ≤ d2 → d2 ≤ 4 → B2 < 10 ^ d2 → ((if r = 0 then elev B d * 11 ^ (4 - d) else B * 5 + d) < (if r = 0 then elev B2 d2 * 11 ^ (4 - d2) else B2 * 5 + d2) ↔ kvF r B d < kvF r B2 d2) := by
    intro B d B2 d2 h1 h4 hB h12 h42 hB2
    unfold kvF
    by_cases c : r = 0
    · simp only [c, if_true]; exact fk_lt h1 h4 hB h12 h42 hB2
    · simp only [c, if_false]; omega
  have kr : ∀ (c : Nat) (N L : Nat) (B d : Nat), k 0 c = lN ((N * 50000 + elev B d * 11 ^ (4 - d)) * 19683 + L) → k 1 c = lN ((N * 50000 + (B * 5 + d)) * 19683 + L) → k r c = lN ((N * 50000 + (if r = 0 then elev B d * 11 ^ (4 - d) else B * 5 + d)) * 19683 + L) := by
    intro c N L B d e0 e1
    rcases (show r = 0 ∨ r = 1 by omega) with rfl | rfl
    · exact e0
    · exact e1
  have kn : ∀ (c : Nat) (N L : Nat), k 0 c = lN ((N * 50000 + 0) * 19683 + L) → k 1 c = lN ((N * 50000 + 0) * 19683 + L) → k r c = lN ((N * 50000 + 0) * 19683 + L) := by
    intro c N L e0 e1
    rcases (show r = 0 ∨ r = 1 by omega) with rfl | rfl
    · exact e0
    · exact e1
  rcases a5 with ⟨p1, p2, p3, p4⟩ | ⟨B, d, d1, d4, hB, p1, p2, p3, p4⟩ <;> rcases b5 with ⟨q1, q2, q3, q4⟩ | ⟨B2, d2, e1, e4, hB2, q1, q2, q3, q4⟩
  · exact ⟨N1, L1, 0, -1, N2, L2, 0, -1, ⟨a1, a2, by omega, a3, a4, kn _ _ _ p3 p4, fun K hK => ko_n ha p1 hK⟩, ⟨b1, b2, by omega, b3, b4, kn _ _ _ q3 q4, fun K hK => ko_n hb q1 hK⟩, by omega, by omega⟩
  · have := hkv e1 e4 hB2
    have := hf e1 e4 hB2
    refine ⟨N1, L1, 0, -1, N2, L2, _, nI (kvF r B2 d2), ⟨a1, a2, by omega, a3, a4, kn _ _ _ p3 p4, fun K hK => ko_n ha p1 hK⟩, ⟨b1, b2, (hf e1 e4 hB2).2, b3, b4, kr _ _ _ _ _ q3 q4, fun K hK => ko_y hb hr e1 e4 hB2 q1 q2 hK⟩, ?_, ?_⟩
    · rw [hm, nI_toI (by omega)]; omega
    · rw [hm, nI_toI (by omega)]; omega
  · have := hkv d1 d4 hB
    have := hf d1 d4 hB
    refine ⟨N1, L1, _, nI (kvF r B d), N2, L2, 0, -1, ⟨a1, a2, (hf d1 d4 hB).2, a3, a4, kr _ _ _ _ _ p3 p4, fun K hK => ko_y ha hr d1 d4 hB p1 p2 hK⟩, ⟨b1, b2, by omega, b3, b4, kn _ _ _ q3 q4, fun K hK => ko_n hb q1 hK⟩, ?_, ?_⟩
    · rw [hm, nI_toI (by omega)]; omega
    · rw [hm, nI_toI (by omega)]; omega
  · have := hkv d1 d4 hB
    have := hkv e1 e4 hB2
    refine ⟨N1, L1, _, nI (kvF r B d), N2, L2, _, nI (kvF r B2 d2), ⟨a1, a2, (hf d1 d4 hB).2, a3, a4, kr _ _ _ _ _ p3 p4, fun K hK => ko_y ha hr d1 d4 hB p1 p2 hK⟩, ⟨b1, b2, (hf e1 e4 hB2).2, b3, b4, kr _ _ _ _ _ q3 q4, fun K hK => ko_y hb hr e1 e4 hB2 q1 q2 hK⟩, ?_, ?_⟩
    · rw [nI_toI (by omega), nI_toI (by omega), hmono d1 d4 hB e1 e4 hB2]; omega
    · rw [nI_toI (by omega), nI_toI (by omega), hmono e1 e4 hB2 d1 d4 hB]; omega
theorem ag_y {a b r : Nat} {k : Nat → Nat → Int64} {K : Int32 → ST → Prop} {y : ST} (ha : a < 60) (hb : b < 60) (hr : r < 2) (h1 : KeyOK (k 0 a) (k 1 a) (y.2.1 36 a) (y.2.1 37 a) (y.2.1 38 a) (y.2.1 39 a)) (h2 : KeyOK (k 0 b) (k 1 b) (y.2.1 36 b) (y.2.1 37 b) (y.2.1 38 b) (y.2.1 39 b)) (h : K (cK (k r) a b) y) : wX7_against (nI a) (nI b) (nI r) K y := by
  obtain ⟨N1, L1, f1, v1, N2, L2, f2, v2, ⟨a1, a2, a3, a4, a5, a6, a7⟩, ⟨b1, b2, b3, b4, b5, b6, b7⟩, m1, m2⟩ := keyV2 (k := k) ha hb hr h1 h2
  unfold cK at h
  rw [a6, b6] at h
  have q1 : lN ((N1 * 50000 + f1) * 19683 + L1) < lN ((N2 * 50000 + f2) * 19683 + L2) ↔ (N1 * 50000 + f1) * 19683 + L1 < (N2 * 50000 + f2) * 19683 + L2 := pk_lLT (by omega) (by omega)
  have q2 : lN ((N2 * 50000 + f2) * 19683 + L2) < lN ((N1 * 50000 + f1) * 19683 + L1) ↔ (N2 * 50000 + f2) * 19683 + L2 < (N1 * 50000 + f1) * 19683 + L1 := pk_lLT (by omega) (by omega)
  unfold wX7_against
  refine ⟨vin ha (by omega), vin hb (by omega), ?_⟩
  rw [gA_n _ _ (by omega), gA_n _ _ (by omega), a4, b4, nI_eq (by omega) (by omega)]
  by_cases c : N1 = N2
  · refine brT c (a7 _ (b7 _ ?_))
    subst c
    by_cases c2 : v1 = v2
    · refine brT c2 ?_
      have e3 : f1 = f2 := by subst c2; omega
      subst e3
      rw [gA_n _ _ (by omega), gA_n _ _ (by omega), a5, b5, nI_eq (by omega) (by omega)]
      by_cases c3 : L1 = L2
      · refine brT c3 (sg_y ?_)
        subst c3
        rw [if_neg (mt q1.mp (by omega)), if_neg (mt q2.mp (by omega))] at h
        rw [nI_toI (by omega), nI_toI (by omega)]
        by_cases c4 : a < b
        · rw [if_pos c4] at h; rw [if_pos (by omega)]; exact h
        · rw [if_neg c4] at h; rw [if_neg (by omega)]
          by_cases c5 : a = b
          · rw [if_pos c5] at h; rw [if_neg (by omega)]; exact h
          · rw [if_neg c5] at h; rw [if_pos (by omega)]; exact h
      · refine brF c3 (sg_y ?_)
        rw [nI_toI (by omega), nI_toI (by omega)]
        by_cases c4 : L1 < L2
        · rw [if_pos (q1.mpr (by omega))] at h; rw [if_pos (by omega)]; exact h
        · rw [if_neg (mt q1.mp (by omega)), if_pos (q2.mpr (by omega))] at h; rw [if_neg (by omega), if_pos (by omega)]; exact h
    · refine brF c2 (a7 _ (b7 _ (sg_y ?_)))
      have c3 : ¬ v1.toInt = v2.toInt := fun e => c2 ((i32_eq _ _).mpr e)
      by_cases c4 : v1.toInt < v2.toInt
      · have := m1.mpr c4
        rw [if_pos (q1.mpr (by omega))] at h; rw [if_pos c4]; exact h
      · have := m2.mpr (by omega)
        rw [if_neg (mt q1.mp (by omega)), if_pos (q2.mpr (by omega))] at h; rw [if_neg c4, if_pos (by omega)]; exact h
  · refine brF c (sg_y ?_)
    rw [nI_toI (by omega), nI_toI (by omega)]
    by_cases c4 : N1 < N2
    · rw [if_pos (q1.mpr (by omega))] at h; rw [if_pos (by omega)]; exact h
    · rw [if_neg (mt q1.mp (by omega)), if_pos (q2.mpr (by omega))] at h; rw [if_neg (by omega), if_pos (by omega)]; exact h
