theorem fgt {K : ST → Prop} {x : ST} (h : K (pI (pI x 1 0) 2 0)) : wX6_forgetWhatFollows K x := by
  unfold wX6_forgetWhatFollows
  intro x1 e1 x2 e2
  rw [e2, e1]
  exact h
theorem x_grow {a b : Int32} {K : Int32 → ST → Prop} {x : ST} (h1 : inn a 0 9 → inn b 0 100 → K 1 (pI (pI (pA x 17 a b) 1 0) 2 0)) (h2 : ¬ (inn a 0 9 ∧ inn b 0 100) → K 0 x) : wX6_within a 0 9 (fun (r3 : Int32) (x3 : ST) => ((r3 = 0 → K 0 x3) ∧ (¬ r3 = 0 → wX6_within b 0 100 (fun (r5 : Int32) (x5 : ST) => ((r5 = 0 → K 0 x5) ∧ (¬ r5 = 0 → vp_in a 10 ∧ ∀ x8 : ST, x8 = pA x5 17 a b → wX6_forgetWhatFollows (fun (x9 : ST) => K 1 x9) x8))) x3))) x := by
  rw [within_iff]
  rcases wi_in (a := a) (lo := 0) (hi := 9) with ⟨e, c⟩ | ⟨e, c⟩ <;> rw [e]
  · refine brF n10 ?_
    rw [within_iff]
    rcases wi_in (a := b) (lo := 0) (hi := 100) with ⟨e2, c2⟩ | ⟨e2, c2⟩ <;> rw [e2]
    · refine brF n10 ⟨?_, fun x8 e8 => fgt ?_⟩
      · obtain ⟨j, hj, rfl⟩ := wi_c (n := 9) (by omega) c.1 c.2
        exact vin (by omega) (by omega)
      · rw [e8]; exact h1 c c2
    · exact brT rfl (h2 (fun q => c2 q.2))
  · exact brT rfl (h2 (fun q => c q.1))
theorem neg_inn : ¬ inn (-1) 0 9 ∧ ¬ inn (-2) 0 9 := ⟨fun q => q.1 (by decide), fun q => q.1 (by decide)⟩
theorem x_sizes {a b : Int32} {K : Int32 → ST → Prop} {x : ST} (h1 : a = -1 → inn b 1 100 → K 1 (pI (pI (pI x 13 b) 1 0) 2 0)) (h2 : a = -2 → inn b 1 1000 → K 1 (pI (pI (pI x 16 b) 1 0) 2 0)) (h3 : inn a 0 9 → inn b 0 100 → K 1 (pI (pI (pA x 17 a b) 1 0) 2 0))
    (h4 : ¬ (a = -1 ∧ inn b 1 100) → ¬ (a = -2 ∧ inn b 1 1000) → ¬ (inn a 0 9 ∧ inn b 0 100) → K 0 x) : wX6_sizes a b K x := by
  have m12 : ¬ (-1 : Int32) = -2 := by decide
  unfold wX6_sizes
  by_cases c1 : a = -1
  · subst c1
    refine rbT rfl ?_
    rw [within_iff]
    rcases wi_in (a := b) (lo := 1) (hi := 100) with ⟨e, c⟩ | ⟨e, c⟩ <;> rw [e]
    · exact brF n10 (fun x4 e4 => fgt (by rw [e4]; exact h1 rfl c))
    · refine brT rfl (rbF m12 (x_grow (fun q => absurd q neg_inn.1) (fun q => ?_)))
      exact h4 (fun z => c z.2) (fun z => m12 z.1) q
  · refine rbF c1 ?_
    by_cases c2 : a = -2
    · subst c2
      refine rbT rfl ?_
      rw [within_iff]
      rcases wi_in (a := b) (lo := 1) (hi := 1000) with ⟨e, c⟩ | ⟨e, c⟩ <;> rw [e]
      · exact brF n10 (fun x4 e4 => fgt (by rw [e4]; exact h2 rfl c))
      · refine brT rfl (x_grow (fun q => absurd q neg_inn.2) (fun q => ?_))
        exact h4 (fun z => c1 z.1) (fun z => c z.2) q
    · exact rbF c2 (x_grow h3 (h4 (fun z => c1 z.1) (fun z => c2 z.1)))
theorem m_tail {a b : Int32} {K : Int32 → ST → Prop} {y : ST} (h2 : a = -2 → inn b 1 1000 → K 1 (pI y 25 b)) (h4 : ¬ (a = -2 ∧ inn b 1 1000) → K 0 y) : ((¬ a = (-2) → K 0 y) ∧ (a = (-2) → wX7_isIn b 1 1000 (fun (r5 : Int32) (y5 : ST) => ((¬ r5 = 0 → ∀ y7 : ST, y7 = pI y5 25 b → K 1 y7) ∧ (r5 = 0 → K 0 y5))) y)) := by
  by_cases c2 : a = -2
  · refine rbT c2 ?_
    rw [isIn_iff]
    rcases wi_in (a := b) (lo := 1) (hi := 1000) with ⟨e, c⟩ | ⟨e, c⟩ <;> rw [e]
    · exact rbF n10 (fun y4 e4 => by rw [e4]; exact h2 c2 c)
    · exact rbT rfl (h4 (fun z => c z.2))
  · exact rbF c2 (h4 (fun z => c2 z.1))
theorem m_tail2 {a b : Int32} {K : Int32 → ST → Prop} {y : ST} (h1 : a = -1 → inn b 1 100 → K 1 (pI y 24 b)) (h2 : a = -2 → inn b 1 1000 → K 1 (pI y 25 b)) (h4 : ¬ (a = -1 ∧ inn b 1 100) → ¬ (a = -2 ∧ inn b 1 1000) → K 0 y) : ((¬ a = (-1) → ((¬ a = (-2) → K 0 y) ∧ (a = (-2) → wX7_isIn b 1 1000 (fun (r5 : Int32) (y5 : ST) => ((¬ r5 = 0 → ∀ y7 : ST, y7 = pI y5 25 b → K 1 y7) ∧ (r5 = 0 → K 0 y5))) y))) ∧ (a = (-1) → wX7_isIn b 1 100 (fun (r8 : Int32) (y8 : ST) => ((r8 = 0 → ((¬ a = (-2) → K 0 y8) ∧ (a = (-2) → wX7_isIn b 1 1000 (fun (r11 : Int32) (y11 : ST) => ((¬ r11 = 0 → ∀ y13 : ST, y13 = pI y11 25 b → K 1 y13) ∧ (r11 = 0 → K 0 y11))) y8))) ∧ (¬ r8 = 0 → ∀ y14 : ST, y14 = pI y8 24 b → K 1 y14))) y)) := by
  by_cases c1 : a = -1
  · refine rbT c1 ?_
    rw [isIn_iff]
    rcases wi_in (a := b) (lo := 1) (hi := 100) with ⟨e, c⟩ | ⟨e, c⟩ <;> rw [e]
    · exact brF n10 (fun y4 e4 => by rw [e4]; exact h1 c1 c)
    · exact brT rfl (m_tail h2 (h4 (fun z => c z.2)))
  · exact rbF c1 (m_tail h2 (h4 (fun z => c1 z.1)))
theorem m_sizes {a b : Int32} {K : Int32 → ST → Prop} {y : ST} (h1 : a = -1 → inn b 1 100 → K 1 (pI y 24 b)) (h2 : a = -2 → inn b 1 1000 → K 1 (pI y 25 b)) (h3 : inn a 0 9 → inn b 0 100 → K 1 (pA y 44 a b))
    (h4 : ¬ (a = -1 ∧ inn b 1 100) → ¬ (a = -2 ∧ inn b 1 1000) → ¬ (inn a 0 9 ∧ inn b 0 100) → K 0 y) : wX7_sizes a b K y := by
  unfold wX7_sizes
  rw [isIn_iff]
  rcases wi_in (a := a) (lo := 0) (hi := 9) with ⟨e, c⟩ | ⟨e, c⟩ <;> rw [e]
  · refine brF n10 ?_
    rw [isIn_iff]
    rcases wi_in (a := b) (lo := 0) (hi := 100) with ⟨e2, c2⟩ | ⟨e2, c2⟩ <;> rw [e2]
    · refine brF n10 ⟨?_, fun y8 e8 => ?_⟩
      · obtain ⟨j, hj, rfl⟩ := wi_c (n := 9) (by omega) c.1 c.2
        exact vin (by omega) (by omega)
      · rw [e8]; exact h3 c c2
    · exact brT rfl (m_tail2 h1 h2 (fun q1 q2 => h4 q1 q2 (fun z => c2 z.2)))
  · exact brT rfl (m_tail2 h1 h2 (fun q1 q2 => h4 q1 q2 (fun z => c z.1)))
theorem s_sizes (a b : Int32) : SIM (wX6_sizes a b) (wX7_sizes a b) := by
  intro x y Q hR h
  obtain ⟨n, r, ns, m, t, hB, hO, hQ, hU, hS, hW, hT, hP, hZ⟩ := id hR
  obtain ⟨s1, s2, s3, s4, s5, s6, s7, s8⟩ := id hS
  have m12 : ¬ (-1 : Int32) = -2 := by decide
  refine x_sizes (fun c1 c2 => m_sizes (fun _ _ => ?_) (fun z _ => absurd (c1.symm.trans z) m12) (fun z _ => absurd z (by rw [c1]; exact neg_inn.1)) (fun z _ _ => absurd ⟨c1, c2⟩ z))
    (fun c1 c2 => m_sizes (fun z _ => absurd (z.symm.trans c1) m12) (fun _ _ => ?_) (fun z _ => absurd z (by rw [c1]; exact neg_inn.2)) (fun _ z _ => absurd ⟨c1, c2⟩ z))
    (fun c1 c2 => m_sizes (fun z _ => absurd c1 (by rw [z]; exact neg_inn.1)) (fun z _ => absurd c1 (by rw [z]; exact neg_inn.2)) (fun _ _ => ?_) (fun _ _ z => absurd ⟨c1, c2⟩ z))
    (fun c1 c2 c3 => m_sizes (fun z z2 => absurd ⟨z, z2⟩ c1) (fun z z2 => absurd ⟨z, z2⟩ c2) (fun z z2 => absurd ⟨z, z2⟩ c3) (fun _ _ _ => h _ _ _ hR))
  · exact h _ _ _ ⟨n, r, ns, m, t, hB, hO, hQ, hU, ⟨s1, s2, s3, s4, s5, rfl, s7, s8⟩, hW, hT, Or.inl rfl, Or.inl rfl⟩
  · exact h _ _ _ ⟨n, r, ns, m, t, hB, hO, hQ, hU, ⟨s1, s2, s3, s4, s5, s6, rfl, s8⟩, hW, hT, Or.inl rfl, Or.inl rfl⟩
  · obtain ⟨j, hj, rfl⟩ := wi_c (n := 9) (by omega) c1.1 c1.2
    refine h _ _ _ ?_
    rw [pA_n _ _ (by omega), pA_n _ _ (by omega)]
    refine ⟨n, r, ns, m, t, hB, hO, hQ, hU, ⟨s1, s2, s3, s4, fun i hi => ?_, s6, s7, s8⟩, hW, hT, Or.inl rfl, Or.inl rfl⟩
    show upd (x.2.1 17) j b i = upd (y.2.1 44) j b i
    unfold upd
    by_cases e : i = j
    · rw [if_pos e, if_pos e]
    · rw [if_neg e, if_neg e]; exact s5 i hi
/-- where a place's book comes from -/
def mvI (i j k : Nat) : Nat := if k = j then i else if i ≤ k ∧ k < j then k + 1 else if j < k ∧ k ≤ i then k - 1 else k
theorem mvI_lt {i j k m : Nat} (hi : i < m) (hj : j < m) (hk : k < m) : mvI i j k < m := by
  unfold mvI
  split
  · exact hi
  · split
    · omega
    · split <;> omega
theorem mvI_inj {i j k l : Nat} (e : mvI i j k = mvI i j l) : k = l := by
  unfold mvI at e
  by_cases k1 : k = j <;> by_cases l1 : l = j <;> simp only [k1, l1, if_true, if_false] at e
  · omega
  · by_cases l2 : i ≤ l ∧ l < j
    · simp only [l2, and_self, if_true] at e; omega
    · by_cases l3 : j < l ∧ l ≤ i
      · simp only [l2, l3, and_self, if_true, if_false] at e; omega
      · simp only [l2, l3, if_false] at e; omega
  · by_cases l2 : i ≤ k ∧ k < j
    · simp only [l2, and_self, if_true] at e; omega
    · by_cases l3 : j < k ∧ k ≤ i
      · simp only [l2, l3, and_self, if_true, if_false] at e; omega
      · simp only [l2, l3, if_false] at e; omega
  · by_cases k2 : i ≤ k ∧ k < j <;> by_cases l2 : i ≤ l ∧ l < j <;> by_cases k3 : j < k ∧ k ≤ i <;> by_cases l3 : j < l ∧ l ≤ i <;> simp only [k2, l2, k3, l3, and_self, if_true, if_false] at e <;> omega
def up1 (f : Nat → Int32) (i k q : Nat) : Int32 := if i ≤ q ∧ q < k then f (q + 1) else f q
theorem i32_nle {a b : Nat} (h : a < b) (hb : b < 2 ^ 31) : ¬ nI b ≤ nI a := nI_ge h hb

theorem dn_x {K : ST → Prop} {i j : Nat} (hi : i < 60) (hj : j < 60) {v : Int32} {f : Nat → Int32} {x : ST} (hx : ∀ q, x.2.1 31 q = up1 f i (max i j) q) (hv : v = f i) (h : ∀ g : Nat → Int32, (∀ k, g k = f (mvI i j k)) → K (x.1, va_up x.2.1 31 g, x.2.2)) : ∃ n, it (fun (_ : Int32) (_ : ST) => False) (FX3_carry_41 (nI j) K v) n (nI i) x := by
  refine it1 (I := fun mm a x2 => ∃ k g, a = nI k ∧ k ≤ i ∧ (k = i ∨ j ≤ k) ∧ mm = k ∧ x2 = (x.1, va_up x.2.1 31 g, x.2.2) ∧ ∀ q, g q = if k < q ∧ q ≤ i then f (q - 1) else up1 f i (max i j) q) ?_ (m := i) ⟨i, x.2.1 31, rfl, Nat.le_refl _, Or.inl rfl, rfl, ?_, fun q => ?_⟩
  · rintro mm a x2 G ⟨k, g, rfl, hk, hjk, hmm, rfl, hg⟩ hG
    unfold FX3_carry_41
    rw [nI_leI (by omega) (by omega)]
    by_cases c : k ≤ j
    · refine brT c ⟨vin hj (by omega), fun x3 e3 => ?_⟩
      rw [e3, pA_n _ _ (by omega), hv]
      have e4 : va_up (va_up x.2.1 31 g) 31 (upd (va_up x.2.1 31 g 31) j (f i)) = va_up x.2.1 31 (upd g j (f i)) := by
        funext z; unfold va_up; by_cases z1 : z = 31
        · simp [z1]
        · simp [z1]
      show K (x.1, va_up (va_up x.2.1 31 g) 31 (upd (va_up x.2.1 31 g 31) j (f i)), x.2.2)
      rw [e4]
      refine h _ (fun q => ?_)
      unfold upd mvI
      by_cases q1 : q = j
      · rw [if_pos q1, if_pos q1]
      · rw [if_neg q1, if_neg q1, hg]
        by_cases q2 : k < q ∧ q ≤ i
        · rw [if_pos q2, if_neg (by omega), if_pos (by omega)]
        · rw [if_neg q2]
          unfold up1
          by_cases q3 : i ≤ q ∧ q < j
          · rw [if_pos q3, if_pos (by omega)]
          · rw [if_neg q3, if_neg (by omega), if_neg (by omega)]
    · refine brF c ⟨?_, vin (by omega) (by omega), fun x3 e3 v4 e5 => ?_⟩
      · rw [nI_m1 (by omega)]; exact vin (by omega) (by omega)
      · rw [nI_am1 (by omega)] at e5
        rw [nI_m1 (by omega), gA_n _ _ (by omega), pA_n _ _ (by omega)] at e3
        subst e5 e3
        refine hG (k - 1) _ _ (by omega) ⟨k - 1, upd g k (g (k - 1)), rfl, by omega, Or.inr (by omega), rfl, ?_, fun q => ?_⟩
        · show (x.1, va_up (va_up x.2.1 31 g) 31 (upd (va_up x.2.1 31 g 31) k (va_up x.2.1 31 g 31 (k - 1))), x.2.2) = _
          refine congrArg (fun z => (x.1, z, x.2.2)) ?_
          funext z; unfold va_up; by_cases z1 : z = 31
          · simp [z1]
          · simp [z1]
        · unfold upd
          by_cases q1 : q = k
          · rw [if_pos q1, if_pos (by omega), hg, if_neg (by omega)]
            unfold up1
            rw [if_neg (by omega), q1]
          · rw [if_neg q1, hg]
            by_cases q2 : k < q ∧ q ≤ i
            · rw [if_pos q2, if_pos (by omega)]
            · rw [if_neg q2, if_neg (by omega)]
  · refine (congrArg (fun z => (x.1, z, x.2.2)) ?_ : x = _)
    funext z; unfold va_up; by_cases z1 : z = 31
    · simp [z1]
    · simp [z1]
  · rw [if_neg (by omega)]; exact hx q
theorem upw_x {K : ST → Prop} {i j : Nat} (hi : i < 60) (hj : j < 60) {v : Int32} {x : ST} (hv : v = x.2.1 31 i) (h : ∀ g : Nat → Int32, (∀ k, g k = x.2.1 31 (mvI i j k)) → K (x.1, va_up x.2.1 31 g, x.2.2)) : ∃ n, it (fun (_ : Int32) (_ : ST) => False) (FX3_carry_10 (nI i) (nI j) K v) n (nI i) x := by
  refine it1 (I := fun mm a x2 => ∃ k g, a = nI k ∧ i ≤ k ∧ k ≤ max i j ∧ mm = 60 - k ∧ x2 = (x.1, va_up x.2.1 31 g, x.2.2) ∧ ∀ q, g q = up1 (x.2.1 31) i k q) ?_ (m := 60 - i) ⟨i, x.2.1 31, rfl, Nat.le_refl _, by omega, rfl, ?_, fun q => ?_⟩
  · rintro mm a x2 G ⟨k, g, rfl, hk, hk2, hmm, rfl, hg⟩ hG
    unfold FX3_carry_10
    rw [nI_leI (by omega) (by omega)]
    by_cases c : j ≤ k
    · refine brT c ?_
      have e : k = max i j := by omega
      subst e
      exact dn_x hi hj (x := (x.1, va_up x.2.1 31 g, x.2.2)) (f := x.2.1 31) hg hv (fun g2 hg2 => by
        have := h g2 hg2
        have e4 : va_up (va_up x.2.1 31 g) 31 g2 = va_up x.2.1 31 g2 := by
          funext z; unfold va_up; by_cases z1 : z = 31
          · simp [z1]
          · simp [z1]
        show K (x.1, va_up (va_up x.2.1 31 g) 31 g2, x.2.2)
        rw [e4]; exact this)
    · refine brF c ⟨?_, vin (by omega) (by omega), fun x3 e3 v4 e5 => ?_⟩
      · rw [nI_1]; exact vin (by omega) (by omega)
      · rw [nI_1] at e5
        rw [nI_1, gA_n _ _ (by omega), pA_n _ _ (by omega)] at e3
        subst e5 e3
        refine hG (60 - (k + 1)) _ _ (by omega) ⟨k + 1, upd g k (g (k + 1)), rfl, by omega, by omega, rfl, ?_, fun q => ?_⟩
        · show (x.1, va_up (va_up x.2.1 31 g) 31 (upd (va_up x.2.1 31 g 31) k (va_up x.2.1 31 g 31 (k + 1))), x.2.2) = _
          refine congrArg (fun z => (x.1, z, x.2.2)) ?_
          funext z; unfold va_up; by_cases z1 : z = 31
          · simp [z1]
          · simp [z1]
        · unfold upd
          by_cases q1 : q = k
          · rw [if_pos q1, hg]
            unfold up1
            rw [if_neg (by omega), if_pos (by omega), q1]
          · rw [if_neg q1, hg]
            unfold up1
            by_cases q2 : i ≤ q ∧ q < k
            · rw [if_pos q2, if_pos (by omega)]
            · rw [if_neg q2, if_neg (by omega)]
  · refine (congrArg (fun z => (x.1, z, x.2.2)) ?_ : x = _)
    funext z; unfold va_up; by_cases z1 : z = 31
    · simp [z1]
    · simp [z1]
  · unfold up1; rw [if_neg (by omega)]
theorem dn_y {K : Int32 → ST → Prop} {i j : Nat} (hi : i < 60) (hj : j < 60) {v : Int32} {f : Nat → Int32} {x : ST} (hx : ∀ q, x.2.1 58 q = up1 f i (max i j) q) (hv : v = f i) (h : ∀ g : Nat → Int32, (∀ k, g k = f (mvI i j k)) → K 1 (x.1, va_up x.2.1 58 g, x.2.2)) : ∃ n, it (fun (_ : Int32) (_ : ST) => False) (FX7_misplace_76 (nI j) K v) n (nI i) x := by
  refine it1 (I := fun mm a x2 => ∃ k g, a = nI k ∧ k ≤ i ∧ (k = i ∨ j ≤ k) ∧ mm = k ∧ x2 = (x.1, va_up x.2.1 58 g, x.2.2) ∧ ∀ q, g q = if k < q ∧ q ≤ i then f (q - 1) else up1 f i (max i j) q) ?_ (m := i) ⟨i, x.2.1 58, rfl, Nat.le_refl _, Or.inl rfl, rfl, ?_, fun q => ?_⟩
  · rintro mm a x2 G ⟨k, g, rfl, hk, hjk, hmm, rfl, hg⟩ hG
    unfold FX7_misplace_76
    rw [nI_leI (by omega) (by omega)]
    by_cases c : k ≤ j
    · refine brT c ⟨vin hj (by omega), fun x3 e3 => ?_⟩
      rw [e3, pA_n _ _ (by omega), hv]
      have e4 : va_up (va_up x.2.1 58 g) 58 (upd (va_up x.2.1 58 g 58) j (f i)) = va_up x.2.1 58 (upd g j (f i)) := by
        funext z; unfold va_up; by_cases z1 : z = 58
        · simp [z1]
        · simp [z1]
      show K 1 (x.1, va_up (va_up x.2.1 58 g) 58 (upd (va_up x.2.1 58 g 58) j (f i)), x.2.2)
      rw [e4]
      refine h _ (fun q => ?_)
      unfold upd mvI
      by_cases q1 : q = j
      · rw [if_pos q1, if_pos q1]
      · rw [if_neg q1, if_neg q1, hg]
        by_cases q2 : k < q ∧ q ≤ i
        · rw [if_pos q2, if_neg (by omega), if_pos (by omega)]
        · rw [if_neg q2]
          unfold up1
          by_cases q3 : i ≤ q ∧ q < j
          · rw [if_pos q3, if_pos (by omega)]
          · rw [if_neg q3, if_neg (by omega), if_neg (by omega)]
    · refine brF c ⟨?_, vin (by omega) (by omega), fun x3 e3 v4 e5 => ?_⟩
      · rw [nI_m1 (by omega)]; exact vin (by omega) (by omega)
      · rw [nI_am1 (by omega)] at e5
        rw [nI_m1 (by omega), gA_n _ _ (by omega), pA_n _ _ (by omega)] at e3
        subst e5 e3
        refine hG (k - 1) _ _ (by omega) ⟨k - 1, upd g k (g (k - 1)), rfl, by omega, Or.inr (by omega), rfl, ?_, fun q => ?_⟩
        · show (x.1, va_up (va_up x.2.1 58 g) 58 (upd (va_up x.2.1 58 g 58) k (va_up x.2.1 58 g 58 (k - 1))), x.2.2) = _
          refine congrArg (fun z => (x.1, z, x.2.2)) ?_
          funext z; unfold va_up; by_cases z1 : z = 58
          · simp [z1]
          · simp [z1]
        · unfold upd
          by_cases q1 : q = k
          · rw [if_pos q1, if_pos (by omega), hg, if_neg (by omega)]
            unfold up1
            rw [if_neg (by omega), q1]
          · rw [if_neg q1, hg]
            by_cases q2 : k < q ∧ q ≤ i
            · rw [if_pos q2, if_pos (by omega)]
            · rw [if_neg q2, if_neg (by omega)]
  · refine (congrArg (fun z => (x.1, z, x.2.2)) ?_ : x = _)
    funext z; unfold va_up; by_cases z1 : z = 58
    · simp [z1]
    · simp [z1]
  · rw [if_neg (by omega)]; exact hx q
theorem upw_y {K : Int32 → ST → Prop} {i j : Nat} (hi : i < 60) (hj : j < 60) {v : Int32} {x : ST} (hv : v = x.2.1 58 i) (h : ∀ g : Nat → Int32, (∀ k, g k = x.2.1 58 (mvI i j k)) → K 1 (x.1, va_up x.2.1 58 g, x.2.2)) : ∃ n, it (fun (_ : Int32) (_ : ST) => False) (FX7_misplace_45 (nI i) (nI j) K v) n (nI i) x := by
  refine it1 (I := fun mm a x2 => ∃ k g, a = nI k ∧ i ≤ k ∧ k ≤ max i j ∧ mm = 60 - k ∧ x2 = (x.1, va_up x.2.1 58 g, x.2.2) ∧ ∀ q, g q = up1 (x.2.1 58) i k q) ?_ (m := 60 - i) ⟨i, x.2.1 58, rfl, Nat.le_refl _, by omega, rfl, ?_, fun q => ?_⟩
  · rintro mm a x2 G ⟨k, g, rfl, hk, hk2, hmm, rfl, hg⟩ hG
    unfold FX7_misplace_45
    rw [nI_leI (by omega) (by omega)]
    by_cases c : j ≤ k
    · refine brT c ?_
      have e : k = max i j := by omega
      subst e
      exact dn_y hi hj (x := (x.1, va_up x.2.1 58 g, x.2.2)) (f := x.2.1 58) hg hv (fun g2 hg2 => by
        have := h g2 hg2
        have e4 : va_up (va_up x.2.1 58 g) 58 g2 = va_up x.2.1 58 g2 := by
          funext z; unfold va_up; by_cases z1 : z = 58
          · simp [z1]
          · simp [z1]
        show K 1 (x.1, va_up (va_up x.2.1 58 g) 58 g2, x.2.2)
        rw [e4]; exact this)
    · refine brF c ⟨?_, vin (by omega) (by omega), fun x3 e3 v4 e5 => ?_⟩
      · rw [nI_1]; exact vin (by omega) (by omega)
      · rw [nI_1] at e5
        rw [nI_1, gA_n _ _ (by omega), pA_n _ _ (by omega)] at e3
        subst e5 e3
        refine hG (60 - (k + 1)) _ _ (by omega) ⟨k + 1, upd g k (g (k + 1)), rfl, by omega, by omega, rfl, ?_, fun q => ?_⟩
        · show (x.1, va_up (va_up x.2.1 58 g) 58 (upd (va_up x.2.1 58 g 58) k (va_up x.2.1 58 g 58 (k + 1))), x.2.2) = _
          refine congrArg (fun z => (x.1, z, x.2.2)) ?_
          funext z; unfold va_up; by_cases z1 : z = 58
          · simp [z1]
          · simp [z1]
        · unfold upd
          by_cases q1 : q = k
          · rw [if_pos q1, hg]
            unfold up1
            rw [if_neg (by omega), if_pos (by omega), q1]
          · rw [if_neg q1, hg]
            unfold up1
            by_cases q2 : i ≤ q ∧ q < k
            · rw [if_pos q2, if_pos (by omega)]
            · rw [if_neg q2, if_neg (by omega)]
  · refine (congrArg (fun z => (x.1, z, x.2.2)) ?_ : x = _)
    funext z; unfold va_up; by_cases z1 : z = 58
    · simp [z1]
    · simp [z1]
  · unfold up1; rw [if_neg (by omega)]
theorem x_mis {a b : Int32} {K : Int32 → ST → Prop} {x : ST} {m : Nat} (hm : m ≤ 60) (hx : gI x 20 = nI m) (h1 : ∀ i j, i < m → j < m → i ≠ j → a = nI i → b = nI j → ∀ g : Nat → Int32, (∀ k, g k = x.2.1 31 (mvI i j k)) → K 1 (pI (x.1, va_up x.2.1 31 g, x.2.2) 2 0)) (h2 : ¬ (inn a 0 (nI m - 1) ∧ inn b 0 (nI m - 1) ∧ ¬ a = b) → K 0 x) : wX6_misplace a b K x := by
  unfold wX6_misplace wX3_has
  rw [within_iff, hx]
  rcases wi_in (a := a) (lo := 0) (hi := nI m - 1) with ⟨e, c⟩ | ⟨e, c⟩ <;> rw [e]
  · refine brF n10 ?_
    rw [within_iff, hx]
    rcases wi_in (a := b) (lo := 0) (hi := nI m - 1) with ⟨e2, c2⟩ | ⟨e2, c2⟩ <;> rw [e2]
    · refine brF n10 ?_
      by_cases c3 : a = b
      · exact rbT c3 (h2 (fun q => q.2.2 c3))
      · refine rbF c3 ?_
        obtain ⟨i, hi, rfl⟩ := (inn_n (by omega)).mp c
        obtain ⟨j, hj, rfl⟩ := (inn_n (by omega)).mp c2
        unfold wX3_carry
        refine ⟨vin (by omega) (by omega), fun v ev => ?_⟩
        rw [gA_n _ _ (by omega)] at ev
        exact upw_x (by omega) (by omega) ev (fun g hg x7 e7 => by rw [e7]; exact h1 i j hi hj (fun z => c3 (by rw [z])) rfl rfl g hg)
    · exact brT rfl (h2 (fun q => c2 q.2.1))
  · exact brT rfl (h2 (fun q => c q.1))
theorem m_mis {a b : Int32} {K : Int32 → ST → Prop} {x : ST} {m : Nat} (hm : m ≤ 60) (hx : gI x 35 = nI m) (h1 : ∀ i j, i < m → j < m → i ≠ j → a = nI i → b = nI j → ∀ g : Nat → Int32, (∀ k, g k = x.2.1 58 (mvI i j k)) → K 1 (x.1, va_up x.2.1 58 g, x.2.2)) (h2 : ¬ (inn a 0 (nI m - 1) ∧ inn b 0 (nI m - 1) ∧ ¬ a = b) → K 0 x) : wX7_misplace a b K x := by
  unfold wX7_misplace
  rw [isIn_iff, hx]
  rcases wi_in (a := a) (lo := 0) (hi := nI m - 1) with ⟨e, c⟩ | ⟨e, c⟩ <;> rw [e]
  · refine brF n10 ?_
    rw [isIn_iff]
    rcases wi_in (a := b) (lo := 0) (hi := nI m - 1) with ⟨e2, c2⟩ | ⟨e2, c2⟩ <;> rw [e2]
    · refine brF n10 ?_
      by_cases c3 : a = b
      · exact rbT c3 (h2 (fun q => q.2.2 c3))
      · refine rbF c3 ?_
        obtain ⟨i, hi, rfl⟩ := (inn_n (by omega)).mp c
        obtain ⟨j, hj, rfl⟩ := (inn_n (by omega)).mp c2
        refine ⟨vin (by omega) (by omega), fun v ev => ?_⟩
        rw [gA_n _ _ (by omega)] at ev
        exact upw_y (by omega) (by omega) ev (fun g hg => h1 i j hi hj (fun z => c3 (by rw [z])) rfl rfl g hg)
    · exact brT rfl (h2 (fun q => c2 q.2.1))
  · exact brT rfl (h2 (fun q => c q.1))
theorem s_misplace (a b : Int32) : SIM (wX6_misplace a b) (wX7_misplace a b) := by
  intro x y Q hR h
  obtain ⟨n, r, ns, m, t, hB, hO, hQ, hU, hS, hW, hT, hP, hZ⟩ := id hR
  obtain ⟨w1, w2, w3, w4, w5⟩ := id hW
  refine x_mis w1 w2 (fun i j hi hj hne ea eb g hg => m_mis w1 w3 (fun i2 j2 hi2 hj2 hne2 ea2 eb2 g2 hg2 => ?_) (fun z => absurd ⟨(inn_n (by omega)).mpr ⟨i, hi, ea⟩, (inn_n (by omega)).mpr ⟨j, hj, eb⟩, fun q => hne ?_⟩ z)) (fun z => m_mis w1 w3 (fun i2 j2 hi2 hj2 hne2 ea2 eb2 g2 hg2 => absurd ⟨(inn_n (by omega)).mpr ⟨i2, hi2, ea2⟩, (inn_n (by omega)).mpr ⟨j2, hj2, eb2⟩, fun q => hne2 ?_⟩ z) (fun _ => h _ _ _ hR))
  · have e1 : i = i2 := (nI_eq (by omega) (by omega)).mp (ea.symm.trans ea2)
    have e2 : j = j2 := (nI_eq (by omega) (by omega)).mp (eb.symm.trans eb2)
    subst e1 e2
    refine h _ _ _ ⟨n, r, ns, m, t, hB, hO, hQ, hU, hS, ⟨w1, w2, w3, fun k hk => ?_, fun k l hk hl e => ?_⟩, hT, hP, Or.inl rfl⟩
    · show g k = g2 k ∧ ∃ b, b < n ∧ g k = nI b
      rw [hg, hg2]
      exact w4 _ (mvI_lt hi hj hk)
    · have e : g k = g l := e
      rw [hg, hg] at e
      exact mvI_inj (w5 _ _ (mvI_lt hi hj hk) (mvI_lt hi hj hl) e)
  · rw [ea, eb] at q; exact (nI_eq (by omega) (by omega)).mp q
  · rw [ea2, eb2] at q; exact (nI_eq (by omega) (by omega)).mp q
