theorem pA_up {a : Nat → Int32} {f : Nat → Nat → Int32} {c : Nat → Nat → Int64} {p : Nat} {g : Nat → Int32} {n : Nat} (h : n < 2 ^ 31) (v : Int32) : pA (a, va_up f p g, c) p (nI n) v = (a, va_up f p (upd g n v), c) := by
  rw [pA_n _ _ h]
  show (a, va_up (va_up f p g) p (upd (va_up f p g p) n v), c) = _
  rw [up_up, up_at]
theorem gA_up {a : Nat → Int32} {f : Nat → Nat → Int32} {c : Nat → Nat → Int64} {p : Nat} {g : Nat → Int32} {n : Nat} (h : n < 2 ^ 31) : gA (a, va_up f p g, c) p (nI n) = g n := by
  rw [gA_n _ _ h]
  show va_up f p g p n = _
  rw [up_at]
theorem st_id (x : ST) (p : Nat) : x = (x.1, va_up x.2.1 p (x.2.1 p), x.2.2) := by rw [up_id]
theorem ordF_succ (lt : Nat → Nat → Bool) (n q : Nat) : ordF lt (n + 1) q = insF (ordF lt n) n (posF lt n (ordF lt n) n) q := rfl
/-- a book put where it belongs -/
theorem ins_done {lt : Nat → Nat → Bool} {i p : Nat} {g : Nat → Int32} (hp : posF lt i (ordF lt i) i = p) (h1 : ∀ q, q < p → g q = nI (ordF lt i q)) (h2 : ∀ q, p < q → q ≤ i → g q = nI (ordF lt i (q - 1))) : ∀ q, q < i + 1 → upd g p (nI i) q = nI (ordF lt (i + 1) q) := by
  intro q hq
  rw [ordF_succ, hp]
  unfold upd insF
  by_cases c : q = p
  · rw [if_pos c, if_neg (by omega), if_pos c]
  · rw [if_neg c]
    by_cases c2 : q < p
    · rw [if_pos c2]; exact h1 q c2
    · rw [if_neg c2, if_neg c]; exact h2 q (by omega) (by omega)
theorem cK_m1 {k : Nat → Int64} {a b : Nat} : ltK k a b = true ↔ ¬ cK k b a ≤ 0 := by
  unfold ltK
  rw [decide_eq_true_iff, cK_neg k b a]
  rcases cK_val k b a with h | ⟨h, -⟩ | h <;> rw [h] <;> decide
theorem sort_y {n r : Nat} {k : Nat → Nat → Int64} {K : ST → Prop} {y : ST} (hn : n ≤ 60) (hr : r < 2) (hy : y.1 22 = nI n) (hk : ∀ b, b < n → KeyOK (k 0 b) (k 1 b) (y.2.1 36 b) (y.2.1 37 b) (y.2.1 38 b) (y.2.1 39 b))
    (h : ∀ g : Nat → Int32, (∀ q, q < n → g q = nI (ordF (ltK (k r)) n q)) → K (y.1, va_up y.2.1 47 g, y.2.2)) : wX7_sort (nI r) K y := by
  unfold wX7_sort
  refine it1 (I := fun mm a y2 => ∃ i g, a = nI i ∧ i ≤ n ∧ mm = n - i ∧ y2 = (y.1, va_up y.2.1 47 g, y.2.2) ∧ ∀ q, q < i → g q = nI (ordF (ltK (k r)) i q)) ?_ (m := n) ⟨0, y.2.1 47, rfl, Nat.zero_le _, rfl, st_id y 47, fun q hq => absurd hq (Nat.not_lt_zero q)⟩
  rintro mm a y2 G ⟨i, g, rfl, hi, hmm, rfl, hg⟩ hG
  unfold FX7_sort_2
  have e : gI (y.1, va_up y.2.1 47 g, y.2.2) 22 = nI n := hy
  rw [e, nI_leI (by omega) (by omega)]
  by_cases c : n ≤ i
  · refine brT c (h g ?_)
    have : i = n := by omega
    subst this
    exact hg
  · refine brF c ?_
    refine it1 (I := fun mm2 a2 y3 => ∃ j g2, a2 = nI j ∧ j ≤ i ∧ mm2 = j ∧ y3 = (y.1, va_up y.2.1 47 g2, y.2.2) ∧ posF (ltK (k r)) i (ordF (ltK (k r)) i) i = posF (ltK (k r)) i (ordF (ltK (k r)) i) j ∧ (∀ q, q < j → g2 q = nI (ordF (ltK (k r)) i q)) ∧ (∀ q, j < q → q ≤ i → g2 q = nI (ordF (ltK (k r)) i (q - 1)))) ?_ (m := i) ⟨i, g, rfl, Nat.le_refl _, rfl, rfl, rfl, hg, fun q h1 h2 => by omega⟩
    rintro mm2 a2 y3 G2 ⟨j, g2, rfl, hj, hm2, rfl, hpos, h1, h2⟩ hG2
    have done : posF (ltK (k r)) i (ordF (ltK (k r)) i) j = j → ∀ y4 : ST, y4 = pA (y.1, va_up y.2.1 47 g2, y.2.2) 47 (nI j) (nI i) → ∀ v : Int32, v = nI i + 1 → G v y4 := by
      intro hp y4 e4 v ev
      rw [pA_up (by omega)] at e4
      rw [nI_1] at ev
      subst e4 ev
      exact hG (n - (i + 1)) _ _ (by omega) ⟨i + 1, _, rfl, by omega, rfl, rfl, ins_done (hpos.trans hp) h1 h2⟩
    unfold FX7_sort_12
    rw [show (0 : Int32) = nI 0 from rfl, nI_leI (by omega) (by omega)]
    by_cases c2 : j ≤ 0
    · refine brT c2 ⟨vin (by omega) (by omega), done ?_⟩
      rw [show j = 0 by omega]; rfl
    · refine brF c2 ⟨by rw [nI_m1 (by omega)]; exact vin (by omega) (by omega), ?_⟩
      have ho : ordF (ltK (k r)) i (j - 1) < i := ordF_lt _ _ _ (by omega)
      rw [nI_m1 (by omega), gA_up (by omega), h1 (j - 1) (by omega)]
      refine ag_y (k := k) (by omega) (by omega) hr (hk _ (by omega)) (hk _ (by omega)) ?_
      by_cases c3 : ltK (k r) i (ordF (ltK (k r)) i (j - 1)) = true
      · refine brF (cK_m1.mp c3) ⟨vin (by omega) (by omega), fun y4 e4 v ev => ?_⟩
        rw [pA_up (by omega), gA_up (by omega), h1 (j - 1) (by omega)] at e4
        rw [nI_am1 (by omega)] at ev
        subst e4 ev
        refine hG2 (j - 1) _ _ (by omega) ⟨j - 1, _, rfl, by omega, rfl, rfl, ?_, fun q hq => ?_, fun q hq1 hq2 => ?_⟩
        · rw [hpos]
          conv => lhs; rw [show j = j - 1 + 1 by omega]
          show (if ltK (k r) i (ordF (ltK (k r)) i (j - 1)) = true then _ else _) = _
          rw [if_pos c3]
        · unfold upd; rw [if_neg (by omega)]; exact h1 q (by omega)
        · unfold upd
          by_cases c4 : q = j
          · rw [if_pos c4, c4]
          · rw [if_neg c4]; exact h2 q (by omega) hq2
      · refine brT (Classical.byContradiction (fun z => c3 (cK_m1.mpr z))) ⟨vin (by omega) (by omega), done ?_⟩
        conv => lhs; rw [show j = j - 1 + 1 by omega]
        show (if ltK (k r) i (ordF (ltK (k r)) i (j - 1)) = true then _ else _) = _
        rw [if_neg c3]; omega
theorem x_has {a : Int32} {K : Int32 → ST → Prop} {x : ST} {n : Nat} (hn : n ≤ 60) (hx : x.1 10 = nI n) (h1 : ∀ i, i < n → a = nI i → K 1 x) (h2 : ¬ inn a 0 (nI n - 1) → K 0 x) : wX0_has a K x := by
  unfold wX0_has
  rw [within_iff, show gI x 10 = nI n from hx]
  rcases wi_in (a := a) (lo := 0) (hi := nI n - 1) with ⟨e, c⟩ | ⟨e, c⟩ <;> rw [e]
  · obtain ⟨i, hi, rfl⟩ := (inn_n (by omega)).mp c
    exact h1 i hi rfl
  · exact h2 c
theorem m_has {a : Int32} {K : Int32 → ST → Prop} {y : ST} {n : Nat} (hn : n ≤ 60) (hy : y.1 22 = nI n) (h1 : ∀ i, i < n → a = nI i → K 1 y) (h2 : ¬ inn a 0 (nI n - 1) → K 0 y) : wX7_isIn a 0 (gI y 22 - 1) K y := by
  rw [isIn_iff, show gI y 22 = nI n from hy]
  rcases wi_in (a := a) (lo := 0) (hi := nI n - 1) with ⟨e, c⟩ | ⟨e, c⟩ <;> rw [e]
  · obtain ⟨i, hi, rfl⟩ := (inn_n (by omega)).mp c
    exact h1 i hi rfl
  · exact h2 c
theorem x_rul {a : Int32} {K : Int32 → ST → Prop} {x : ST} (h1 : ∀ i, i < 2 → a = nI i → K 1 x) (h2 : ¬ inn a 0 1 → K 0 x) : wX6_isRule a K x := by
  unfold wX6_isRule
  rw [within_iff]
  rcases wi_in (a := a) (lo := 0) (hi := 1) with ⟨e, c⟩ | ⟨e, c⟩ <;> rw [e]
  · obtain ⟨j, hj, rfl⟩ := wi_c (n := 1) (by omega) c.1 c.2
    exact h1 j (by omega) rfl
  · exact h2 c
theorem m_rul {a : Int32} {K : Int32 → ST → Prop} {y : ST} (h1 : ∀ i, i < 2 → a = nI i → K 1 y) (h2 : ¬ inn a 0 1 → K 0 y) : wX7_isIn a 0 1 K y := by
  rw [isIn_iff]
  rcases wi_in (a := a) (lo := 0) (hi := 1) with ⟨e, c⟩ | ⟨e, c⟩ <;> rw [e]
  · obtain ⟨j, hj, rfl⟩ := wi_c (n := 1) (by omega) c.1 c.2
    exact h1 j (by omega) rfl
  · exact h2 c
theorem not_inn_n {a : Int32} {n i : Nat} (hn : n ≤ 60) (hi : i < n) (e : a = nI i) (h : ¬ inn a 0 (nI n - 1)) : False := h ((inn_n (by omega)).mpr ⟨i, hi, e⟩)
theorem not_inn_2 {a : Int32} {i : Nat} (hi : i < 2) (e : a = nI i) (h : ¬ inn a 0 1) : False := by
  subst e
  refine h ⟨by rw [show (0 : Int32) = nI 0 from rfl]; exact nI_nlt (by omega) (by omega), by rw [show (1 : Int32) = nI 1 from rfl]; exact nI_nlt (by omega) (by omega)⟩
theorem s_compare (a b c : Int32) : SIM (wX6_compare a b c) (wX7_compare a b c) := by
  intro x y Q hR h
  obtain ⟨n, r, ns, m, t, hB, hO, hQ, hU, hS, hW, hT, hP, hZ⟩ := id hR
  obtain ⟨b1, b2, b3, b4⟩ := id hB
  have hM : ∀ K : Int32 → ST → Prop, (∀ i j ρ, i < n → j < n → ρ < 2 → a = nI i → b = nI j → c = nI ρ → K (cK (x.2.2 (6 + ρ)) i j) y) → (¬ (inn a 0 (nI n - 1) ∧ inn b 0 (nI n - 1) ∧ inn c 0 1) → K (-2) y) → wX7_compare a b c K y := by
    intro K k1 k2
    unfold wX7_compare wX7_isBook
    refine m_has b1 b3 (fun i hi ei => brF n10 (m_has b1 b3 (fun j hj ej => brF n10 (m_rul (fun ρ hρ eρ => brF n10 ?_) (fun z => brT rfl (k2 (fun q => z q.2.2))))) (fun z => brT rfl (k2 (fun q => z q.2.1))))) (fun z => brT rfl (k2 (fun q => z q.1)))
    rw [ei, ej, eρ]
    exact ag_y (k := fun ρ => x.2.2 (6 + ρ)) (by omega) (by omega) hρ (b4 i hi).2.2.2.2.2.2 (b4 j hj).2.2.2.2.2.2 (k1 i j ρ hi hj hρ ei ej eρ)
  have bad : ¬ (inn a 0 (nI n - 1) ∧ inn b 0 (nI n - 1) ∧ inn c 0 1) → wX7_compare a b c (fun v' y' => Q (-2) v' x y') y := fun z =>
    hM _ (fun i j ρ hi hj hρ ei ej eρ => absurd ⟨Classical.byContradiction (fun q => not_inn_n b1 hi ei q), Classical.byContradiction (fun q => not_inn_n b1 hj ej q), Classical.byContradiction (fun q => not_inn_2 hρ eρ q)⟩ z) (fun _ => h _ _ _ hR)
  unfold wX6_compare
  refine x_has b1 b2 (fun i hi ei => brF n10 (x_has b1 b2 (fun j hj ej => brF n10 (x_rul (fun ρ hρ eρ => rbF n10 ?_) (fun z => rbT rfl (bad (fun q => z q.2.2))))) (fun z => brT rfl (bad (fun q => z q.2.1))))) (fun z => brT rfl (bad (fun q => z q.1)))
  rw [ei, ej, eρ]
  refine sg_x (by omega) (by omega) hρ ?_
  rw [← ei, ← ej, ← eρ]
  refine hM _ (fun i2 j2 ρ2 hi2 hj2 hρ2 ei2 ej2 eρ2 => ?_) (fun z => absurd ⟨Classical.byContradiction (fun q => not_inn_n b1 hi ei q), Classical.byContradiction (fun q => not_inn_n b1 hj ej q), Classical.byContradiction (fun q => not_inn_2 hρ eρ q)⟩ z)
  have e1 : i = i2 := (nI_eq (by omega) (by omega)).mp (ei.symm.trans ei2)
  have e2 : j = j2 := (nI_eq (by omega) (by omega)).mp (ej.symm.trans ej2)
  have e3 : ρ = ρ2 := (nI_eq (by omega) (by omega)).mp (eρ.symm.trans eρ2)
  subst e1 e2 e3
  exact h _ _ _ hR
/-- the reference's state with another order row -/
theorem R_ord {x y : ST} (hR : R x y) (g : Nat → Int32) : R x (y.1, va_up y.2.1 47 g, y.2.2) := hR
theorem s_ordered (a c : Int32) : SIM (wX6_ordered a c) (wX7_ordered a c) := by
  intro x y Q hR h
  obtain ⟨n, r, ns, m, t, hB, hO, hQ, hU, hS, hW, hT, hP, hZ⟩ := id hR
  obtain ⟨b1, b2, b3, b4⟩ := id hB
  have hM : ∀ K : Int32 → ST → Prop, (∀ i ρ, i < n → ρ < 2 → a = nI i → c = nI ρ → ∀ g : Nat → Int32, K (nI (ordX n ρ x i)) (y.1, va_up y.2.1 47 g, y.2.2)) → (¬ (inn a 0 (nI n - 1) ∧ inn c 0 1) → K (-1) y) → wX7_ordered a c K y := by
    intro K k1 k2
    unfold wX7_ordered
    refine m_has b1 b3 (fun i hi ei => brF n10 (m_rul (fun ρ hρ eρ => rbF n10 ?_) (fun z => rbT rfl (k2 (fun q => z q.2))))) (fun z => brT rfl (k2 (fun q => z q.1)))
    rw [eρ]
    refine sort_y (k := fun ρ => x.2.2 (6 + ρ)) b1 hρ b3 (fun b hb => (b4 b hb).2.2.2.2.2.2) (fun g hg => ?_)
    rw [ei]
    refine ⟨vin (by omega) (by omega), ?_⟩
    rw [gA_up (by omega), hg i hi]
    exact k1 i ρ hi hρ ei eρ g
  have bad : ¬ (inn a 0 (nI n - 1) ∧ inn c 0 1) → wX7_ordered a c (fun v' y' => Q (-1) v' x y') y := fun z =>
    hM _ (fun i ρ hi hρ ei eρ => absurd ⟨Classical.byContradiction (fun q => not_inn_n b1 hi ei q), Classical.byContradiction (fun q => not_inn_2 hρ eρ q)⟩ z) (fun _ => h _ _ _ hR)
  unfold wX6_ordered
  refine x_has b1 b2 (fun i hi ei => brF n10 (x_rul (fun ρ hρ eρ => rbF n10 ?_) (fun z => rbT rfl (bad (fun q => z q.2))))) (fun z => brT rfl (bad (fun q => z q.1)))
  refine ⟨by rw [eρ]; exact vin hρ (by omega), by rw [ei]; exact vin (by omega) (by omega), ?_⟩
  have e9 : gA x (9 + c.toNatClampNeg) a = nI (ordX n ρ x i) := by
    rw [eρ, nI_clamp (by omega), ei, gA_n _ _ (by omega)]
    exact hO.at hρ i hi
  rw [e9]
  refine hM _ (fun i2 ρ2 hi2 hρ2 ei2 eρ2 g => ?_) (fun z => absurd ⟨Classical.byContradiction (fun q => not_inn_n b1 hi ei q), Classical.byContradiction (fun q => not_inn_2 hρ eρ q)⟩ z)
  have e1 : i = i2 := (nI_eq (by omega) (by omega)).mp (ei.symm.trans ei2)
  have e3 : ρ = ρ2 := (nI_eq (by omega) (by omega)).mp (eρ.symm.trans eρ2)
  subst e1 e3
  exact h _ _ _ (R_ord hR g)
