theorem qu_y {n : Nat} {k : Nat → Nat → Int64} {K : Int32 → ST → Prop} {y : ST} (hn : n ≤ 60) (hy : y.1 22 = nI n) (hk : ∀ b, b < n → KeyOK (k 0 b) (k 1 b) (y.2.1 36 b) (y.2.1 37 b) (y.2.1 38 b) (y.2.1 39 b))
    (h : K (nI (quA (quK (k 0) (k 1)) n)) y) : wX7_quarrels K y := by
  unfold wX7_quarrels
  refine it2 (I := fun mm v a y2 => ∃ i, a = nI i ∧ i ≤ n ∧ mm = n - i ∧ y2 = y ∧ v = nI (quA (quK (k 0) (k 1)) i)) ?_ (m := n) ⟨0, rfl, Nat.zero_le _, rfl, rfl, rfl⟩
  rintro mm v a y2 G ⟨i, rfl, hi, hmm, rfl, rfl⟩ hG
  unfold FX7_quarrels_4
  rw [show gI y2 22 = nI n from hy, nI_leI (by omega) (by omega)]
  by_cases c : n ≤ i
  · refine brT c ?_
    rw [show i = n by omega]
    exact h
  · refine brF c ?_
    refine it2 (I := fun mm2 v2 a2 y3 => ∃ j, a2 = nI j ∧ j ≤ i ∧ mm2 = i - j ∧ y3 = y2 ∧ v2 = nI (quA (quK (k 0) (k 1)) i + quB (quK (k 0) (k 1)) i j)) ?_ (m := i) ⟨0, rfl, Nat.zero_le _, rfl, rfl, rfl⟩
    rintro mm2 v2 a2 y3 G2 ⟨j, rfl, hj, hm2, rfl, rfl⟩ hG2
    unfold FX7_quarrels_14
    rw [nI_leI (by omega) (by omega)]
    by_cases c2 : i ≤ j
    · refine brT c2 (fun v3 e3 => ?_)
      rw [nI_1] at e3
      subst e3
      refine hG (n - (i + 1)) _ _ _ (by omega) ⟨i + 1, rfl, by omega, rfl, rfl, ?_⟩
      rw [show j = i by omega]
      rfl
    · refine brF c2 ?_
      refine ag_y (k := k) (r := 0) (by omega) (by omega) (by omega) (hk _ (by omega)) (hk _ (by omega)) ?_
      refine ag_y (k := k) (r := 1) (by omega) (by omega) (by omega) (hk _ (by omega)) (hk _ (by omega)) ?_
      by_cases c3 : cK (k 0) i j = cK (k 1) i j
      · refine brT c3 (fun v4 e4 v5 e5 => ?_)
        rw [show (0 : Int32) = nI 0 from rfl, nI_add] at e4
        rw [nI_1] at e5
        subst e4 e5
        refine hG2 (i - (j + 1)) _ _ _ (by omega) ⟨j + 1, rfl, by omega, rfl, rfl, ?_⟩
        have e : quK (k 0) (k 1) j i = false := by rw [quK_sym]; unfold quK; simp [c3]
        show nI (_ + 0) = nI (_ + (quB _ i j + if quK (k 0) (k 1) j i = true then 1 else 0))
        rw [e]; rfl
      · refine brF c3 (fun v4 e4 v5 e5 => ?_)
        rw [nI_1] at e4 e5
        subst e4 e5
        refine hG2 (i - (j + 1)) _ _ _ (by omega) ⟨j + 1, rfl, by omega, rfl, rfl, ?_⟩
        have e : quK (k 0) (k 1) j i = true := by rw [quK_sym]; unfold quK; simp [c3]
        show nI (_ + 1) = nI (_ + (quB _ i j + if quK (k 0) (k 1) j i = true then 1 else 0))
        rw [e]; rfl
theorem s_quarrels : SIM wX6_quarrels wX7_quarrels := by
  intro x y Q hR h
  obtain ⟨n, r, ns, m, t, hB, hO, hQ, hU, hS, hW, hT, hP, hZ⟩ := id hR
  obtain ⟨b1, b2, b3, b4⟩ := id hB
  unfold wX6_quarrels
  have e : gI x 11 = nI (quA (quK (x.2.2 6) (x.2.2 7)) n) := hQ
  rw [e]
  exact qu_y (k := fun r => x.2.2 (6 + r)) b1 b3 (fun b hb => (b4 b hb).2.2.2.2.2.2) (h _ _ _ hR)
