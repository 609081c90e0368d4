theorem put_x {n r : Nat} {K : ST → Prop} {x : ST} (hn : n < 60) (hr : r < 2) (ho : ∀ q, q < n → x.2.1 (9 + r) q = nI (ordF (ltK (x.2.2 (6 + r))) n q)) (h : ∀ g, (∀ q, q < n + 1 → g q = nI (ordF (ltK (x.2.2 (6 + r))) (n + 1) q)) → K (x.1, va_up x.2.1 (9 + r) g, x.2.2)) : wX0_putInOrder (nI n) (nI r) K x := by
  unfold wX0_putInOrder
  refine it1 (I := fun mm a2 y3 => ∃ j g2, a2 = nI j ∧ j ≤ n ∧ mm = j ∧ y3 = (x.1, va_up x.2.1 (9 + r) g2, x.2.2) ∧ posF (ltK (x.2.2 (6 + r))) n (ordF (ltK (x.2.2 (6 + r))) n) n = posF (ltK (x.2.2 (6 + r))) n (ordF (ltK (x.2.2 (6 + r))) n) j ∧ (∀ q, q < j → g2 q = nI (ordF (ltK (x.2.2 (6 + r))) n q)) ∧ (∀ q, j < q → q ≤ n → g2 q = nI (ordF (ltK (x.2.2 (6 + r))) n (q - 1)))) ?_ (m := n) ⟨n, _, rfl, Nat.le_refl _, rfl, st_id x (9 + r), rfl, ho, fun q h1 h2 => by omega⟩
  rintro mm a2 y3 G2 ⟨j, g2, rfl, hj, hm2, rfl, hpos, h1, h2⟩ hG2
  have done : posF (ltK (x.2.2 (6 + r))) n (ordF (ltK (x.2.2 (6 + r))) n) j = j → ∀ y4 : ST, y4 = pA (x.1, va_up x.2.1 (9 + r) g2, x.2.2) (9 + (nI r).toNatClampNeg) (nI j) (nI n) → K y4 := by
    intro hp y4 e4
    rw [nI_clamp (by omega), pA_up (by omega)] at e4
    subst e4
    exact h _ (ins_done (hpos.trans hp) h1 h2)
  unfold FX0_putInOrder_2
  rw [show (0 : Int32) = nI 0 from rfl, nI_leI (by omega) (by omega)]
  by_cases c2 : j ≤ 0
  · refine brT c2 ⟨vin hr (by omega), vin (by omega) (by omega), done ?_⟩
    rw [show j = 0 by omega]; rfl
  · refine brF c2 ⟨vin hr (by omega), by rw [nI_m1 (by omega)]; exact vin (by omega) (by omega), ?_⟩
    have ho : ordF (ltK (x.2.2 (6 + r))) n (j - 1) < n := ordF_lt _ _ _ (by omega)
    have e9 : gA (x.1, va_up x.2.1 (9 + r) g2, x.2.2) (9 + (nI r).toNatClampNeg) (nI j - 1) = nI (ordF (ltK (x.2.2 (6 + r))) n (j - 1)) := by
      rw [nI_clamp (by omega), nI_m1 (by omega), gA_up (by omega), h1 (j - 1) (by omega)]
    rw [e9]
    refine sg_x (x := (x.1, va_up x.2.1 (9 + r) g2, x.2.2)) (by omega) (by omega) hr ?_
    show ((0 : Int32) ≤ cK (x.2.2 (6 + r)) n (ordF (ltK (x.2.2 (6 + r))) n (j - 1)) → _) ∧ (¬ (0 : Int32) ≤ cK (x.2.2 (6 + r)) n (ordF (ltK (x.2.2 (6 + r))) n (j - 1)) → _)
    by_cases c3 : ltK (x.2.2 (6 + r)) n (ordF (ltK (x.2.2 (6 + r))) n (j - 1)) = true
    · refine brF (fun z => cK_0le.mp z (ltK_iff.mp c3)) ⟨vin (by omega) (by omega), fun y4 e4 v ev => ?_⟩
      rw [e9, nI_clamp (by omega), pA_up (by omega)] at e4
      rw [nI_am1 (by omega)] at ev
      subst e4 ev
      refine hG2 (j - 1) _ _ (by omega) ⟨j - 1, _, rfl, by omega, rfl, rfl, ?_, fun q hq => ?_, fun q hq1 hq2 => ?_⟩
      · rw [hpos]
        conv => lhs; rw [show j = j - 1 + 1 by omega]
        show (if ltK (x.2.2 (6 + r)) n (ordF (ltK (x.2.2 (6 + r))) n (j - 1)) = true then _ else _) = _
        rw [if_pos c3]
      · unfold upd; rw [if_neg (by omega)]; exact h1 q (by omega)
      · unfold upd
        by_cases c4 : q = j
        · rw [if_pos c4, c4]
        · rw [if_neg c4]; exact h2 q (by omega) hq2
    · refine brT (Classical.byContradiction (fun z => c3 (ltK_iff.mpr (Classical.byContradiction (fun w => z (cK_0le.mpr w)))))) ⟨vin (by omega) (by omega), done ?_⟩
      conv => lhs; rw [show j = j - 1 + 1 by omega]
      show (if ltK (x.2.2 (6 + r)) n (ordF (ltK (x.2.2 (6 + r))) n (j - 1)) = true then _ else _) = _
      rw [if_neg c3]; omega
theorem earlier_x {n : Nat} {K : Int32 → ST → Prop} {x : ST} (hn : n < 60) (h : K (nI (quB (quK (x.2.2 6) (x.2.2 7)) n n)) x) : wX0_quarrelsWithEarlier (nI n) K x := by
  unfold wX0_quarrelsWithEarlier
  refine it2 (I := fun mm v a y3 => ∃ j, a = nI j ∧ j ≤ n ∧ mm = n - j ∧ y3 = x ∧ v = nI (quB (quK (x.2.2 6) (x.2.2 7)) n j)) ?_ (m := n) ⟨0, rfl, Nat.zero_le _, rfl, rfl, rfl⟩
  rintro mm v a y3 G ⟨j, rfl, hj, hmm, hx, rfl⟩ hG
  subst hx
  unfold FX0_quarrelsWithEarlier_4
  rw [nI_leI (by omega) (by omega)]
  by_cases c : n ≤ j
  · refine brT c ?_
    rw [show j = n by omega]; exact h
  · refine brF c ?_
    refine sg_x (r := 0) (by omega) (by omega) (by omega) ?_
    refine sg_x (r := 1) (by omega) (by omega) (by omega) ?_
    show (cK (y3.2.2 6) j n = cK (y3.2.2 7) j n → _) ∧ (¬ cK (y3.2.2 6) j n = cK (y3.2.2 7) j n → _)
    by_cases c3 : cK (y3.2.2 6) j n = cK (y3.2.2 7) j n
    · refine brT c3 (fun v5 e5 => ?_)
      rw [nI_1] at e5
      subst e5
      refine hG (n - (j + 1)) _ _ _ (by omega) ⟨j + 1, rfl, by omega, rfl, rfl, ?_⟩
      have e : quK (y3.2.2 6) (y3.2.2 7) j n = false := by unfold quK; simp [c3]
      show _ = nI (quB _ n j + if quK (y3.2.2 6) (y3.2.2 7) j n = true then 1 else 0)
      rw [e]; rfl
    · refine brF c3 (fun v4 e4 v5 e5 => ?_)
      rw [nI_1] at e4 e5
      subst e4 e5
      refine hG (n - (j + 1)) _ _ _ (by omega) ⟨j + 1, rfl, by omega, rfl, rfl, ?_⟩
      have e : quK (y3.2.2 6) (y3.2.2 7) j n = true := by unfold quK; simp [c3]
      show nI _ = nI (quB _ n j + if quK (y3.2.2 6) (y3.2.2 7) j n = true then 1 else 0)
      rw [e]; rfl
theorem keyBy0_x {N L f : Nat} {K : Int64 → ST → Prop} {x : ST} (hN : N ≤ 9999) (hL : L < 19683) (hf : f < 50000) (h5 : x.1 5 = nI N) (h9 : x.1 9 = nI L) (h8 : x.1 8 = nI f) (h : K (lN ((N * 50000 + f) * 19683 + L)) x) : wX2_keyBy 0 K x := by
  unfold wX2_keyBy
  refine rbT rfl (fun v e => ?_)
  rw [e, show gI x 8 = nI f from h8, show gI x 5 = nI N from h5, show gI x 9 = nI L from h9, nI_l (by omega), nI_l (by omega), nI_l (by omega), show (50000 : Int64) = lN 50000 from rfl, show (19683 : Int64) = lN 19683 from rfl, lN_mul, lN_add, lN_mul, lN_add]
  exact h
theorem keyBy1_x {N L B d : Nat} {K : Int64 → ST → Prop} {x : ST} (hN : N ≤ 9999) (hL : L < 19683) (hB : B < 10000) (hd : d ≤ 4) (h5 : x.1 5 = nI N) (h9 : x.1 9 = nI L) (h6 : x.1 6 = nI B) (h7 : x.1 7 = nI d) (h : K (lN ((N * 50000 + (B * 5 + d)) * 19683 + L)) x) : wX2_keyBy 1 K x := by
  unfold wX2_keyBy
  refine rbF n10 (fun v e => ?_)
  rw [show gI x 6 = nI B from h6, show gI x 7 = nI d from h7, show (5 : Int32) = nI 5 from rfl, nI_mul, nI_add] at e
  rw [e, show gI x 5 = nI N from h5, show gI x 9 = nI L from h9, nI_l (by omega), nI_l (by omega), nI_l (by omega), show (50000 : Int64) = lN 50000 from rfl, show (19683 : Int64) = lN 19683 from rfl, lN_mul, lN_add, lN_mul, lN_add]
  exact h
theorem updL_at (f : Nat → Int64) (n : Nat) (v : Int64) : vp_updL f n v n = v := if_pos rfl
theorem updL_ne (f : Nat → Int64) {n b : Nat} (v : Int64) (h : b ≠ n) : vp_updL f n v b = f b := if_neg h
theorem ltK_cong {k k2 : Nat → Int64} {a b : Nat} (ha : k a = k2 a) (hb : k b = k2 b) : ltK k a b = ltK k2 a b := by unfold ltK; rw [cK_cong ha hb]
/-- one book more -/
theorem add_x {n N L B d : Nat} {a2 a3 a4 : Int32} {K : Int32 → ST → Prop} {x : ST} (hn : n < 60) (hx10 : x.1 10 = nI n) (hO : RO n x) (hQ : RQ n x) (hN : N ≤ 9999) (hL : L < 19683) (hd : d ≤ 4) (hB : B < 10 ^ d) (he : elev B d * 11 ^ (4 - d) < 50000) (h5 : x.1 5 = nI N) (h6 : x.1 6 = nI B) (h7 : x.1 7 = nI d) (h8 : x.1 8 = nI (elev B d * 11 ^ (4 - d))) (h9 : x.1 9 = nI L)
    (h : ∀ g0 g1 : Nat → Int32, ∀ k0 k1 : Nat → Int64, k0 = vp_updL (x.2.2 6) n (lN ((N * 50000 + elev B d * 11 ^ (4 - d)) * 19683 + L)) → k1 = vp_updL (x.2.2 7) n (lN ((N * 50000 + (B * 5 + d)) * 19683 + L)) → (∀ q, q < n + 1 → g0 q = nI (ordF (ltK k0) (n + 1) q)) → (∀ q, q < n + 1 → g1 q = nI (ordF (ltK k1) (n + 1) q)) →
      K (nI n) (va_up (va_up x.1 11 (nI (quA (quK k0 k1) (n + 1)))) 10 (nI (n + 1)), va_up (va_up (va_up (va_up (va_up (va_up x.2.1 11 (upd (x.2.1 11) n a2)) 12 (upd (x.2.1 12) n a3)) 13 (upd (x.2.1 13) n a4)) 14 (upd (x.2.1 14) n (nI (N / 1000)))) 9 g0) 10 g1, va_up (va_up x.2.2 6 k0) 7 k1)) : wX0_add a2 a3 a4 K x := by
  have hB4 : B < 10000 := by
    have h' : 10 ^ d ≤ 10 ^ 4 := Nat.pow_le_pow_right (by omega) hd
    omega
  unfold wX0_add
  rw [show gI x 10 = nI n from hx10, show (60 : Int32) = nI 60 from rfl, nI_ltI (by omega) (by omega)]
  refine brT hn (fun v5 e5 => ?_)
  subst e5
  refine ⟨vin (by omega) (by omega), fun x4 e4 x5 e5 x6 e6 x7 e7 => ⟨3, ?_⟩⟩
  rw [pA_n _ _ (by omega)] at e4 e5 e6 e7
  have e8 : x7 = (x.1, va_up (va_up (va_up (va_up x.2.1 11 (upd (x.2.1 11) n a2)) 12 (upd (x.2.1 12) n a3)) 13 (upd (x.2.1 13) n a4)) 14 (upd (x.2.1 14) n (nI (N / 1000))), x.2.2) := by
    have e10 : gI x6 5 / 1000 = nI (N / 1000) := by
      rw [e6, e5, e4]
      show x.1 5 / nI 1000 = _
      rw [h5, nI_div (by omega) (by omega)]
    rw [e7, e10, e6, e5, e4]
    rfl
  clear e4 e5 e6 e7
  rw [e8]
  clear e8
  show FX0_add_60 K (nI n) (it (fun (_ : Int32) (_ : ST) => False) (FX0_add_60 K (nI n)) 2) 0 _
  unfold FX0_add_60
  refine brF (by decide) ⟨vin (n := 0) (by omega) (by omega), ?_⟩
  refine keyBy0_x hN hL he h5 h9 h8 ⟨vin (by omega) (by omega), fun x8 e8 => ?_⟩
  have e9 := e8.trans (pL_n _ 6 (by omega) _)
  clear e8
  subst e9
  refine put_x (r := 0) hn (by omega) (fun q hq => (hO.1 q hq).trans (congrArg nI (ordF_cong n (fun a b ha hb => ltK_cong (updL_ne _ _ (by omega)).symm (updL_ne _ _ (by omega)).symm) q hq))) (fun g0 hg0 v6 e6 => ?_)
  have e6 : v6 = 1 := e6
  subst e6
  show FX0_add_60 K (nI n) (it (fun (_ : Int32) (_ : ST) => False) (FX0_add_60 K (nI n)) 1) 1 _
  unfold FX0_add_60
  refine brF (by decide) ⟨vin (n := 1) (by omega) (by omega), ?_⟩
  refine keyBy1_x hN hL hB4 hd h5 h9 h6 h7 ⟨vin (by omega) (by omega), fun x8 e8 => ?_⟩
  have e9 := e8.trans (pL_n _ 7 (by omega) _)
  clear e8
  subst e9
  refine put_x (r := 1) hn (by omega) (fun q hq => (hO.2 q hq).trans (congrArg nI (ordF_cong n (fun a b ha hb => ltK_cong (updL_ne _ _ (by omega)).symm (updL_ne _ _ (by omega)).symm) q hq))) (fun g1 hg1 v6 e6 => ?_)
  have e6 : v6 = 2 := e6
  subst e6
  show FX0_add_60 K (nI n) (it (fun (_ : Int32) (_ : ST) => False) (FX0_add_60 K (nI n)) 0) 2 _
  unfold FX0_add_60
  refine brT (by decide) ?_
  refine earlier_x hn (fun x3 e3 x4 e4 => ?_)
  have hq : quA (quK (x.2.2 6) (x.2.2 7)) n = quA (quK (vp_updL (x.2.2 6) n (lN ((N * 50000 + elev B d * 11 ^ (4 - d)) * 19683 + L))) (vp_updL (x.2.2 7) n (lN ((N * 50000 + (B * 5 + d)) * 19683 + L)))) n := quA_cong (fun a b ha hb => by
    unfold quK
    rw [cK_cong (updL_ne (x.2.2 6) _ (show a ≠ n by omega)) (updL_ne (x.2.2 6) _ (show b ≠ n by omega)), cK_cong (updL_ne (x.2.2 7) _ (show a ≠ n by omega)) (updL_ne (x.2.2 7) _ (show b ≠ n by omega))])
  have h11 : x.1 11 = nI (quA (quK (x.2.2 6) (x.2.2 7)) n) := hQ
  rw [hq] at h11
  have f3 := e3.trans (congrArg (fun v => pI _ 11 v) (show (gI (_, _, _) 11 + _) = nI (quA (quK (vp_updL (x.2.2 6) n (lN ((N * 50000 + elev B d * 11 ^ (4 - d)) * 19683 + L))) (vp_updL (x.2.2 7) n (lN ((N * 50000 + (B * 5 + d)) * 19683 + L)))) n + quB (quK (vp_updL (x.2.2 6) n (lN ((N * 50000 + elev B d * 11 ^ (4 - d)) * 19683 + L))) (vp_updL (x.2.2 7) n (lN ((N * 50000 + (B * 5 + d)) * 19683 + L)))) n n) from by
    rw [← nI_add, ← h11]; rfl))
  clear e3
  subst f3
  have f4 := e4.trans (congrArg (fun v => pI _ 10 v) (show (gI _ 10 + 1) = nI (n + 1) from by rw [← nI_1, ← hx10]; rfl))
  clear e4
  subst f4
  exact h g0 g1 _ _ rfl rfl hg0 hg1
