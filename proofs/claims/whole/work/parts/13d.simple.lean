theorem s_wrong : SIM wX6_wrong wX7_wrong := by
  intro x y Q hR h
  obtain ⟨n, r, ns, m, t, hB, hO, hQ, hU, hS, hW, hT, hP, hZ⟩ := id hR
  have e : gI x 4 = gI y 28 := hT.2.2.2.2
  unfold wX6_wrong wX7_wrong
  rw [e]
  exact h _ _ _ hR
/-- 'a lies between lo and hi' -/
def inn (a lo hi : Int32) : Prop := ¬ a < lo ∧ ¬ hi < a
noncomputable def ifp (c : Prop) (A B : Prop) : Prop := (c → A) ∧ (¬ c → B)
theorem wi_in {a lo hi : Int32} : (wi a lo hi = 1 ∧ inn a lo hi) ∨ (wi a lo hi = 0 ∧ ¬ inn a lo hi) := by
  rcases wi_or a lo hi with ⟨e, c⟩ | ⟨e, c⟩
  · exact Or.inr ⟨e, fun q => by rcases c with c | c; exact q.1 c; exact q.2 c⟩
  · exact Or.inl ⟨e, c⟩
theorem x_end {a : Int32} {K : Int32 → ST → Prop} {x : ST} {t : Int32} (ht : gI x 3 = t) (h : ifp (inn a 0 t) (K a (pI x 3 a)) (K (-1) x)) : wX6_end a K x := by
  unfold wX6_end
  rw [within_iff, ht]
  rcases wi_in (a := a) (lo := 0) (hi := t) with ⟨e, c⟩ | ⟨e, c⟩ <;> rw [e]
  · exact rbF n10 (fun x3 e3 => by rw [e3]; exact h.1 c)
  · exact rbT rfl (h.2 c)
theorem m_end {a : Int32} {K : Int32 → ST → Prop} {y : ST} {t : Int32} (ht : gI y 27 = t) (h : ifp (inn a 0 t) (K a (pI y 27 a)) (K (-1) y)) : wX7_end a K y := by
  unfold wX7_end
  rw [isIn_iff, ht]
  rcases wi_in (a := a) (lo := 0) (hi := t) with ⟨e, c⟩ | ⟨e, c⟩ <;> rw [e]
  · exact rbF n10 (fun x3 e3 => by rw [e3]; exact h.1 c)
  · exact rbT rfl (h.2 c)
theorem s_end (a : Int32) : SIM (wX6_end a) (wX7_end a) := by
  intro x y Q hR h
  obtain ⟨n, r, ns, m, t, hB, hO, hQ, hU, hS, hW, hT, hP, hZ⟩ := id hR
  obtain ⟨t1, t2, t3, t4, t5⟩ := id hT
  refine x_end (t := nI t) t2 ⟨fun c => m_end (t := nI t) t3 ⟨fun _ => ?_, fun z => absurd c z⟩, fun c => m_end (t := nI t) t3 ⟨fun z => absurd z c, fun _ => h _ _ _ hR⟩⟩
  obtain ⟨j, hj, rfl⟩ := wi_c (by omega) c.1 c.2
  exact h _ _ _ ⟨n, r, ns, m, j, hB, hO, hQ, hU, hS, hW, ⟨by omega, rfl, rfl, fun i hi => t4 i (by omega), t5⟩, hP, hZ⟩
theorem x_rule {a : Int32} {K : Int32 → ST → Prop} {x : ST} (h : ifp (inn a 0 1) (K 1 (pI (pI (pI x 0 a) 1 0) 2 0)) (K 0 x)) : wX6_rule a K x := by
  unfold wX6_rule wX6_isRule
  rw [within_iff]
  rcases wi_in (a := a) (lo := 0) (hi := 1) with ⟨e, c⟩ | ⟨e, c⟩ <;> rw [e]
  · refine rbF n10 (fun x3 e3 => ?_)
    unfold wX6_forgetWhatFollows
    intro x4 e4 x5 e5
    rw [e5, e4, e3]; exact h.1 c
  · exact rbT rfl (h.2 c)
theorem m_rule {a : Int32} {K : Int32 → ST → Prop} {y : ST} (h : ifp (inn a 0 1) (K 1 (pI y 23 a)) (K 0 y)) : wX7_rule a K y := by
  unfold wX7_rule
  rw [isIn_iff]
  rcases wi_in (a := a) (lo := 0) (hi := 1) with ⟨e, c⟩ | ⟨e, c⟩ <;> rw [e]
  · exact rbF n10 (fun x3 e3 => by rw [e3]; exact h.1 c)
  · exact rbT rfl (h.2 c)
theorem s_rule (a : Int32) : SIM (wX6_rule a) (wX7_rule a) := by
  intro x y Q hR h
  obtain ⟨n, r, ns, m, t, hB, hO, hQ, hU, hS, hW, hT, hP, hZ⟩ := id hR
  refine x_rule ⟨fun c => m_rule ⟨fun _ => ?_, fun z => absurd c z⟩, fun c => m_rule ⟨fun z => absurd z c, fun _ => h _ _ _ hR⟩⟩
  obtain ⟨j, hj, rfl⟩ := wi_c (n := 1) (by omega) c.1 c.2
  exact h _ _ _ ⟨n, j, ns, m, t, hB, hO, hQ, ⟨by omega, rfl, rfl⟩, hS, hW, hT, Or.inl rfl, Or.inl rfl⟩
theorem x_shelf {a : Int32} {K : Int32 → ST → Prop} {x : ST} {ns : Nat} (hn : ns ≤ 16) (hx : gI x 12 = nI ns) (h : ifp (ns < 16 ∧ inn a 1 2000) (K (nI ns) (pI (pA (pI (pI x 1 0) 2 0) 16 (nI ns) a) 12 (nI (ns + 1)))) (K (-1) x)) : wX6_shelf a K x := by
  unfold wX6_shelf
  rw [hx, show (16 : Int32) = nI 16 from rfl, nI_leI (by omega) (by omega)]
  by_cases c : 16 ≤ ns
  · exact brT c (h.2 (fun q => by omega))
  · refine brF c ?_
    rw [within_iff]
    rcases wi_in (a := a) (lo := 1) (hi := 2000) with ⟨e, c1⟩ | ⟨e, c1⟩ <;> rw [e]
    · refine rbF n10 ?_
      unfold wX6_forgetWhatFollows
      intro x2 e2 x3 e3
      unfold wX4_add
      have f1 : gI x3 12 = nI ns := by rw [e3, e2]; exact hx
      rw [f1, show (16 : Int32) = nI 16 from rfl, nI_ltI (by omega) (by omega)]
      refine brT (by omega) ⟨vin (by omega) (by omega), ?_⟩
      intro x4 e4 x5 e5
      have f2 : gI x4 12 = nI ns := by rw [e4]; exact f1
      rw [f2, nI_1] at e5
      have f3 : gI x5 12 - 1 = nI ns := by
        rw [e5]
        show nI (ns + 1) - 1 = nI ns
        rw [nI_pred]
      rw [f3, e5, e4, e3, e2]
      exact h.1 ⟨by omega, c1⟩
    · exact rbT rfl (h.2 (fun q => c1 q.2))
theorem m_shelf {a : Int32} {K : Int32 → ST → Prop} {y : ST} {ns : Nat} (hn : ns ≤ 16) (hy : gI y 26 = nI ns) (h : ifp (ns < 16 ∧ inn a 1 2000) (K (nI ns) (pI (pA y 43 (nI ns) a) 26 (nI (ns + 1)))) (K (-1) y)) : wX7_shelf a K y := by
  unfold wX7_shelf
  rw [isIn_iff]
  rcases wi_in (a := a) (lo := 1) (hi := 2000) with ⟨e, c1⟩ | ⟨e, c1⟩ <;> rw [e]
  · refine brF n10 ?_
    rw [hy, show (16 : Int32) = nI 16 from rfl, nI_eq (by omega) (by omega)]
    by_cases c : ns = 16
    · exact rbT c (h.2 (fun q => by omega))
    · refine rbF c ⟨vin (by omega) (by omega), ?_⟩
      intro y5 e5 y6 e6
      have e7 : gI y5 26 = nI ns := by rw [e5]; exact hy
      rw [e7, nI_1] at e6
      have e8 : gI y6 26 - 1 = nI ns := by
        rw [e6]
        show nI (ns + 1) - 1 = nI ns
        rw [nI_pred]
      rw [e8, e6, e5]
      exact h.1 ⟨by omega, c1⟩
  · exact brT rfl (h.2 (fun q => c1 q.2))
theorem upd_lt {f g : Nat → Int32} {n : Nat} {v : Int32} (h : ∀ j, j < n → f j = g j) : ∀ j, j < n + 1 → upd f n v j = upd g n v j := by
  intro j hj
  unfold upd
  by_cases e : j = n
  · rw [if_pos e, if_pos e]
  · rw [if_neg e, if_neg e]; exact h j (by omega)
theorem s_shelf (a : Int32) : SIM (wX6_shelf a) (wX7_shelf a) := by
  intro x y Q hR h
  obtain ⟨n, r, ns, m, t, hB, hO, hQ, hU, hS, hW, hT, hP, hZ⟩ := id hR
  obtain ⟨s1, s2, s3, s4, s5, s6, s7, s8⟩ := id hS
  refine x_shelf s1 s2 ⟨fun c => m_shelf s1 s3 ⟨fun _ => ?_, fun z => absurd c z⟩, fun c => m_shelf s1 s3 ⟨fun z => absurd z c, fun _ => h _ _ _ hR⟩⟩
  refine h _ _ _ ?_
  rw [pA_n _ _ (by omega), pA_n _ _ (by omega)]
  exact ⟨n, r, ns + 1, m, t, hB, hO, hQ, hU, ⟨by omega, rfl, rfl, upd_lt s4, s5, s6, s7, s8⟩, hW, hT, Or.inl rfl, Or.inl rfl⟩
theorem x_way {a b : Int32} {K : Int32 → ST → Prop} {x : ST} (h : ifp (inn a 0 4 ∧ inn b 1 100) (K 1 (pI (pI (pA x 23 a b) 1 0) 2 0)) (K 0 x)) : wX6_way a b K x := by
  unfold wX6_way
  rw [within_iff]
  rcases wi_in (a := a) (lo := 0) (hi := 4) with ⟨e, c⟩ | ⟨e, c⟩ <;> rw [e]
  · refine brF n10 ?_
    rw [within_iff]
    rcases wi_in (a := b) (lo := 1) (hi := 100) with ⟨e2, c2⟩ | ⟨e2, c2⟩ <;> rw [e2]
    · refine rbF n10 ?_
      obtain ⟨j, hj, e9⟩ := wi_c (n := 4) (by omega) c.1 c.2
      refine ⟨by rw [e9]; exact vin (by omega) (by omega), ?_⟩
      intro x6 e6
      unfold wX6_forgetWhatFollows
      intro x2 f2 x3 f3
      rw [f3, f2, e6]
      exact h.1 ⟨c, c2⟩
    · exact rbT rfl (h.2 (fun q => c2 q.2))
  · exact brT rfl (h.2 (fun q => c q.1))
theorem m_way {a b : Int32} {K : Int32 → ST → Prop} {y : ST} (h : ifp (inn a 0 4 ∧ inn b 1 100) (K 1 (pA y 45 a b)) (K 0 y)) : wX7_way a b K y := by
  unfold wX7_way
  rw [isIn_iff]
  rcases wi_in (a := a) (lo := 0) (hi := 4) with ⟨e, c⟩ | ⟨e, c⟩ <;> rw [e]
  · refine brF n10 ?_
    rw [isIn_iff]
    rcases wi_in (a := b) (lo := 1) (hi := 100) with ⟨e2, c2⟩ | ⟨e2, c2⟩ <;> rw [e2]
    · refine rbF n10 ?_
      obtain ⟨j, hj, e9⟩ := wi_c (n := 4) (by omega) c.1 c.2
      refine ⟨by rw [e9]; exact vin (by omega) (by omega), ?_⟩
      intro x6 e6
      rw [e6]
      exact h.1 ⟨c, c2⟩
    · exact rbT rfl (h.2 (fun q => c2 q.2))
  · exact brT rfl (h.2 (fun q => c q.1))
theorem s_way (a b : Int32) : SIM (wX6_way a b) (wX7_way a b) := by
  intro x y Q hR h
  obtain ⟨n, r, ns, m, t, hB, hO, hQ, hU, hS, hW, hT, hP, hZ⟩ := id hR
  obtain ⟨s1, s2, s3, s4, s5, s6, s7, s8⟩ := id hS
  refine x_way ⟨fun c => m_way ⟨fun _ => ?_, fun z => absurd c z⟩, fun c => m_way ⟨fun z => absurd z c, fun _ => h _ _ _ hR⟩⟩
  obtain ⟨⟨c1, c2⟩, ⟨c3, c4⟩⟩ := c
  obtain ⟨j, hj, rfl⟩ := wi_c (n := 4) (by omega) c1 c2
  obtain ⟨w, hw1, hw2, rfl⟩ := wi_of (lo := 1) (hi := 100) (by omega) (by omega) c3 c4
  refine h _ _ _ ?_
  rw [pA_n _ _ (by omega), pA_n _ _ (by omega)]
  refine ⟨n, r, ns, m, t, hB, hO, hQ, hU, ⟨s1, s2, s3, s4, s5, s6, s7, fun i hi => ?_⟩, hW, hT, Or.inl rfl, Or.inl rfl⟩
  show upd (x.2.1 23) j (nI w) i = upd (y.2.1 45) j (nI w) i ∧ ∃ v, 1 ≤ v ∧ v ≤ 100 ∧ upd (x.2.1 23) j (nI w) i = nI v
  unfold upd
  by_cases e : i = j
  · rw [if_pos e, if_pos e]; exact ⟨rfl, w, hw1, hw2, rfl⟩
  · rw [if_neg e, if_neg e]; exact s8 i hi
theorem x_at {a : Int32} {K : Int32 → ST → Prop} {x : ST} {m : Nat} (hm : m ≤ 60) (hx : gI x 20 = nI m) (h : ifp (∃ j, j < m ∧ a = nI j) (K (gA x 31 a) x) (K (-1) x)) : wX6_at a K x := by
  unfold wX6_at wX3_has
  rw [within_iff, hx]
  rcases wi_in (a := a) (lo := 0) (hi := nI m - 1) with ⟨e, c⟩ | ⟨e, c⟩ <;> rw [e]
  · obtain ⟨j, hj, rfl⟩ := wi_n (by omega) c.1 c.2
    exact brF n10 ⟨vin (by omega) (by omega), h.1 ⟨j, hj, rfl⟩⟩
  · refine brT rfl (h.2 (fun q => c ?_))
    obtain ⟨j, hj, rfl⟩ := q
    refine ⟨by rw [show (0 : Int32) = nI 0 from rfl]; exact nI_nlt (Nat.zero_le _) (by omega), ?_⟩
    rw [nI_m1 (by omega)]
    exact nI_nlt (by omega) (by omega)
theorem m_at {a : Int32} {K : Int32 → ST → Prop} {y : ST} {m : Nat} (hm : m ≤ 60) (hy : gI y 35 = nI m) (h : ifp (∃ j, j < m ∧ a = nI j) (K (gA y 58 a) y) (K (-1) y)) : wX7_at a K y := by
  unfold wX7_at
  rw [isIn_iff, hy]
  rcases wi_in (a := a) (lo := 0) (hi := nI m - 1) with ⟨e, c⟩ | ⟨e, c⟩ <;> rw [e]
  · obtain ⟨j, hj, rfl⟩ := wi_n (by omega) c.1 c.2
    exact brF n10 ⟨vin (by omega) (by omega), h.1 ⟨j, hj, rfl⟩⟩
  · refine brT rfl (h.2 (fun q => c ?_))
    obtain ⟨j, hj, rfl⟩ := q
    refine ⟨by rw [show (0 : Int32) = nI 0 from rfl]; exact nI_nlt (Nat.zero_le _) (by omega), ?_⟩
    rw [nI_m1 (by omega)]
    exact nI_nlt (by omega) (by omega)
theorem s_at (a : Int32) : SIM (wX6_at a) (wX7_at a) := by
  intro x y Q hR h
  obtain ⟨n, r, ns, m, t, hB, hO, hQ, hU, hS, hW, hT, hP, hZ⟩ := id hR
  obtain ⟨w1, w2, w3, w4, w5⟩ := id hW
  refine x_at w1 w2 ⟨fun c => m_at w1 w3 ⟨fun _ => ?_, fun z => absurd c z⟩, fun c => m_at w1 w3 ⟨fun z => absurd z c, fun _ => h _ _ _ hR⟩⟩
  obtain ⟨j, hj, rfl⟩ := c
  have e : gA x 31 (nI j) = gA y 58 (nI j) := by
    rw [gA_n _ _ (by omega), gA_n _ _ (by omega)]
    exact (w4 j hj).1
  show Q (gA x 31 (nI j)) (gA y 58 (nI j)) x y
  rw [e]
  exact h _ _ _ hR
/-- a place of n: 0 to n - 1 -/
theorem inn_n {a : Int32} {n : Nat} (hn : n < 2 ^ 31) : inn a 0 (nI n - 1) ↔ ∃ j, j < n ∧ a = nI j := by
  refine ⟨fun c => wi_n hn c.1 c.2, fun q => ?_⟩
  obtain ⟨j, hj, rfl⟩ := q
  refine ⟨by rw [show (0 : Int32) = nI 0 from rfl]; exact nI_nlt (Nat.zero_le _) (by omega), ?_⟩
  rw [nI_m1 (by omega)]
  exact nI_nlt (by omega) (by omega)
theorem vin_sub {a : Int32} {lo k : Nat} (hlo : lo < 2 ^ 30) (hk : k < 2 ^ 30) (h : inn a (nI lo) (nI (lo + k))) : ∃ j, j ≤ k ∧ a - nI lo = nI j := by
  obtain ⟨j, h1, h2, rfl⟩ := wi_of (lo := lo) (hi := lo + k) (by omega) (by omega) h.1 h.2
  exact ⟨j - lo, by omega, pk_sub h1⟩
theorem s_about (a : Int32) : SIM (wX6_about a) (wX7_about a) := by
  intro x y Q hR h
  obtain ⟨n, r, ns, m, t, hB, hO, hQ, hU, hS, hW, hT, hP, hZ⟩ := id hR
  obtain ⟨s1, s2, s3, s4, s5, s6, s7, s8⟩ := id hS
  have key : ∀ v w, v = w → Q v w x y := fun v w e => by rw [e]; exact h _ _ _ hR
  have hM : ∀ K : Int32 → ST → Prop, (inn a 10 19 → K (gA y 44 (a - 10)) y) → (¬ inn a 10 19 → inn a 20 24 → K (gA y 45 (a - 20)) y) → (¬ inn a 10 19 → ¬ inn a 20 24 → ((a = 0 → K (gI y 22) y) ∧ (a = 1 → K (gI y 26) y) ∧ (a = 2 → K (gI y 23) y) ∧ (a = 3 → K (gI y 24) y) ∧ (a = 4 → K (gI y 25) y) ∧ (a = 5 → K (gI y 35) y) ∧ (a = 6 → K (gI y 27) y) ∧ (¬ a = 0 → ¬ a = 1 → ¬ a = 2 → ¬ a = 3 → ¬ a = 4 → ¬ a = 5 → ¬ a = 6 → K (-1) y))) → wX7_about a K y := by
    intro K k1 k2 k3
    unfold wX7_about
    rw [isIn_iff]
    rcases wi_in (a := a) (lo := 10) (hi := 19) with ⟨e, c⟩ | ⟨e, c⟩ <;> rw [e]
    · refine brF n10 ⟨?_, k1 c⟩
      obtain ⟨j, hj, e2⟩ := vin_sub (a := a) (lo := 10) (k := 9) (by omega) (by omega) c
      show vp_in (a - nI 10) 10
      rw [e2]; exact vin (by omega) (by omega)
    · refine brT rfl ?_
      rw [isIn_iff]
      rcases wi_in (a := a) (lo := 20) (hi := 24) with ⟨e2, c2⟩ | ⟨e2, c2⟩ <;> rw [e2]
      · refine brF n10 ⟨?_, k2 c c2⟩
        obtain ⟨j, hj, e3⟩ := vin_sub (a := a) (lo := 20) (k := 4) (by omega) (by omega) c2
        show vp_in (a - nI 20) 5
        rw [e3]; exact vin (by omega) (by omega)
      · exact brT rfl (k3 c c2)
  unfold wX6_about
  rw [within_iff]
  rcases wi_in (a := a) (lo := 10) (hi := 19) with ⟨e, c⟩ | ⟨e, c⟩ <;> rw [e]
  · obtain ⟨j, hj, e2⟩ := vin_sub (a := a) (lo := 10) (k := 9) (by omega) (by omega) c
    have e2 : a - 10 = nI j := e2
    refine brF n10 ⟨?_, hM _ (fun _ => key _ _ ?_) (fun z => absurd c z) (fun z => absurd c z)⟩
    · rw [e2]; exact vin (by omega) (by omega)
    · rw [e2, gA_n _ _ (by omega), gA_n _ _ (by omega)]
      exact s5 j (by omega)
  · refine brT rfl ?_
    rw [within_iff]
    rcases wi_in (a := a) (lo := 20) (hi := 24) with ⟨e2, c2⟩ | ⟨e2, c2⟩ <;> rw [e2]
    · obtain ⟨j, hj, e3⟩ := vin_sub (a := a) (lo := 20) (k := 4) (by omega) (by omega) c2
      have e3 : a - 20 = nI j := e3
      refine brF n10 ⟨?_, hM _ (fun z => absurd z c) (fun _ _ => key _ _ ?_) (fun _ z => absurd c2 z)⟩
      · rw [e3]; exact vin (by omega) (by omega)
      · rw [e3, gA_n _ _ (by omega), gA_n _ _ (by omega)]
        exact (s8 j (by omega)).1
    · refine brT rfl ⟨fun q => hM _ (fun z => absurd z c) (fun _ z => absurd z c2) (fun _ _ => ?_), fun q => hM _ (fun z => absurd z c) (fun _ z => absurd z c2) (fun _ _ => ?_), fun q => hM _ (fun z => absurd z c) (fun _ z => absurd z c2) (fun _ _ => ?_), fun q => hM _ (fun z => absurd z c) (fun _ z => absurd z c2) (fun _ _ => ?_), fun q => hM _ (fun z => absurd z c) (fun _ z => absurd z c2) (fun _ _ => ?_), fun q => hM _ (fun z => absurd z c) (fun _ z => absurd z c2) (fun _ _ => ?_), fun q => hM _ (fun z => absurd z c) (fun _ z => absurd z c2) (fun _ _ => ?_), fun q0 q1 q2 q3 q4 q5 q6 => hM _ (fun z => absurd z c) (fun _ z => absurd z c2) (fun _ _ => ?_)⟩
      · subst q; exact ⟨fun _ => key _ _ (hB.2.1.trans hB.2.2.1.symm), fun z => absurd z (by decide), fun z => absurd z (by decide), fun z => absurd z (by decide), fun z => absurd z (by decide), fun z => absurd z (by decide), fun z => absurd z (by decide), fun z => absurd rfl z⟩
      · subst q; exact ⟨fun z => absurd z (by decide), fun _ => key _ _ (s2.trans s3.symm), fun z => absurd z (by decide), fun z => absurd z (by decide), fun z => absurd z (by decide), fun z => absurd z (by decide), fun z => absurd z (by decide), fun _ z => absurd rfl z⟩
      · subst q; exact ⟨fun z => absurd z (by decide), fun z => absurd z (by decide), fun _ => key _ _ (hU.2.1.trans hU.2.2.symm), fun z => absurd z (by decide), fun z => absurd z (by decide), fun z => absurd z (by decide), fun z => absurd z (by decide), fun _ _ z => absurd rfl z⟩
      · subst q; exact ⟨fun z => absurd z (by decide), fun z => absurd z (by decide), fun z => absurd z (by decide), fun _ => key _ _ s6, fun z => absurd z (by decide), fun z => absurd z (by decide), fun z => absurd z (by decide), fun _ _ _ z => absurd rfl z⟩
      · subst q; exact ⟨fun z => absurd z (by decide), fun z => absurd z (by decide), fun z => absurd z (by decide), fun z => absurd z (by decide), fun _ => key _ _ s7, fun z => absurd z (by decide), fun z => absurd z (by decide), fun _ _ _ _ z => absurd rfl z⟩
      · subst q; exact ⟨fun z => absurd z (by decide), fun z => absurd z (by decide), fun z => absurd z (by decide), fun z => absurd z (by decide), fun z => absurd z (by decide), fun _ => key _ _ (hW.2.1.trans hW.2.2.1.symm), fun z => absurd z (by decide), fun _ _ _ _ _ z => absurd rfl z⟩
      · subst q; exact ⟨fun z => absurd z (by decide), fun z => absurd z (by decide), fun z => absurd z (by decide), fun z => absurd z (by decide), fun z => absurd z (by decide), fun z => absurd z (by decide), fun _ => key _ _ (hT.2.1.trans hT.2.2.1.symm), fun _ _ _ _ _ _ z => absurd rfl z⟩
      · exact ⟨fun z => absurd z q0, fun z => absurd z q1, fun z => absurd z q2, fun z => absurd z q3, fun z => absurd z q4, fun z => absurd z q5, fun z => absurd z q6, fun _ _ _ _ _ _ _ => key _ _ rfl⟩
