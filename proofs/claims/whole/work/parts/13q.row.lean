/-- the class's state with another row -/
def RXS (x : ST) (cn : Int32) (ro : Nat → Int32) : ST := (fun k => if k = 20 then cn else x.1 k, fun p => if p = 31 then ro else x.2.1 p, x.2.2)
theorem RXS_id (x : ST) : x = RXS x (x.1 20) (x.2.1 31) := by
  have e1 : x.1 = (RXS x (x.1 20) (x.2.1 31)).1 := by
    funext k; show _ = if k = 20 then x.1 20 else x.1 k
    by_cases c0 : k = 20
    · simp [c0]
    · skip
      simp [c0]
  have e2 : x.2.1 = (RXS x (x.1 20) (x.2.1 31)).2.1 := by
    funext p; show _ = if p = 31 then x.2.1 31 else x.2.1 p
    by_cases c0 : p = 31
    · simp [c0]
    · skip
      simp [c0]
  exact Prod.ext e1 (Prod.ext e2 rfl)
theorem RXS_20 (x : ST) (cn v : Int32) (ro : Nat → Int32) : pI (RXS x cn ro) 20 v = RXS x v ro := by
  refine Prod.ext ?_ rfl
  funext k
  show va_up (fun k => if k = 20 then cn else x.1 k) 20 v k = if k = 20 then v else x.1 k
  unfold va_up
  by_cases c : k = 20
  · simp [c]
  · simp [c]
theorem RXS_31 (x : ST) (cn v : Int32) (ro : Nat → Int32) {n : Nat} (hn : n < 2 ^ 31) : pA (RXS x cn ro) 31 (nI n) v = RXS x cn (upd ro n v) := by
  rw [pA_n _ _ hn]
  refine Prod.ext rfl (Prod.ext ?_ rfl)
  funext p
  show va_up (fun p => if p = 31 then ro else x.2.1 p) 31 (upd ro n v) p = if p = 31 then upd ro n v else x.2.1 p
  unfold va_up
  by_cases c : p = 31
  · simp [c]
  · simp [c]
theorem RXS_g31 (x : ST) (cn : Int32) (ro : Nat → Int32) {n : Nat} (hn : n < 2 ^ 31) : gA (RXS x cn ro) 31 (nI n) = ro n := by rw [gA_n _ _ hn]; rfl
/-- the reference's state with another row -/
def RMS (y : ST) (cn : Int32) (ro : Nat → Int32) : ST := (fun k => if k = 35 then cn else y.1 k, fun p => if p = 58 then ro else y.2.1 p, y.2.2)
theorem RMS_id (y : ST) : y = RMS y (y.1 35) (y.2.1 58) := by
  have e1 : y.1 = (RMS y (y.1 35) (y.2.1 58)).1 := by
    funext k; show _ = if k = 35 then y.1 35 else y.1 k
    by_cases c0 : k = 35
    · simp [c0]
    · skip
      simp [c0]
  have e2 : y.2.1 = (RMS y (y.1 35) (y.2.1 58)).2.1 := by
    funext p; show _ = if p = 58 then y.2.1 58 else y.2.1 p
    by_cases c0 : p = 58
    · simp [c0]
    · skip
      simp [c0]
  exact Prod.ext e1 (Prod.ext e2 rfl)
theorem RMS_35 (y : ST) (cn v : Int32) (ro : Nat → Int32) : pI (RMS y cn ro) 35 v = RMS y v ro := by
  refine Prod.ext ?_ rfl
  funext k
  show va_up (fun k => if k = 35 then cn else y.1 k) 35 v k = if k = 35 then v else y.1 k
  unfold va_up
  by_cases c : k = 35
  · simp [c]
  · simp [c]
theorem RMS_58 (y : ST) (cn v : Int32) (ro : Nat → Int32) {n : Nat} (hn : n < 2 ^ 31) : pA (RMS y cn ro) 58 (nI n) v = RMS y cn (upd ro n v) := by
  rw [pA_n _ _ hn]
  refine Prod.ext rfl (Prod.ext ?_ rfl)
  funext p
  show va_up (fun p => if p = 58 then ro else y.2.1 p) 58 (upd ro n v) p = if p = 58 then upd ro n v else y.2.1 p
  unfold va_up
  by_cases c : p = 58
  · simp [c]
  · simp [c]
theorem RMS_g58 (y : ST) (cn : Int32) (ro : Nat → Int32) {n : Nat} (hn : n < 2 ^ 31) : gA (RMS y cn ro) 58 (nI n) = ro n := by rw [gA_n _ _ hn]; rfl
theorem rowF_succ (o : Nat → Nat) (sh : Nat → Int32) (i : Nat) : rowF o sh (i + 1) = if sh (o i) = -1 then rowF o sh i else ((rowF o sh i).1 + 1, fun j => if j = (rowF o sh i).1 then o i else (rowF o sh i).2 j) := rfl
theorem rowF_le (o : Nat → Nat) (sh : Nat → Int32) : ∀ i, (rowF o sh i).1 ≤ i
  | 0 => Nat.le_refl 0
  | i + 1 => by
    have := rowF_le o sh i
    rw [rowF_succ]
    split
    · omega
    · show (rowF o sh i).1 + 1 ≤ i + 1; omega
theorem rowF_from (o : Nat → Nat) (sh : Nat → Int32) : ∀ i j, j < (rowF o sh i).1 → ∃ k, k < i ∧ (rowF o sh i).2 j = o k
  | 0, j, h => absurd h (Nat.not_lt_zero j)
  | i + 1, j, h => by
    have ih := rowF_from o sh i j
    rw [rowF_succ] at h ⊢
    generalize rowF o sh i = P at ih h
    by_cases c : sh (o i) = -1
    · rw [if_pos c] at h ⊢
      obtain ⟨k, h1, h2⟩ := ih h
      exact ⟨k, by omega, h2⟩
    · rw [if_neg c] at h ⊢
      have h : j < P.1 + 1 := h
      show ∃ k, k < i + 1 ∧ (if j = P.1 then o i else P.2 j) = o k
      by_cases z : j = P.1
      · exact ⟨i, by omega, if_pos z⟩
      · obtain ⟨k, h1, h2⟩ := ih (by omega)
        exact ⟨k, by omega, by rw [if_neg z]; exact h2⟩
theorem rowF_inj (o : Nat → Nat) (sh : Nat → Int32) {n : Nat} (ho : ∀ i j, i < n → j < n → o i = o j → i = j) : ∀ i, i ≤ n → ∀ a b, a < (rowF o sh i).1 → b < (rowF o sh i).1 → (rowF o sh i).2 a = (rowF o sh i).2 b → a = b
  | 0, _, a, b, h, _, _ => absurd h (Nat.not_lt_zero a)
  | i + 1, hi, a, b, h1, h2, e => by
    have ih := rowF_inj o sh ho i (by omega) a b
    have hf := rowF_from o sh i
    rw [rowF_succ] at h1 h2 e
    generalize rowF o sh i = P at ih h1 h2 e hf
    by_cases c : sh (o i) = -1
    · rw [if_pos c] at h1 h2 e
      exact ih h1 h2 e
    · rw [if_neg c] at h1 h2 e
      have h1 : a < P.1 + 1 := h1
      have h2 : b < P.1 + 1 := h2
      have e : (if a = P.1 then o i else P.2 a) = if b = P.1 then o i else P.2 b := e
      by_cases z1 : a = P.1 <;> by_cases z2 : b = P.1
      · omega
      · rw [if_pos z1, if_neg z2] at e
        obtain ⟨k, k1, k2⟩ := hf b (by omega)
        have := ho i k (by omega) (by omega) (e.trans k2)
        omega
      · rw [if_neg z1, if_pos z2] at e
        obtain ⟨k, k1, k2⟩ := hf a (by omega)
        have := ho i k (by omega) (by omega) (e.symm.trans k2)
        omega
      · rw [if_neg z1, if_neg z2] at e
        exact ih (by omega) (by omega) e
theorem row_step {o : Nat → Nat} {i : Nat} {P : Nat × (Nat → Nat)} {ro : Nat → Int32} (h : ∀ j, j < P.1 → ro j = nI (P.2 j)) : ∀ j, j < P.1 + 1 → upd ro P.1 (nI (o i)) j = nI (if j = P.1 then o i else P.2 j) := by
  intro j hj
  unfold upd
  by_cases z : j = P.1
  · rw [if_pos z, if_pos z]
  · rw [if_neg z, if_neg z]; exact h j (by omega)
theorem fill_x {n r : Nat} {K : ST → Prop} {x : ST} {o : Nat → Nat} {sh : Nat → Int32} (hn : n ≤ 60) (hr : r < 2) (ho : ∀ k, k < n → x.2.1 (9 + r) k = nI (o k) ∧ o k < n) (hsh : ∀ b, b < n → x.2.1 20 b = sh b)
    (h : ∀ ro, (∀ j, j < (rowF o sh n).1 → ro j = nI ((rowF o sh n).2 j)) → K (RXS x (nI (rowF o sh n).1) ro)) : wX3_fill r (nI n) K x := by
  unfold wX3_fill
  intro x1 e1
  have e3 : x1 = RXS x (nI 0) (x.2.1 31) := by
    rw [e1]
    conv => lhs; rw [RXS_id x]
    rw [RXS_20]
    rfl
  rw [e3]
  clear e1 e3
  refine it1 (I := fun mm v4 x2 => ∃ i c ro, v4 = nI i ∧ i ≤ n ∧ mm = n - i ∧ x2 = RXS x (nI c) ro ∧ c = (rowF o sh i).1 ∧ c ≤ i ∧ ∀ j, j < c → ro j = nI ((rowF o sh i).2 j)) ?_ (m := n) ⟨0, 0, _, rfl, Nat.zero_le _, rfl, rfl, rfl, Nat.le_refl _, fun j hj => absurd hj (Nat.not_lt_zero j)⟩
  rintro mm v4 x2 G ⟨i, c, ro, rfl, hi, hmm, rfl, q1, q2, q3⟩ hG
  unfold FX3_fill_8
  rw [nI_leI (by omega) (by omega)]
  by_cases c1 : n ≤ i
  · refine brT c1 ?_
    rw [show i = n by omega] at q1 q3
    rw [q1] at q3 ⊢
    exact h ro q3
  · obtain ⟨o1, o2⟩ := ho i (by omega)
    have o3 : gA (RXS x (nI c) ro) (9 + r) (nI i) = nI (o i) := by
      rw [gA_n _ _ (by omega), ← o1]
      match r, hr with
      | 0, _ => rfl
      | 1, _ => rfl
    have o4 : gA (RXS x (nI c) ro) 20 (nI (o i)) = sh (o i) := by rw [gA_n _ _ (by omega)]; exact hsh _ o2
    rw [o3, o4, show gI (RXS x (nI c) ro) 20 = nI c from rfl]
    have hstep := rowF_succ o sh i
    generalize rowF o sh i = P at q1 q3 hstep
    refine brF c1 ⟨vin (by omega) (by omega), vin (by omega) (by omega), ?_⟩
    by_cases c2 : sh (o i) = -1
    · refine brT c2 ?_
      intro v ev
      rw [nI_1] at ev
      subst ev
      rw [if_pos c2] at hstep
      exact hG (n - (i + 1)) _ _ (by omega) ⟨i + 1, c, ro, rfl, by omega, rfl, rfl, by rw [hstep]; exact q1, by omega, by rw [hstep]; exact q3⟩
    · refine brF c2 ?_
      refine ⟨vin (by omega) (by omega), fun x7 e7 x8 e8 v ev => ?_⟩
      rw [RXS_31 _ _ _ _ (by omega)] at e7
      rw [e7, RXS_20, show gI (RXS x (nI c) (upd ro c (nI (o i)))) 20 = nI c from rfl, nI_1] at e8
      rw [nI_1] at ev
      clear e7
      subst e8 ev
      rw [if_neg c2] at hstep
      refine hG (n - (i + 1)) _ _ (by omega) ⟨i + 1, c + 1, _, rfl, by omega, rfl, rfl, by rw [hstep, q1], by omega, ?_⟩
      rw [hstep, q1]
      rw [q1] at q3
      exact row_step q3
theorem fill_m {n : Nat} {K : Int32 → ST → Prop} {y : ST} {o : Nat → Nat} {sh : Nat → Int32} (hn : n ≤ 60) (hy22 : y.1 22 = nI n) (ho : ∀ k, k < n → y.2.1 47 k = nI (o k) ∧ o k < n) (hsh : ∀ b, b < n → y.2.1 48 b = sh b) (hs2 : ∀ b, sh b = -1 ∨ 0 ≤ sh b)
    (h : ∀ ro, (∀ j, j < (rowF o sh n).1 → ro j = nI ((rowF o sh n).2 j)) → K (nI (rowF o sh n).1) (RMS y (nI (rowF o sh n).1) ro)) {ro0 : Nat → Int32} : ∃ m, it (fun (_ : Int32) (_ : ST) => False) (FX7_row_11 K) m 0 (RMS y (nI 0) ro0) := by
  refine it1 (I := fun mm v4 x2 => ∃ i c ro, v4 = nI i ∧ i ≤ n ∧ mm = n - i ∧ x2 = RMS y (nI c) ro ∧ c = (rowF o sh i).1 ∧ c ≤ i ∧ ∀ j, j < c → ro j = nI ((rowF o sh i).2 j)) ?_ (m := n) ⟨0, 0, _, rfl, Nat.zero_le _, rfl, rfl, rfl, Nat.le_refl _, fun j hj => absurd hj (Nat.not_lt_zero j)⟩
  rintro mm v4 x2 G ⟨i, c, ro, rfl, hi, hmm, rfl, q1, q2, q3⟩ hG
  unfold FX7_row_11
  rw [show gI (RMS y (nI c) ro) 22 = nI n from hy22]
  rw [nI_leI (by omega) (by omega)]
  by_cases c1 : n ≤ i
  · refine brT c1 ?_
    rw [show i = n by omega] at q1 q3
    rw [show gI (RMS y (nI c) ro) 35 = nI c from rfl]
    rw [q1] at q3 ⊢
    exact h ro q3
  · obtain ⟨o1, o2⟩ := ho i (by omega)
    have o3 : gA (RMS y (nI c) ro) 47 (nI i) = nI (o i) := by rw [gA_n _ _ (by omega)]; exact o1
    have o4 : gA (RMS y (nI c) ro) 48 (nI (o i)) = sh (o i) := by rw [gA_n _ _ (by omega)]; exact hsh _ o2
    rw [o3, o4, show gI (RMS y (nI c) ro) 35 = nI c from rfl]
    have hstep := rowF_succ o sh i
    generalize rowF o sh i = P at q1 q3 hstep
    refine brF c1 ⟨vin (by omega) (by omega), vin (by omega) (by omega), ?_⟩
    by_cases c2 : sh (o i) = -1
    · refine brF (by rw [c2]; decide) ?_
      intro v ev
      rw [nI_1] at ev
      subst ev
      rw [if_pos c2] at hstep
      exact hG (n - (i + 1)) _ _ (by omega) ⟨i + 1, c, ro, rfl, by omega, rfl, rfl, by rw [hstep]; exact q1, by omega, by rw [hstep]; exact q3⟩
    · refine brT ((hs2 (o i)).resolve_left c2) ?_
      refine ⟨vin (by omega) (by omega), fun x7 e7 x8 e8 v ev => ?_⟩
      rw [RMS_58 _ _ _ _ (by omega)] at e7
      rw [e7, RMS_35, show gI (RMS y (nI c) (upd ro c (nI (o i)))) 35 = nI c from rfl, nI_1] at e8
      rw [nI_1] at ev
      clear e7
      subst e8 ev
      rw [if_neg c2] at hstep
      refine hG (n - (i + 1)) _ _ (by omega) ⟨i + 1, c + 1, _, rfl, by omega, rfl, rfl, by rw [hstep, q1], by omega, ?_⟩
      rw [hstep, q1]
      rw [q1] at q3
      exact row_step q3
theorem s_row : SIM wX6_row wX7_row := by
  intro x y Q hR h
  obtain ⟨n, r, ns, m, t, hRR⟩ := id hR
  have hn := hRR.1.1
  unfold wX6_row
  refine plans_x hRR (fun x' hR' hP => ?_)
  obtain ⟨hB, hO, hQ, hU, hS, hW, hT, hPl, hZ⟩ := id hR'
  rw [show gI x' 0 = nI r from hU.2.1, show gI x' 10 = nI n from hB.2.1, nI_clamp (by have := hU.1; omega)]
  refine ⟨vin hU.1 (by omega), ?_⟩
  refine fill_x (o := ordX n r x') (sh := (layX n r ns x').2.2.2.1) hn hU.1 (fun k hk => ⟨hO.at hU.1 k hk, ordX_lt hk⟩) (fun b hb => (hP.1.2.2.1 b hb).1) (fun ro hro x4 e4 => ?_)
  unfold wX7_row
  refine lay_m hR' (fun y' hR2 hM y2 e2 => ?_)
  have e3 : y2 = RMS y' (nI 0) (y'.2.1 58) := by
    rw [e2]
    conv => lhs; rw [RMS_id y']
    rw [RMS_35]
    rfl
  rw [e3]
  have hle := rowF_le (ordX n r x') (layX n r ns x').2.2.2.1 n
  have hfrom := rowF_from (ordX n r x') (layX n r ns x').2.2.2.1 n
  have hinj := rowF_inj (ordX n r x') (layX n r ns x').2.2.2.1 (ordF_inj (ltK (x'.2.2 (6 + r))) n) n (Nat.le_refl _)
  refine fill_m (o := ordX n r x') (sh := (layX n r ns x').2.2.2.1) hn hR2.1.2.2.1 (fun k hk => ⟨hM.2.2.2.2 k hk, ordX_lt hk⟩) (fun b hb => (hM.2.2.1 b hb).1) (fun b => ?_) (fun ro2 hro2 => ?_)
  · rcases layF_sh (ordX n r x') (x'.2.1 13) (nds x') (x'.2.1 16) ns (x'.1 13) n b with ⟨p1, p2⟩ | ⟨g, p1, p2⟩
    · exact Or.inl p1
    · have p2 : (layX n r ns x').2.2.2.1 b = nI g := p2
      have := hS.1
      exact Or.inr (by rw [p2]; exact nneg (by omega))
  · subst e4
    have hrow : ∀ j, j < (rowF (ordX n r x') (layX n r ns x').2.2.2.1 n).1 → ∃ b, b < n ∧ (rowF (ordX n r x') (layX n r ns x').2.2.2.1 n).2 j = b := fun j hj => by
      obtain ⟨k, k1, k2⟩ := hfrom j hj
      exact ⟨_, ordX_lt k1, k2⟩
    refine h _ _ _ ⟨n, r, ns, (rowF (ordX n r x') (layX n r ns x').2.2.2.1 n).1, t, hR2.1, hO, hQ, hR2.2.2.2.1, hR2.2.2.2.2.1, ⟨by omega, rfl, rfl, fun j hj => ⟨?_, ?_⟩, fun i j hi hj e => ?_⟩, hR2.2.2.2.2.2.2.1, hPl, Or.inl rfl⟩
    · exact (hro j hj).trans (hro2 j hj).symm
    · obtain ⟨b, b1, b2⟩ := hrow j hj
      exact ⟨b, b1, (hro j hj).trans (by rw [b2])⟩
    · obtain ⟨b, b1, b2⟩ := hrow i hi
      obtain ⟨c, c1, c2⟩ := hrow j hj
      refine hinj i j hi hj ?_
      have e : nI _ = nI _ := (hro i hi).symm.trans (e.trans (hro j hj))
      exact (nI_eq (by omega) (by omega)).mp e
