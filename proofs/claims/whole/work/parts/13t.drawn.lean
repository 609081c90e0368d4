/-- the class's state with other places -/
def DXS (x : ST) (pe : Nat → Int32) : ST := (fun k => x.1 k, fun p => if p = 34 then pe else x.2.1 p, x.2.2)
theorem DXS_id (x : ST) : x = DXS x (x.2.1 34) := by
  have e1 : x.1 = (DXS x (x.2.1 34)).1 := rfl
  have e2 : x.2.1 = (DXS x (x.2.1 34)).2.1 := by
    funext p; show _ = if p = 34 then x.2.1 34 else x.2.1 p
    by_cases c0 : p = 34
    · simp [c0]
    · skip
      simp [c0]
  exact Prod.ext e1 (Prod.ext e2 rfl)
theorem DXS_34 (x : ST) (v : Int32) (pe : Nat → Int32) {n : Nat} (hn : n < 2 ^ 31) : pA (DXS x pe) 34 (nI n) v = DXS x (upd pe n v) := by
  rw [pA_n _ _ hn]
  refine Prod.ext rfl (Prod.ext ?_ rfl)
  funext p
  show va_up (fun p => if p = 34 then pe else x.2.1 p) 34 (upd pe n v) p = if p = 34 then upd pe n v else x.2.1 p
  unfold va_up
  by_cases c : p = 34
  · simp [c]
  · simp [c]
theorem DXS_g34 (x : ST) (pe : Nat → Int32) {n : Nat} (hn : n < 2 ^ 31) : gA (DXS x pe) 34 (nI n) = pe n := by rw [gA_n _ _ hn]; rfl
/-- the reference's state with another lot -/
def DMS (y : ST) (pe : Nat → Int32) : ST := (fun k => y.1 k, fun p => if p = 61 then pe else y.2.1 p, y.2.2)
theorem DMS_id (y : ST) : y = DMS y (y.2.1 61) := by
  have e1 : y.1 = (DMS y (y.2.1 61)).1 := rfl
  have e2 : y.2.1 = (DMS y (y.2.1 61)).2.1 := by
    funext p; show _ = if p = 61 then y.2.1 61 else y.2.1 p
    by_cases c0 : p = 61
    · simp [c0]
    · skip
      simp [c0]
  exact Prod.ext e1 (Prod.ext e2 rfl)
theorem DMS_61 (y : ST) (v : Int32) (pe : Nat → Int32) {n : Nat} (hn : n < 2 ^ 31) : pA (DMS y pe) 61 (nI n) v = DMS y (upd pe n v) := by
  rw [pA_n _ _ hn]
  refine Prod.ext rfl (Prod.ext ?_ rfl)
  funext p
  show va_up (fun p => if p = 61 then pe else y.2.1 p) 61 (upd pe n v) p = if p = 61 then upd pe n v else y.2.1 p
  unfold va_up
  by_cases c : p = 61
  · simp [c]
  · simp [c]
theorem DMS_g61 (y : ST) (pe : Nat → Int32) {n : Nat} (hn : n < 2 ^ 31) : gA (DMS y pe) 61 (nI n) = pe n := by rw [gA_n _ _ hn]; rfl
theorem u16_ex (s : Int32) : ∃ U, U < 65536 ∧ (s.toUInt32 >>> (((16 : Int32)).toUInt32 &&& Int32.toUInt32 31)).toInt32 = nI U := by
  have h : (s.toUInt32 >>> (((16 : Int32)).toUInt32 &&& Int32.toUInt32 31)).toInt32.toBitVec = s.toUInt32.toBitVec >>> 16 := by
    show (s.toUInt32 >>> (((nI 16)).toUInt32 &&& Int32.toUInt32 31)).toBitVec = _
    rw [UInt32.toBitVec_shiftRight]
    show s.toUInt32.toBitVec >>> (((nI 16).toUInt32 &&& Int32.toUInt32 31).toBitVec % 32).toNat = _
    rw [s_u 16 (by omega)]
  refine ⟨(s.toUInt32.toBitVec >>> 16).toNat, ?_, Int32.toBitVec_inj.mp ?_⟩
  · rw [BitVec.toNat_ushiftRight, Nat.shiftRight_eq_div_pow]
    have := s.toUInt32.toBitVec.isLt
    omega
  · rw [h]
    show _ = BitVec.ofNat 32 _
    refine BitVec.eq_of_toNat_eq ?_
    rw [BitVec.toNat_ofNat]
    exact (Nat.mod_eq_of_lt (BitVec.isLt _)).symm
noncomputable def u16 (s : Int32) : Nat := (u16_ex s).choose
theorem u16_lt (s : Int32) : u16 s < 65536 := (u16_ex s).choose_spec.1
theorem u16_eq (s : Int32) : (s.toUInt32 >>> (((16 : Int32)).toUInt32 &&& Int32.toUInt32 31)).toInt32 = nI (u16 s) := (u16_ex s).choose_spec.2
theorem nI_mul (a b : Nat) : nI a * nI b = nI (a * b) := (Int32.ofNat_mul a b).symm
theorem nI_div {a b : Nat} (ha : a < 2 ^ 31) (hb : b < 2 ^ 31) : nI a / nI b = nI (a / b) := by
  have h1 : a / b ≤ a := Nat.div_le_self a b
  refine i32_ofN ?_ (by omega)
  rw [Int32.toInt_div, nI_toI ha, nI_toI hb, ← Int.ofNat_tdiv]
  generalize a / b = q at h1 ⊢
  rw [Int.bmod_eq_of_le (by omega) (by omega)]
theorem nI_mod {a b : Nat} (ha : a < 2 ^ 31) (hb : b < 2 ^ 31) : nI a - nI a / nI b * nI b = nI (a % b) := by
  have h := Nat.div_add_mod a b
  rw [nI_div ha hb, nI_mul, pk_sub (by rw [Nat.mul_comm]; omega)]
  rw [Nat.mul_comm (a / b) b]
  rw [show a - b * (a / b) = a % b by omega]
/-- drawing by lot -/
def drN (s : Int32) : Int32 := s * 1103515245 + 12345
noncomputable def drQ (m1 i : Nat) (s : Int32) : Nat := i + u16 (drN s) % (m1 - i)
noncomputable def drS (m1 : Nat) (c : Nat → Nat → Int32) (row : Nat → Nat) (i : Nat) (s : Int32 × Nat × (Nat → Nat)) : Int32 × Nat × (Nat → Nat) :=
  (drN s.1, s.2.1 + (if c (row (s.2.2 (drQ m1 i s.1))) (row (s.2.2 (drQ m1 i s.1) + 1)) ≤ 0 then 0 else 1), fun j => if j = i then s.2.2 (drQ m1 i s.1) else if j = drQ m1 i s.1 then s.2.2 i else s.2.2 j)
noncomputable def drF (m1 : Nat) (c : Nat → Nat → Int32) (row : Nat → Nat) (seed : Int32) : Nat → Int32 × Nat × (Nat → Nat)
  | 0 => (seed, 0, fun j => j)
  | i + 1 => drS m1 c row i (drF m1 c row seed i)
theorem drF_succ (m1 : Nat) (c : Nat → Nat → Int32) (row : Nat → Nat) (seed : Int32) (i : Nat) : drF m1 c row seed (i + 1) = drS m1 c row i (drF m1 c row seed i) := rfl
theorem drQ_lt {m1 i : Nat} (s : Int32) (h : i < m1) : i ≤ drQ m1 i s ∧ drQ m1 i s < m1 := by
  have := Nat.mod_lt (u16 (drN s)) (show m1 - i > 0 by omega)
  unfold drQ
  omega
theorem drQ_eq {m1 i : Nat} {s s2 : Int32} (h2 : s2 = s * 1103515245 + 12345) (hm : m1 ≤ 60) (h : i < m1) : nI i + ((s2.toUInt32 >>> (((16 : Int32)).toUInt32 &&& Int32.toUInt32 31)).toInt32 - (s2.toUInt32 >>> (((16 : Int32)).toUInt32 &&& Int32.toUInt32 31)).toInt32 / (nI m1 - nI i) * (nI m1 - nI i)) = nI (drQ m1 i s) := by
  have hu := u16_lt s2
  rw [u16_eq, pk_sub (by omega), nI_mod (by omega) (by omega), nI_add]
  unfold drQ drN
  rw [← h2]
/-- the places, as a program keeps them -/
def DrI (m1 : Nat) (p : Nat → Nat) (pe : Nat → Int32) : Prop := ∀ j, j < m1 → pe j = nI (p j) ∧ p j < m1
theorem drI_0 {m1 : Nat} {pe : Nat → Int32} (h : ∀ j, j < m1 → pe j = nI j) : DrI m1 (fun j => j) pe := fun j hj => ⟨h j hj, hj⟩
theorem drI_step {m1 i q : Nat} {p : Nat → Nat} {pe pe' : Nat → Int32} (h : DrI m1 p pe) (hi : i < m1) (hq : q < m1) (he : ∀ j, pe' j = if j = i then pe q else if j = q then pe i else pe j) : DrI m1 (fun j => if j = i then p q else if j = q then p i else p j) pe' := by
  intro j hj
  rw [he]
  show _ = nI (if j = i then p q else if j = q then p i else p j) ∧ (if j = i then p q else if j = q then p i else p j) < m1
  by_cases c : j = i
  · rw [if_pos c, if_pos c]; exact h q hq
  · rw [if_neg c, if_neg c]
    by_cases c2 : j = q
    · rw [if_pos c2, if_pos c2]; exact h i hi
    · rw [if_neg c2, if_neg c2]; exact h j hj
theorem draw_x {m1 r A : Nat} {a2 : Int32} {K : Int32 → ST → Prop} {x : ST} {row : Nat → Nat} (hm : m1 < 60) (hr : r < 2) (hA : A ≤ m1) (hx20 : gI x 20 - 1 = nI m1) (hrow : ∀ j, j < m1 + 1 → x.2.1 31 j = nI (row j) ∧ row j < 60)
    (h : ∀ pe, K (nI (drF m1 (cK (x.2.2 (6 + r))) row a2 A).2.1) (DXS x pe)) : wX3_draw (nI A) a2 (nI r) K x := by
  unfold wX3_draw
  intro v5 e5
  rw [hx20] at e5
  subst e5
  refine it1 (I := fun mm v6 x2 => ∃ i pe, v6 = nI i ∧ i ≤ m1 ∧ mm = m1 - i ∧ x2 = DXS x pe ∧ ∀ j, j < i → pe j = nI j) ?_ (m := m1) ⟨0, x.2.1 34, rfl, Nat.zero_le _, rfl, DXS_id x, fun j hj => absurd hj (Nat.not_lt_zero j)⟩
  rintro mm v6 x2 G ⟨i, pe, rfl, hi, hmm, rfl, hp⟩ hG
  unfold FX3_draw_11
  rw [nI_leI (by omega) (by omega)]
  by_cases c : m1 ≤ i
  · refine brT c ?_
    clear hG
    refine it3 (I := fun mm v6 v7 v8 x2 => ∃ i pe, v6 = (drF m1 (cK (x.2.2 (6 + r))) row a2 i).1 ∧ v7 = nI (drF m1 (cK (x.2.2 (6 + r))) row a2 i).2.1 ∧ v8 = nI i ∧ i ≤ A ∧ mm = A - i ∧ x2 = DXS x pe ∧ DrI m1 (drF m1 (cK (x.2.2 (6 + r))) row a2 i).2.2 pe) ?_ (m := A) ⟨0, pe, rfl, rfl, rfl, Nat.zero_le _, rfl, rfl, drI_0 (fun j hj => hp j (by omega))⟩
    clear hp hmm c hi
    rintro mm v6 v7 v8 x2 G ⟨i, pe, q1, q2, rfl, hi, hmm, rfl, hI⟩ hG
    unfold FX3_draw_42
    rw [nI_leI (by omega) (by omega), nI_leI (by omega) (by omega)]
    by_cases c1 : A ≤ i
    · refine brT c1 ?_
      rw [q2, show i = A by omega]
      exact h pe
    · refine brF c1 (brF (by omega) (fun v6' e6 => ⟨by rw [pk_sub (by omega), show (0 : Int32) = nI 0 from rfl, nI_eq (by omega) (by omega)]; omega, fun v9 e9 => ?_⟩))
      rw [drQ_eq e6 (by omega) (by omega)] at e9
      have hs := drF_succ m1 (cK (x.2.2 (6 + r))) row a2 i
      unfold drS at hs
      rw [← q1] at hs
      obtain ⟨l1, l2⟩ := drQ_lt v6 (show i < m1 by omega)
      generalize drQ m1 i v6 = q at e9 hs l1 l2
      subst e9
      generalize drF m1 (cK (x.2.2 (6 + r))) row a2 i = S at q1 q2 hI hs
      obtain ⟨p1, p2⟩ := hI q l2
      refine ⟨vin (by omega) (by omega), fun v10 e10 => ?_⟩
      rw [DXS_g34 _ _ (by omega), p1] at e10
      subst e10
      refine ⟨vin (by omega) (by omega), fun x9 e9 x10 e10 => ?_⟩
      rw [DXS_g34 _ _ (by omega), DXS_34 _ _ _ (by omega)] at e9
      rw [e9, DXS_34 _ _ _ (by omega)] at e10
      clear e9
      subst e10
      rw [nI_1, gA_n _ 31 (by omega), gA_n _ 31 (by omega)]
      refine ⟨vin (by omega) (by omega), vin (by omega) (by omega), ?_⟩
      obtain ⟨r1, r2⟩ := hrow (S.2.2 q) (by omega)
      obtain ⟨r3, r4⟩ := hrow (S.2.2 q + 1) (by omega)
      rw [show (DXS x (upd (upd pe q (pe i)) i (nI (S.2.2 q)))).2.1 31 = x.2.1 31 from rfl, r1, r3]
      have hI2 : DrI m1 (fun j => if j = i then S.2.2 q else if j = q then S.2.2 i else S.2.2 j) (upd (upd pe q (pe i)) i (nI (S.2.2 q))) := drI_step hI (by omega) l2 (fun j => by
        unfold upd
        by_cases z : j = i
        · rw [if_pos z, if_pos z, p1]
        · rw [if_neg z, if_neg z])
      refine sg_x r2 r4 hr ⟨fun c3 v ev => ?_, fun c3 v7' e7 v ev => ?_⟩
      · have c3 : cK (x.2.2 (6 + r)) (row (S.2.2 q)) (row (S.2.2 q + 1)) ≤ 0 := c3
        rw [nI_1] at ev
        subst ev
        rw [if_pos c3] at hs
        refine hG (A - (i + 1)) _ _ _ _ (by omega) ⟨i + 1, _, by rw [hs, e6]; rfl, by rw [hs]; exact q2, rfl, by omega, rfl, rfl, by rw [hs]; exact hI2⟩
      · have c3 : ¬ cK (x.2.2 (6 + r)) (row (S.2.2 q)) (row (S.2.2 q + 1)) ≤ 0 := c3
        rw [nI_1] at ev
        rw [q2, nI_1] at e7
        subst ev
        rw [if_neg c3] at hs
        refine hG (A - (i + 1)) _ _ _ _ (by omega) ⟨i + 1, _, by rw [hs, e6]; rfl, by rw [hs]; exact e7, rfl, by omega, rfl, rfl, by rw [hs]; exact hI2⟩
  · refine brF c ⟨vin (by omega) (by omega), fun x3 e3 v ev => ?_⟩
    rw [DXS_34 _ _ _ (by omega)] at e3
    rw [nI_1] at ev
    subst e3 ev
    refine hG (m1 - (i + 1)) _ _ (by omega) ⟨i + 1, _, rfl, by omega, rfl, rfl, fun j hj => ?_⟩
    unfold upd
    by_cases z : j = i
    · rw [if_pos z, z]
    · rw [if_neg z]; exact hp j (by omega)
theorem draw_m {m1 r A : Nat} {a2 a3 : Int32} {K : Int32 → ST → Prop} {y : ST} {row : Nat → Nat} {k : Nat → Nat → Int64} (hm : m1 < 60) (hr : r < 2) (hA : A ≤ m1) (hy23 : y.1 23 = nI r) (hrow : ∀ j, j < m1 + 1 → y.2.1 58 j = nI (row j) ∧ row j < 60)
    (hk : ∀ j, j < m1 + 1 → KeyOK (k 0 (row j)) (k 1 (row j)) (y.2.1 36 (row j)) (y.2.1 37 (row j)) (y.2.1 38 (row j)) (y.2.1 39 (row j)))
    (h : ∀ pe, ((¬ a3 = 2 → K (nI (drF m1 (cK (k r)) row a2 A).2.1) (DMS y pe)) ∧ (a3 = 2 → K ((nI (drF m1 (cK (k r)) row a2 A).2.1 + nI m1) - nI A) (DMS y pe)))) : ∃ n, it (fun (_ : Int32) (_ : ST) => False) (FX7_drawn_35 (nI A) a3 K (nI m1) a2) n 0 y := by
  refine it1 (I := fun mm v6 x2 => ∃ i pe, v6 = nI i ∧ i ≤ m1 ∧ mm = m1 - i ∧ x2 = DMS y pe ∧ ∀ j, j < i → pe j = nI j) ?_ (m := m1) ⟨0, y.2.1 61, rfl, Nat.zero_le _, rfl, DMS_id y, fun j hj => absurd hj (Nat.not_lt_zero j)⟩
  rintro mm v6 x2 G ⟨i, pe, rfl, hi, hmm, rfl, hp⟩ hG
  unfold FX7_drawn_35
  rw [nI_leI (by omega) (by omega)]
  by_cases c : m1 ≤ i
  · refine brT c ?_
    clear hG
    refine it3 (I := fun mm v6 v7 v8 x2 => ∃ i pe, v6 = (drF m1 (cK (k r)) row a2 i).1 ∧ v7 = nI (drF m1 (cK (k r)) row a2 i).2.1 ∧ v8 = nI i ∧ i ≤ A ∧ mm = A - i ∧ x2 = DMS y pe ∧ DrI m1 (drF m1 (cK (k r)) row a2 i).2.2 pe) ?_ (m := A) ⟨0, pe, rfl, rfl, rfl, Nat.zero_le _, rfl, rfl, drI_0 (fun j hj => hp j (by omega))⟩
    clear hp hmm c hi
    rintro mm v6 v7 v8 x2 G ⟨i, pe, q1, q2, rfl, hi, hmm, rfl, hI⟩ hG
    unfold FX7_drawn_63
    rw [nI_leI (by omega) (by omega)]
    by_cases c1 : A ≤ i
    · refine brT c1 ?_
      rw [q2, show i = A by omega]
      exact h pe
    · refine brF c1 (fun v6' e6 => ⟨by rw [pk_sub (by omega), show (0 : Int32) = nI 0 from rfl, nI_eq (by omega) (by omega)]; omega, fun v9 e9 => ?_⟩)
      rw [drQ_eq e6 (by omega) (by omega)] at e9
      have hs := drF_succ m1 (cK (k r)) row a2 i
      unfold drS at hs
      rw [← q1] at hs
      obtain ⟨l1, l2⟩ := drQ_lt v6 (show i < m1 by omega)
      generalize drQ m1 i v6 = q at e9 hs l1 l2
      subst e9
      generalize drF m1 (cK (k r)) row a2 i = S at q1 q2 hI hs
      obtain ⟨p1, p2⟩ := hI q l2
      refine ⟨vin (by omega) (by omega), fun v10 e10 => ⟨vin (by omega) (by omega), fun x9 e9 x10 e11 => ?_⟩⟩
      rw [DMS_g61 _ _ (by omega)] at e10
      rw [DMS_g61 _ _ (by omega), DMS_61 _ _ _ (by omega)] at e9
      rw [e9, DMS_61 _ _ _ (by omega), e10] at e11
      clear e9 e10
      subst e11
      have f1 : gA (DMS y (upd (upd pe i (pe q)) q (pe i))) 61 (nI i) = nI (S.2.2 q) := by
        rw [DMS_g61 _ _ (by omega)]
        unfold upd
        by_cases z : i = q
        · rw [if_pos z, z, p1]
        · rw [if_neg z, if_pos rfl, p1]
      rw [f1, nI_1, gA_n _ 58 (by omega), gA_n _ 58 (by omega), show gI (DMS y (upd (upd pe i (pe q)) q (pe i))) 23 = nI r from hy23]
      refine ⟨vin (by omega) (by omega), vin (by omega) (by omega), ?_⟩
      obtain ⟨r1, r2⟩ := hrow (S.2.2 q) (by omega)
      obtain ⟨r3, r4⟩ := hrow (S.2.2 q + 1) (by omega)
      rw [show (DMS y (upd (upd pe i (pe q)) q (pe i))).2.1 58 = y.2.1 58 from rfl, r1, r3]
      have hI2 : DrI m1 (fun j => if j = i then S.2.2 q else if j = q then S.2.2 i else S.2.2 j) (upd (upd pe i (pe q)) q (pe i)) := drI_step hI (by omega) l2 (fun j => by
        unfold upd
        by_cases z : j = i
        · rw [if_pos z]
          by_cases z2 : j = q
          · rw [if_pos z2, ← z2, ← z, if_pos rfl]
          · rw [if_neg z2, if_pos z]
        · rw [if_neg z, if_neg z])
      refine ag_y (k := k) r2 r4 hr (hk _ (by omega)) (hk _ (by omega)) ⟨fun c3 v7' e7 v ev => ?_, fun c3 v7' e7 v ev => ?_⟩
      · rw [nI_1] at ev
        rw [q2, show (0 : Int32) = nI 0 from rfl, nI_add] at e7
        subst ev
        rw [if_pos c3] at hs
        refine hG (A - (i + 1)) _ _ _ _ (by omega) ⟨i + 1, _, by rw [hs, e6]; rfl, by rw [hs]; exact e7, rfl, by omega, rfl, rfl, by rw [hs]; exact hI2⟩
      · have c3 : ¬ cK (k r) (row (S.2.2 q)) (row (S.2.2 q + 1)) ≤ 0 := c3
        rw [nI_1] at ev
        rw [q2, nI_1] at e7
        subst ev
        rw [if_neg c3] at hs
        refine hG (A - (i + 1)) _ _ _ _ (by omega) ⟨i + 1, _, by rw [hs, e6]; rfl, by rw [hs]; exact e7, rfl, by omega, rfl, rfl, by rw [hs]; exact hI2⟩
  · refine brF c ⟨vin (by omega) (by omega), fun x3 e3 v ev => ?_⟩
    rw [DMS_61 _ _ _ (by omega)] at e3
    rw [nI_1] at ev
    subst e3 ev
    refine hG (m1 - (i + 1)) _ _ (by omega) ⟨i + 1, _, rfl, by omega, rfl, rfl, fun j hj => ?_⟩
    unfold upd
    by_cases z : j = i
    · rw [if_pos z, z]
    · rw [if_neg z]; exact hp j (by omega)
theorem not_inn_0 {a v : Int32} (h : v = -1) : ¬ inn a 1 v := fun z => by
  have h1 := z.1
  have h2 := z.2
  rw [h, i32_lt] at h2
  rw [i32_lt] at h1
  have e1 : (1 : Int32).toInt = 1 := rfl
  have e2 : (-1 : Int32).toInt = -1 := rfl
  omega
theorem s_drawn (a b d : Int32) : SIM (wX6_drawn a b d) (wX7_drawn a b d) := by
  intro x y Q hR h
  obtain ⟨n, r, ns, m, t, hRR⟩ := id hR
  obtain ⟨hB, hO, hQ, hU, hS, hW, hT, hP, hZ⟩ := id hRR
  have hm := hW.1
  have hn := hB.1
  have hrow := rowX_of hW hB.1
  unfold wX6_drawn
  intro v4 e4
  rw [show gI x 20 = nI m from hW.2.1] at e4
  have bad : ¬ (inn a 1 v4 ∧ inn d 0 2) → wX7_drawn a b d (fun v' y' => Q (-1) v' x y') y := by
    intro z
    unfold wX7_drawn
    intro w4 f4
    rw [show gI y 35 = nI m from hW.2.2.1, ← e4] at f4
    subst f4
    rw [isIn_iff]
    rcases wi_in (a := a) (lo := 1) (hi := w4) with ⟨e1, z1⟩ | ⟨e1, z1⟩ <;> rw [e1]
    · refine brF n10 ?_
      rw [isIn_iff]
      rcases wi_in (a := d) (lo := 0) (hi := 2) with ⟨e2, z2⟩ | ⟨e2, z2⟩ <;> rw [e2]
      · exact absurd ⟨z1, z2⟩ z
      · exact rbT rfl (h _ _ _ hR)
    · exact brT rfl (h _ _ _ hR)
  rw [within_iff]
  rcases wi_in (a := a) (lo := 1) (hi := v4) with ⟨e1, z1⟩ | ⟨e1, z1⟩ <;> rw [e1]
  · refine brF n10 ?_
    rw [within_iff]
    rcases wi_in (a := d) (lo := 0) (hi := 2) with ⟨e2, z2⟩ | ⟨e2, z2⟩ <;> rw [e2]
    · refine rbF n10 ?_
      rw [show gI x 0 = nI r from hU.2.1]
      rcases Nat.eq_zero_or_pos m with hm0 | hm0
      · exact absurd z1 (not_inn_0 (by rw [e4, hm0]; rfl))
      · rw [nI_m1 hm0] at e4
        subst e4
        obtain ⟨A, hA1, hA2, hA⟩ := wi_of (lo := 1) (hi := m - 1) (by omega) (by omega) z1.1 z1.2
        subst hA
        refine draw_x (m1 := m - 1) (row := rowX x) (by omega) hU.1 hA2 (by rw [show gI x 20 = nI m from hW.2.1, nI_m1 hm0]) (fun j hj => ⟨(hrow j (by omega)).1, by have := (hrow j (by omega)).2; omega⟩) (fun pe => ?_)
        have key : ∀ V : Int32, (¬ d = 2 → V = nI (drF (m - 1) (cK (x.2.2 (6 + r))) (rowX x) b A).2.1) → (d = 2 → V = (nI (drF (m - 1) (cK (x.2.2 (6 + r))) (rowX x) b A).2.1 + nI (m - 1)) - nI A) → wX7_drawn (nI A) b d (fun v' y' => Q V v' (DXS x pe) y') y := by
          intro V v1 v2
          unfold wX7_drawn
          intro w4 f4
          rw [show gI y 35 = nI m from hW.2.2.1, nI_m1 hm0] at f4
          subst f4
          rw [isIn_iff, e1]
          refine brF n10 ?_
          rw [isIn_iff, e2]
          refine rbF n10 ?_
          refine draw_m (m1 := m - 1) (k := fun ρ => x.2.2 (6 + ρ)) (row := rowX x) (by omega) hU.1 hA2 hU.2.2 (fun j hj => ⟨(hW.2.2.2.1 j (by omega)).1.symm.trans (hrow j (by omega)).1, by have := (hrow j (by omega)).2; omega⟩) (fun j hj => (hB.2.2.2 _ (hrow j (by omega)).2).2.2.2.2.2.2) (fun pe2 => ⟨fun c => ?_, fun c => ?_⟩)
          · rw [v1 c]; exact h _ _ _ hR
          · rw [v2 c]; exact h _ _ _ hR
        exact ⟨fun c => key _ (fun _ => rfl) (fun z => absurd z c), fun c => key _ (fun z => absurd c z) (fun _ => rfl)⟩
    · exact rbT rfl (bad (fun q => z2 q.2))
  · exact brT rfl (bad (fun q => z1 q.1))
