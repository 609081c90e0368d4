/-- the class's state with other outs -/
def OXS (x : ST) (nu : Int32) (ou st : Nat → Int32) : ST := (fun k => if k = 21 then nu else x.1 k, fun p => if p = 32 then ou else if p = 33 then st else x.2.1 p, x.2.2)
theorem OXS_id (x : ST) : x = OXS x (x.1 21) (x.2.1 32) (x.2.1 33) := by
  have e1 : x.1 = (OXS x (x.1 21) (x.2.1 32) (x.2.1 33)).1 := by
    funext k; show _ = if k = 21 then x.1 21 else x.1 k
    by_cases c0 : k = 21
    · simp [c0]
    · skip
      simp [c0]
  have e2 : x.2.1 = (OXS x (x.1 21) (x.2.1 32) (x.2.1 33)).2.1 := by
    funext p; show _ = if p = 32 then x.2.1 32 else if p = 33 then x.2.1 33 else x.2.1 p
    by_cases c0 : p = 32
    · simp [c0]
    · skip
      by_cases c1 : p = 33
      · simp [c1]
      · skip
        simp [c0, c1]
  exact Prod.ext e1 (Prod.ext e2 rfl)
theorem OXS_21 (x : ST) (nu v : Int32) (ou st : Nat → Int32) : pI (OXS x nu ou st) 21 v = OXS x v ou st := by
  refine Prod.ext ?_ rfl
  funext k
  show va_up (fun k => if k = 21 then nu else x.1 k) 21 v k = if k = 21 then v else x.1 k
  unfold va_up
  by_cases c : k = 21
  · simp [c]
  · simp [c]
theorem OXS_32 (x : ST) (nu v : Int32) (ou st : Nat → Int32) {n : Nat} (hn : n < 2 ^ 31) : pA (OXS x nu ou st) 32 (nI n) v = OXS x nu (upd ou n v) st := by
  rw [pA_n _ _ hn]
  refine Prod.ext rfl (Prod.ext ?_ rfl)
  funext p
  show va_up (fun p => if p = 32 then ou else if p = 33 then st else x.2.1 p) 32 (upd ou n v) p = if p = 32 then upd ou n v else if p = 33 then st else x.2.1 p
  unfold va_up
  by_cases c : p = 32
  · simp [c]
  · simp [c]
theorem OXS_g32 (x : ST) (nu : Int32) (ou st : Nat → Int32) {n : Nat} (hn : n < 2 ^ 31) : gA (OXS x nu ou st) 32 (nI n) = ou n := by rw [gA_n _ _ hn]; rfl
theorem OXS_33 (x : ST) (nu v : Int32) (ou st : Nat → Int32) {n : Nat} (hn : n < 2 ^ 31) : pA (OXS x nu ou st) 33 (nI n) v = OXS x nu ou (upd st n v) := by
  rw [pA_n _ _ hn]
  refine Prod.ext rfl (Prod.ext ?_ rfl)
  funext p
  show va_up (fun p => if p = 32 then ou else if p = 33 then st else x.2.1 p) 33 (upd st n v) p = if p = 32 then ou else if p = 33 then upd st n v else x.2.1 p
  unfold va_up
  by_cases c : p = 33
  · simp [c]
  · simp [c]
theorem OXS_g33 (x : ST) (nu : Int32) (ou st : Nat → Int32) {n : Nat} (hn : n < 2 ^ 31) : gA (OXS x nu ou st) 33 (nI n) = st n := by rw [gA_n _ _ hn]; rfl
/-- the reference's state with other outs -/
def OMS (y : ST) (st ou : Nat → Int32) : ST := (fun k => y.1 k, fun p => if p = 59 then st else if p = 60 then ou else y.2.1 p, y.2.2)
theorem OMS_id (y : ST) : y = OMS y (y.2.1 59) (y.2.1 60) := by
  have e1 : y.1 = (OMS y (y.2.1 59) (y.2.1 60)).1 := rfl
  have e2 : y.2.1 = (OMS y (y.2.1 59) (y.2.1 60)).2.1 := by
    funext p; show _ = if p = 59 then y.2.1 59 else if p = 60 then y.2.1 60 else y.2.1 p
    by_cases c0 : p = 59
    · simp [c0]
    · skip
      by_cases c1 : p = 60
      · simp [c1]
      · skip
        simp [c0, c1]
  exact Prod.ext e1 (Prod.ext e2 rfl)
theorem OMS_59 (y : ST) (v : Int32) (st ou : Nat → Int32) {n : Nat} (hn : n < 2 ^ 31) : pA (OMS y st ou) 59 (nI n) v = OMS y (upd st n v) ou := by
  rw [pA_n _ _ hn]
  refine Prod.ext rfl (Prod.ext ?_ rfl)
  funext p
  show va_up (fun p => if p = 59 then st else if p = 60 then ou else y.2.1 p) 59 (upd st n v) p = if p = 59 then upd st n v else if p = 60 then ou else y.2.1 p
  unfold va_up
  by_cases c : p = 59
  · simp [c]
  · simp [c]
theorem OMS_g59 (y : ST) (st ou : Nat → Int32) {n : Nat} (hn : n < 2 ^ 31) : gA (OMS y st ou) 59 (nI n) = st n := by rw [gA_n _ _ hn]; rfl
theorem OMS_60 (y : ST) (v : Int32) (st ou : Nat → Int32) {n : Nat} (hn : n < 2 ^ 31) : pA (OMS y st ou) 60 (nI n) v = OMS y st (upd ou n v) := by
  rw [pA_n _ _ hn]
  refine Prod.ext rfl (Prod.ext ?_ rfl)
  funext p
  show va_up (fun p => if p = 59 then st else if p = 60 then ou else y.2.1 p) 60 (upd ou n v) p = if p = 59 then st else if p = 60 then upd ou n v else y.2.1 p
  unfold va_up
  by_cases c : p = 60
  · simp [c]
  · simp [c]
theorem OMS_g60 (y : ST) (st ou : Nat → Int32) {n : Nat} (hn : n < 2 ^ 31) : gA (OMS y st ou) 60 (nI n) = ou n := by rw [gA_n _ _ hn]; rfl
theorem ltK_iff {k : Nat → Int64} {a b : Nat} : ltK k a b = true ↔ cK k a b = -1 := by unfold ltK; rw [decide_eq_true_iff]
theorem cK_0le {k : Nat → Int64} {a b : Nat} : 0 ≤ cK k a b ↔ ¬ cK k a b = -1 := by
  rcases cK_val k a b with h | ⟨h, -⟩ | h <;> rw [h] <;> decide
theorem cK_le0 {k : Nat → Int64} {a b : Nat} (hab : a ≠ b) : cK k a b ≤ 0 ↔ cK k a b = -1 := by
  rcases cK_val k a b with h | ⟨-, h⟩ | h
  · rw [h]; decide
  · exact absurd h hab
  · rw [h]; decide
theorem mxF_succ (lt : Nat → Nat → Bool) (row f : Nat → Nat) (i d : Nat) : mxF lt row f i (d + 1) = if f (i + 1 + d) > mxF lt row f i d ∧ lt (row i) (row (i + 1 + d)) = true then f (i + 1 + d) else mxF lt row f i d := rfl
theorem mxF_le (lt : Nat → Nat → Bool) (row f : Nat → Nat) (i : Nat) {B : Nat} (h : ∀ j, f j ≤ B) : ∀ d, mxF lt row f i d ≤ B
  | 0 => Nat.zero_le _
  | d + 1 => by
    have := mxF_le lt row f i h d
    rw [mxF_succ]
    split
    · exact h _
    · exact this
theorem stF_succ (lt : Nat → Nat → Bool) (row : Nat → Nat) (m d : Nat) : stF lt row m (d + 1) = fun j => if j = m - 1 - d then 1 + mxF lt row (stF lt row m d) (m - 1 - d) d else stF lt row m d j := rfl
theorem stF_le (lt : Nat → Nat → Bool) (row : Nat → Nat) (m : Nat) : ∀ d j, stF lt row m d j ≤ d
  | 0, j => Nat.le_refl 0
  | d + 1, j => by
    have ih := stF_le lt row m d
    rw [stF_succ]
    show (if j = m - 1 - d then _ else _) ≤ d + 1
    split
    · have := mxF_le lt row (stF lt row m d) (m - 1 - d) ih d; omega
    · have := ih j; omega
theorem stF_pos (lt : Nat → Nat → Bool) (row : Nat → Nat) (m : Nat) : ∀ d j, m - d ≤ j → j < m → 1 ≤ stF lt row m d j
  | 0, j, h1, h2 => absurd h1 (by omega)
  | d + 1, j, h1, h2 => by
    rw [stF_succ]
    show 1 ≤ (if j = m - 1 - d then _ else _)
    split
    · omega
    · exact stF_pos lt row m d j (by omega) h2
theorem topF_le (lt : Nat → Nat → Bool) (row : Nat → Nat) (m : Nat) : ∀ d, topF lt row m d ≤ d
  | 0 => Nat.le_refl 0
  | d + 1 => by
    have h1 := topF_le lt row m d
    have h2 := stF_le lt row m (d + 1) (m - 1 - d)
    show max (topF lt row m d) (stF lt row m (d + 1) (m - 1 - d)) ≤ d + 1
    omega
theorem topF_succ (lt : Nat → Nat → Bool) (row : Nat → Nat) (m d : Nat) : topF lt row m (d + 1) = max (topF lt row m d) (1 + mxF lt row (stF lt row m d) (m - 1 - d) d) := by
  show max _ (stF lt row m (d + 1) (m - 1 - d)) = _
  rw [stF_succ]
  show max _ (if m - 1 - d = m - 1 - d then _ else _) = _
  rw [if_pos rfl]
theorem st_step {lt : Nat → Nat → Bool} {row : Nat → Nat} {m d : Nat} {st : Nat → Int32} (hd : d < m) (h : ∀ j, m - d ≤ j → j < m → st j = nI (stF lt row m d j)) : ∀ j, m - (d + 1) ≤ j → j < m → upd st (m - 1 - d) (nI (1 + mxF lt row (stF lt row m d) (m - 1 - d) d)) j = nI (stF lt row m (d + 1) j) := by
  intro j h1 h2
  rw [stF_succ]
  show upd st _ _ j = nI (if j = m - 1 - d then _ else _)
  unfold upd
  by_cases z : j = m - 1 - d
  · rw [if_pos z, if_pos z]
  · rw [if_neg z, if_neg z]; exact h j (by omega) h2
/-- who stays, so far -/
def OutI (c : Nat → Nat → Int32) (row st : Nat → Nat) (top i : Nat) (v2 v3 : Int32) (ou : Nat → Int32) : Prop :=
  v2 = nI (outF c row st top i).1 ∧ (outF c row st top i).1 ≤ 60 ∧ (((outF c row st top i).2.1 = none ∧ v3 = -1) ∨ ∃ p, p < i ∧ (outF c row st top i).2.1 = some (row p) ∧ v3 = nI (row p)) ∧ ∀ j, j < i → ou j = (outF c row st top i).2.2 j
def OutC (c : Nat → Nat → Int32) (row st : Nat → Nat) (top i : Nat) : Prop := st i = (outF c row st top i).1 ∧ ((outF c row st top i).2.1 = none ∨ ∃ q, (outF c row st top i).2.1 = some q ∧ c q (row i) = -1)
theorem outF_succ (c : Nat → Nat → Int32) (row st : Nat → Nat) (top i : Nat) : outF c row st top (i + 1) = outS c row st i (outF c row st top i) := rfl
theorem outI_out {c : Nat → Nat → Int32} {row st : Nat → Nat} {top i : Nat} {v2 v3 : Int32} {ou : Nat → Int32} (h : OutI c row st top i v2 v3 ou) (hn : ¬ OutC c row st top i) : OutI c row st top (i + 1) v2 v3 (upd ou i 1) := by
  have e : outF c row st top (i + 1) = ((outF c row st top i).1, (outF c row st top i).2.1, upd (outF c row st top i).2.2 i 1) := by
    rw [outF_succ]; unfold outS; exact if_neg hn
  unfold OutI
  rw [e]
  obtain ⟨h1, h2, h3, h4⟩ := h
  refine ⟨h1, h2, h3.imp id (fun ⟨p, p1, p2⟩ => ⟨p, by omega, p2⟩), fun j hj => ?_⟩
  show upd ou i 1 j = upd _ i 1 j
  unfold upd
  by_cases z : j = i
  · rw [if_pos z, if_pos z]
  · rw [if_neg z, if_neg z]; exact h4 j (by omega)
theorem outI_stay {c : Nat → Nat → Int32} {row st : Nat → Nat} {top i : Nat} {v2 v3 : Int32} {ou : Nat → Int32} (h : OutI c row st top i v2 v3 ou) (hs : 1 ≤ st i) (hc : OutC c row st top i) : OutI c row st top (i + 1) (v2 + (-1)) (nI (row i)) (upd ou i 0) := by
  have e : outF c row st top (i + 1) = ((outF c row st top i).1 - 1, some (row i), upd (outF c row st top i).2.2 i 0) := by
    rw [outF_succ]; unfold outS; exact if_pos hc
  unfold OutI
  rw [e]
  obtain ⟨h1, h2, h3, h4⟩ := h
  have := hc.1
  refine ⟨by rw [h1]; exact nI_am1 (by omega), by show (outF c row st top i).1 - 1 ≤ 60; omega, Or.inr ⟨i, by omega, rfl, rfl⟩, fun j hj => ?_⟩
  show upd ou i 0 j = upd _ i 0 j
  unfold upd
  by_cases z : j = i
  · rw [if_pos z, if_pos z]
  · rw [if_neg z, if_neg z]; exact h4 j (by omega)
theorem outI_0 {c : Nat → Nat → Int32} {row st : Nat → Nat} {top : Nat} {ou : Nat → Int32} (h : top ≤ 60) : OutI c row st top 0 (nI top) (-1) ou := ⟨rfl, h, Or.inl ⟨rfl, rfl⟩, fun j hj => absurd hj (Nat.not_lt_zero j)⟩
theorem upd_at (f : Nat → Int32) (i : Nat) (v : Int32) : upd f i v i = v := if_pos rfl
theorem upd_upd (f : Nat → Int32) (i : Nat) (v w : Int32) : upd (upd f i v) i w = upd f i w := by
  funext j; unfold upd
  by_cases z : j = i
  · rw [if_pos z, if_pos z]
  · rw [if_neg z, if_neg z, if_neg z]
theorem most_x {m r i : Nat} {K : Int32 → ST → Prop} {x : ST} {row f : Nat → Nat} (hm : m ≤ 60) (hr : r < 2) (hi : i < m) (hx20 : x.1 20 = nI m) (hrow : ∀ j, j < m → x.2.1 31 j = nI (row j) ∧ row j < 60) (hf : ∀ j, i < j → j < m → x.2.1 33 j = nI (f j)) (hf2 : ∀ j, f j ≤ 60) (h : K (nI (mxF (ltK (x.2.2 (6 + r))) row f i (m - 1 - i))) x) : wX3_mostBehind (nI i) (nI r) K x := by
  unfold wX3_mostBehind
  intro v5 e5
  rw [nI_1] at e5
  subst e5
  refine it2 (I := fun mm v4 v5 x2 => ∃ d, v4 = nI (mxF (ltK (x.2.2 (6 + r))) row f i d) ∧ v5 = nI (i + 1 + d) ∧ i + 1 + d ≤ m ∧ mm = m - (i + 1 + d) ∧ x2 = x) ?_ (m := m - (i + 1)) ⟨0, rfl, rfl, by omega, rfl, rfl⟩
  rintro mm v4 v5 x2 G ⟨d, rfl, rfl, hd, hmm, hx2⟩ hG
  subst hx2
  unfold FX3_mostBehind_8
  rw [show gI x2 20 = nI m from hx20, nI_leI (by omega) (by omega)]
  by_cases c : m ≤ i + 1 + d
  · refine brT c ?_
    rw [show d = m - 1 - i by omega]; exact h
  · have hb := mxF_le (ltK (x2.2.2 (6 + r))) row f i hf2 d
    have hb2 := hf2 (i + 1 + d)
    have hstep := mxF_succ (ltK (x2.2.2 (6 + r))) row f i d
    refine brF c ⟨vin (by omega) (by omega), ?_⟩
    rw [gA_n _ 33 (by omega), hf _ (by omega) (by omega), nI_leI (by omega) (by omega)]
    by_cases c2 : f (i + 1 + d) ≤ mxF (ltK (x2.2.2 (6 + r))) row f i d
    · refine brT c2 (fun v ev => ?_)
      rw [nI_1] at ev
      subst ev
      refine hG (m - (i + 1 + (d + 1))) _ _ _ (by omega) ⟨d + 1, ?_, rfl, by omega, rfl, rfl⟩
      rw [hstep, if_neg (fun z => by omega)]
    · refine brF c2 ⟨vin (by omega) (by omega), ?_⟩
      rw [gA_n _ 31 (by omega), gA_n _ 31 (by omega), (hrow i hi).1, (hrow (i + 1 + d) (by omega)).1]
      refine sg_x (hrow i hi).2 (hrow (i + 1 + d) (by omega)).2 hr ⟨fun c3 v ev => ?_, fun c3 v2 ev2 v ev => ?_⟩
      · rw [nI_1] at ev
        subst ev
        refine hG (m - (i + 1 + (d + 1))) _ _ _ (by omega) ⟨d + 1, ?_, rfl, by omega, rfl, rfl⟩
        rw [hstep, if_neg (fun z => cK_0le.mp c3 (ltK_iff.mp z.2))]
      · rw [nI_1] at ev
        subst ev
        refine hG (m - (i + 1 + (d + 1))) _ _ _ (by omega) ⟨d + 1, ?_, rfl, by omega, rfl, rfl⟩
        rw [ev2, hstep, if_pos ⟨by omega, ltK_iff.mpr (Classical.byContradiction (fun z => c3 (cK_0le.mpr z)))⟩, gA_n _ 33 (by omega), hf _ (by omega) (by omega)]
theorem outs_x {m r : Nat} {K : ST → Prop} {x : ST} (hm : m ≤ 60) (hr : r < 2) (hx20 : x.1 20 = nI m) (hrow : ∀ j, j < m → x.2.1 31 j = nI (rowX x j) ∧ rowX x j < 60)
    (h : ∀ ou st, (∀ j, j < m → ou j = outX r m x j) → K (OXS x (nI (m - topF (ltK (x.2.2 (6 + r))) (rowX x) m m)) ou st)) : wX3_findOuts (nI r) K x := by
  unfold wX3_findOuts
  intro v4 e4
  rw [show gI x 20 = nI m from hx20] at e4
  subst e4
  refine it2 (I := fun mm v3 v4 x2 => ∃ d st, d ≤ m ∧ mm = m - d ∧ v3 = nI (topF (ltK (x.2.2 (6 + r))) (rowX x) m d) ∧ v4 = nI (m - d) - 1 ∧ x2 = OXS x (x.1 21) (x.2.1 32) st ∧ ∀ j, m - d ≤ j → j < m → st j = nI (stF (ltK (x.2.2 (6 + r))) (rowX x) m d j)) ?_ (m := m) ⟨0, x.2.1 33, Nat.zero_le _, rfl, rfl, rfl, OXS_id x, fun j h1 h2 => by omega⟩
  rintro mm v3 v4 x2 G ⟨d, st, hd, hmm, rfl, rfl, rfl, hst⟩ hG
  have ht := topF_le (ltK (x.2.2 (6 + r))) (rowX x) m d
  unfold FX3_findOuts_10
  rw [show (nI (m - d) - 1 < 0) = (nI (m - d) - 1 < nI 0) from rfl, nI_down (by omega) (by omega)]
  by_cases c : m - d ≤ 0
  · refine brT c (fun x3 e3 => ?_)
    rw [show d = m by omega] at hst ht e3 ⊢
    rw [show gI (OXS x (x.1 21) (x.2.1 32) st) 20 = nI m from hx20, pk_sub ht, OXS_21] at e3
    subst e3
    clear hG
    refine it3 (I := fun mm v4 v5 v6 x2 => ∃ i ou, v6 = nI i ∧ i ≤ m ∧ mm = m - i ∧ x2 = OXS x (nI (m - topF (ltK (x.2.2 (6 + r))) (rowX x) m m)) ou st ∧ OutI (cK (x.2.2 (6 + r))) (rowX x) (stF (ltK (x.2.2 (6 + r))) (rowX x) m m) (topF (ltK (x.2.2 (6 + r))) (rowX x) m m) i v4 v5 ou) ?_ (m := m) ⟨0, _, rfl, Nat.zero_le _, rfl, rfl, outI_0 (by omega)⟩
    clear hmm c
    rintro mm v4 v5 v6 x2 G ⟨i, ou, rfl, hi, hmm, rfl, hI⟩ hG
    unfold FX3_findOuts_69
    rw [show gI (OXS x (nI (m - topF (ltK (x.2.2 (6 + r))) (rowX x) m m)) ou st) 20 = nI m from hx20, nI_leI (by omega) (by omega)]
    by_cases c1 : m ≤ i
    · refine brT c1 (h ou st (fun j hj => ?_))
      rw [show i = m by omega] at hI
      exact hI.2.2.2 j hj
    · refine brF c1 ⟨vin (by omega) (by omega), ?_⟩
      obtain ⟨i1, i2, i3, i4⟩ := id hI
      have hsl := stF_le (ltK (x.2.2 (6 + r))) (rowX x) m m i
      rw [OXS_g33 _ _ _ _ (by omega), hst i (by omega) (by omega), i1, nI_eq (by omega) (by omega), ← i1]
      by_cases c2 : stF (ltK (x.2.2 (6 + r))) (rowX x) m m i = (outF (cK (x.2.2 (6 + r))) (rowX x) (stF (ltK (x.2.2 (6 + r))) (rowX x) m m) (topF (ltK (x.2.2 (6 + r))) (rowX x) m m) i).1
      · refine rbT c2 ?_
        rcases i3 with ⟨i5, i6⟩ | ⟨p, hp, i5, i6⟩
        · refine brT i6 ?_
          intro x7 e7 v5 e5 v4 e4 v ev
          rw [OXS_32 _ _ _ _ _ (by omega)] at e7
          rw [nI_1] at ev
          subst e7 ev
          rw [gA_n _ 31 (by omega), show (OXS x (nI (m - topF (ltK (x.2.2 (6 + r))) (rowX x) m m)) (upd ou i 0) st).2.1 31 i = x.2.1 31 i from rfl, (hrow i (by omega)).1] at e5
          subst e4 e5
          exact hG (m - (i + 1)) _ _ _ _ (by omega) ⟨i + 1, _, rfl, by omega, rfl, rfl, outI_stay hI (stF_pos _ _ _ _ _ (by omega) (by omega)) (⟨c2, Or.inl i5⟩)⟩
        · have hp60 := (hrow p (by omega)).2
          refine brF (by rw [i6]; exact fun z => absurd (nneg (g := rowX x p) (by omega)) (by rw [z]; decide)) ?_
          rw [i6, gA_n _ 31 (by omega), show (OXS x (nI (m - topF (ltK (x.2.2 (6 + r))) (rowX x) m m)) ou st).2.1 31 i = x.2.1 31 i from rfl, (hrow i (by omega)).1]
          refine sg_x hp60 (hrow i (by omega)).2 hr ⟨fun c3 => ?_, fun c3 => ?_⟩
          · rw [← i6]
            intro x4 e4 v ev
            rw [OXS_32 _ _ _ _ _ (by omega)] at e4
            rw [nI_1] at ev
            subst e4 ev
            exact hG (m - (i + 1)) _ _ _ _ (by omega) ⟨i + 1, _, rfl, by omega, rfl, rfl, outI_out hI (by exact fun z => z.2.elim (fun q => by rw [i5] at q; cases q) (fun q => by obtain ⟨q, q1, q2⟩ := q; rw [i5] at q1; cases q1; exact cK_0le.mp c3 q2))⟩
          · intro x7 e7 v5 e5 v4 e4 v ev
            rw [OXS_32 _ _ _ _ _ (by omega)] at e7
            rw [nI_1] at ev
            subst e7 ev
            rw [gA_n _ 31 (by omega), show (OXS x (nI (m - topF (ltK (x.2.2 (6 + r))) (rowX x) m m)) (upd ou i 0) st).2.1 31 i = x.2.1 31 i from rfl, (hrow i (by omega)).1] at e5
            subst e4 e5
            exact hG (m - (i + 1)) _ _ _ _ (by omega) ⟨i + 1, _, rfl, by omega, rfl, rfl, outI_stay hI (stF_pos _ _ _ _ _ (by omega) (by omega)) (⟨c2, Or.inr ⟨_, i5, Classical.byContradiction (fun z => c3 (cK_0le.mpr z))⟩⟩)⟩
      · refine rbF c2 ?_
        intro x4 e4 v ev
        rw [OXS_32 _ _ _ _ _ (by omega)] at e4
        rw [nI_1] at ev
        subst e4 ev
        exact hG (m - (i + 1)) _ _ _ _ (by omega) ⟨i + 1, _, rfl, by omega, rfl, rfl, outI_out hI (by exact fun z => c2 z.1)⟩
  · refine brF c ?_
    rw [nI_m1 (by omega), show m - d - 1 = m - 1 - d by omega]
    have hsl := stF_le (ltK (x.2.2 (6 + r))) (rowX x) m d
    refine most_x (x := OXS x (x.1 21) (x.2.1 32) st) (row := rowX x) (f := stF (ltK (x.2.2 (6 + r))) (rowX x) m d) hm hr (by omega) hx20 hrow (fun j h1 h2 => hst j (by omega) h2) (fun j => by have := hsl j; omega) ?_
    have hmx := mxF_le (ltK (x.2.2 (6 + r))) (rowX x) (stF (ltK (x.2.2 (6 + r))) (rowX x) m d) (m - 1 - d) hsl d
    have hts := topF_succ (ltK (x.2.2 (6 + r))) (rowX x) m d
    refine ⟨vin (by omega) (by omega), fun x5 e5 v3 e3 v4 e4 => ?_⟩
    rw [show m - 1 - (m - 1 - d) = d by omega, OXS_33 _ _ _ _ _ (by omega), show (1 : Int32) = nI 1 from rfl, nI_add] at e5
    have e5 : x5 = OXS x (x.1 21) (x.2.1 32) (upd st (m - 1 - d) (nI (1 + mxF (ltK (x.2.2 (6 + r))) (rowX x) (stF (ltK (x.2.2 (6 + r))) (rowX x) m d) (m - 1 - d) d))) := e5
    rw [e5, OXS_g33 _ _ _ _ (by omega), upd_at, nI_max (by omega) (by omega), ← hts] at e3
    subst e5 e3
    refine hG (m - (d + 1)) _ _ _ (by omega) ⟨d + 1, _, by omega, rfl, rfl, ?_, rfl, st_step (by omega) hst⟩
    rw [e4, am1, show m - 1 - d = m - (d + 1) by omega]
theorem outs_m {m r : Nat} {k : Nat → Nat → Int64} {row : Nat → Nat} {K : Int32 → ST → Prop} {y : ST} (hm : m ≤ 60) (hr : r < 2) (hy35 : y.1 35 = nI m) (hy23 : y.1 23 = nI r) (hrow : ∀ j, j < m → y.2.1 58 j = nI (row j) ∧ row j < 60) (hinj : ∀ i j, i < m → j < m → row i = row j → i = j)
    (hk : ∀ j, j < m → KeyOK (k 0 (row j)) (k 1 (row j)) (y.2.1 36 (row j)) (y.2.1 37 (row j)) (y.2.1 38 (row j)) (y.2.1 39 (row j)))
    (h : ∀ st ou, (∀ j, j < m → ou j = (outF (cK (k r)) row (stF (ltK (k r)) row m m) (topF (ltK (k r)) row m m) m).2.2 j) → K (nI (m - topF (ltK (k r)) row m m)) (OMS y st ou)) : wX7_takeOut K y := by
  unfold wX7_takeOut
  intro v4 e4
  rw [show gI y 35 = nI m from hy35] at e4
  subst e4
  refine it2 (I := fun mm v1 v2 y2 => ∃ d st, d ≤ m ∧ mm = m - d ∧ v1 = nI (topF (ltK (k r)) row m d) ∧ v2 = nI (m - d) - 1 ∧ y2 = OMS y st (y.2.1 60) ∧ ∀ j, m - d ≤ j → j < m → st j = nI (stF (ltK (k r)) row m d j)) ?_ (m := m) ⟨0, y.2.1 59, Nat.zero_le _, rfl, rfl, rfl, OMS_id y, fun j h1 h2 => by omega⟩
  rintro mm v1 v2 y2 G ⟨d, st, hd, hmm, rfl, rfl, rfl, hst⟩ hG
  have ht := topF_le (ltK (k r)) row m d
  unfold FX7_takeOut_9
  rw [show (nI (m - d) - 1 < 0) = (nI (m - d) - 1 < nI 0) from rfl, nI_down (by omega) (by omega)]
  by_cases c : m - d ≤ 0
  · refine brT c ?_
    rw [show d = m by omega] at hst ht ⊢
    clear hG
    refine it3 (I := fun mm v4 v5 v6 y2 => ∃ i ou, v6 = nI i ∧ i ≤ m ∧ mm = m - i ∧ y2 = OMS y st ou ∧ OutI (cK (k r)) row (stF (ltK (k r)) row m m) (topF (ltK (k r)) row m m) i v4 v5 ou) ?_ (m := m) ⟨0, _, rfl, Nat.zero_le _, rfl, rfl, outI_0 (by omega)⟩
    clear hmm c
    rintro mm v4 v5 v6 y2 G ⟨i, ou, rfl, hi, hmm, rfl, hI⟩ hG
    unfold FX7_takeOut_122
    rw [show gI (OMS y st ou) 35 = nI m from hy35, nI_leI (by omega) (by omega), show gI (OMS y st ou) 23 = nI r from hy23]
    by_cases c1 : m ≤ i
    · rw [pk_sub ht]
      refine brT c1 (h st ou (fun j hj => ?_))
      rw [show i = m by omega] at hI
      exact hI.2.2.2 j hj
    · refine brF c1 ?_
      obtain ⟨i1, i2, i3, i4⟩ := id hI
      have hsl := stF_le (ltK (k r)) row m m i
      have hsp := stF_pos (ltK (k r)) row m m i (by omega) (by omega)
      by_cases c0 : v4 = 0
      · refine brT c0 ⟨vin (by omega) (by omega), ?_⟩
        have c00 : (outF (cK (k r)) row (stF (ltK (k r)) row m m) (topF (ltK (k r)) row m m) i).1 = 0 := (nI_eq (by omega) (by omega)).mp (i1.symm.trans c0)
        intro y4 e4
        rw [OMS_60 _ _ _ _ (by omega)] at e4
        subst e4
        rw [OMS_g60 _ _ _ (by omega), upd_at]
        refine brF n10 (fun v ev => ?_)
        rw [nI_1] at ev
        subst ev
        exact hG (m - (i + 1)) _ _ _ _ (by omega) ⟨i + 1, _, rfl, by omega, rfl, rfl, outI_out hI (by exact fun z => by have := z.1; omega)⟩
      · refine brF c0 ⟨vin (by omega) (by omega), ?_⟩
        rw [OMS_g59 _ _ _ (by omega), hst i (by omega) (by omega), i1, nI_eq (by omega) (by omega), ← i1]
        by_cases c2 : stF (ltK (k r)) row m m i = (outF (cK (k r)) row (stF (ltK (k r)) row m m) (topF (ltK (k r)) row m m) i).1
        · refine rbT c2 ?_
          rcases i3 with ⟨i5, i6⟩ | ⟨p, hp, i5, i6⟩
          · refine brT (by rw [i6]; decide) ?_
            intro y4 e4
            rw [OMS_60 _ _ _ _ (by omega)] at e4
            subst e4
            rw [OMS_g60 _ _ _ (by omega), upd_at]
            refine brT rfl (fun v3 e3 v2 e2 v ev => ?_)
            rw [nI_1] at ev
            rw [gA_n _ 58 (by omega), show (OMS y st (upd ou i 0)).2.1 58 i = y.2.1 58 i from rfl, (hrow i (by omega)).1] at e3
            subst ev e2 e3
            exact hG (m - (i + 1)) _ _ _ _ (by omega) ⟨i + 1, _, rfl, by omega, rfl, rfl, outI_stay hI (stF_pos _ _ _ _ _ (by omega) (by omega)) (⟨c2, Or.inl i5⟩)⟩
          · have hp60 := (hrow p (by omega)).2
            refine brF (by rw [i6, show (0 : Int32) = nI 0 from rfl]; exact nI_nlt (Nat.zero_le _) (by omega)) ?_
            rw [i6, gA_n _ 58 (by omega), show (OMS y st ou).2.1 58 i = y.2.1 58 i from rfl, (hrow i (by omega)).1]
            have hne : row p ≠ row i := fun z => by have := hinj p i (by omega) (by omega) z; omega
            refine ag_y (k := k) hp60 (hrow i (by omega)).2 hr (hk p (by omega)) (hk i (by omega)) ⟨fun c3 => ?_, fun c3 => ?_⟩
            · intro y4 e4
              rw [OMS_60 _ _ _ _ (by omega)] at e4
              subst e4
              rw [OMS_g60 _ _ _ (by omega), upd_at]
              refine brT rfl (fun v3 e3 v2 e2 v ev => ?_)
              rw [nI_1] at ev
              rw [gA_n _ 58 (by omega), show (OMS y st (upd ou i 0)).2.1 58 i = y.2.1 58 i from rfl, (hrow i (by omega)).1] at e3
              subst ev e2 e3
              exact hG (m - (i + 1)) _ _ _ _ (by omega) ⟨i + 1, _, rfl, by omega, rfl, rfl, outI_stay hI (stF_pos _ _ _ _ _ (by omega) (by omega)) (⟨c2, Or.inr ⟨_, i5, (cK_le0 hne).mp c3⟩⟩)⟩
            · rw [← i6]
              intro y4 e4
              rw [OMS_60 _ _ _ _ (by omega)] at e4
              subst e4
              rw [OMS_g60 _ _ _ (by omega), upd_at]
              refine brF n10 (fun v ev => ?_)
              rw [nI_1] at ev
              subst ev
              exact hG (m - (i + 1)) _ _ _ _ (by omega) ⟨i + 1, _, rfl, by omega, rfl, rfl, outI_out hI (by exact fun z => z.2.elim (fun q => by rw [i5] at q; cases q) (fun q => by obtain ⟨q, q1, q2⟩ := q; rw [i5] at q1; cases q1; exact c3 ((cK_le0 hne).mpr q2)))⟩
        · refine rbF c2 ?_
          intro y4 e4
          rw [OMS_60 _ _ _ _ (by omega)] at e4
          subst e4
          rw [OMS_g60 _ _ _ (by omega), upd_at]
          refine brF n10 (fun v ev => ?_)
          rw [nI_1] at ev
          subst ev
          exact hG (m - (i + 1)) _ _ _ _ (by omega) ⟨i + 1, _, rfl, by omega, rfl, rfl, outI_out hI (by exact fun z => c2 z.1)⟩
  · refine brF c ?_
    rw [nI_m1 (by omega), show m - d - 1 = m - 1 - d by omega]
    have hsl := stF_le (ltK (k r)) row m d
    have hmx := mxF_le (ltK (k r)) row (stF (ltK (k r)) row m d) (m - 1 - d) hsl
    have hts := topF_succ (ltK (k r)) row m d
    refine ⟨vin (by omega) (by omega), fun y3 e3 v3 e4 => ?_⟩
    rw [OMS_59 _ _ _ _ (by omega)] at e3
    rw [nI_1] at e4
    subst e3 e4
    refine it1 (I := fun mm v3 y3 => ∃ e, v3 = nI (m - 1 - d + 1 + e) ∧ m - 1 - d + 1 + e ≤ m ∧ mm = m - (m - 1 - d + 1 + e) ∧ y3 = OMS y (upd st (m - 1 - d) (nI (1 + mxF (ltK (k r)) row (stF (ltK (k r)) row m d) (m - 1 - d) e))) (y.2.1 60)) ?_ (m := m - (m - 1 - d + 1 + 0)) ⟨0, rfl, by omega, rfl, rfl⟩
    rintro m2 v3 y3 G2 ⟨e, rfl, he, hm2, rfl⟩ hG2
    have hmxe := hmx e
    have hse := mxF_succ (ltK (k r)) row (stF (ltK (k r)) row m d) (m - 1 - d) e
    unfold FX7_takeOut_24
    rw [show gI (OMS y (upd st (m - 1 - d) (nI (1 + mxF (ltK (k r)) row (stF (ltK (k r)) row m d) (m - 1 - d) e))) (y.2.1 60)) 35 = nI m from hy35, show gI (OMS y (upd st (m - 1 - d) (nI (1 + mxF (ltK (k r)) row (stF (ltK (k r)) row m d) (m - 1 - d) e))) (y.2.1 60)) 23 = nI r from hy23, nI_leI (by omega) (by omega), OMS_g59 _ _ _ (by omega), upd_at]
    by_cases c1 : m ≤ m - 1 - d + 1 + e
    · refine brT c1 ⟨vin (by omega) (by omega), ?_⟩
      rw [show e = d by omega] at hmxe ⊢
      rw [nI_leI (by omega) (by omega)]
      have dn : ∀ v2 : Int32, v2 = nI (m - 1 - d) + (-1) → v2 = nI (m - (d + 1)) - 1 := fun v2 e2 => by rw [e2, am1, show m - 1 - d = m - (d + 1) by omega]
      by_cases c2 : 1 + mxF (ltK (k r)) row (stF (ltK (k r)) row m d) (m - 1 - d) d ≤ topF (ltK (k r)) row m d
      · refine brT c2 (fun v2 e2 => ?_)
        exact hG (m - (d + 1)) _ _ _ (by omega) ⟨d + 1, _, by omega, rfl, by rw [hts, show max (topF (ltK (k r)) row m d) (1 + mxF (ltK (k r)) row (stF (ltK (k r)) row m d) (m - 1 - d) d) = topF (ltK (k r)) row m d by omega], dn _ e2, rfl, st_step (by omega) hst⟩
      · refine brF c2 (fun v1 e1 v2 e2 => ?_)
        exact hG (m - (d + 1)) _ _ _ (by omega) ⟨d + 1, _, by omega, rfl, by rw [e1, hts, show max (topF (ltK (k r)) row m d) (1 + mxF (ltK (k r)) row (stF (ltK (k r)) row m d) (m - 1 - d) d) = 1 + mxF (ltK (k r)) row (stF (ltK (k r)) row m d) (m - 1 - d) d by omega], dn _ e2, rfl, st_step (by omega) hst⟩
    · refine brF c1 ⟨vin (by omega) (by omega), vin (by omega) (by omega), ?_⟩
      rw [gA_n _ 58 (by omega), gA_n _ 58 (by omega), show (OMS y (upd st (m - 1 - d) (nI (1 + mxF (ltK (k r)) row (stF (ltK (k r)) row m d) (m - 1 - d) e))) (y.2.1 60)).2.1 58 = y.2.1 58 from rfl, (hrow (m - 1 - d) (by omega)).1, (hrow (m - 1 - d + 1 + e) (by omega)).1]
      have hje := hsl (m - 1 - d + 1 + e)
      refine ag_y (k := k) (hrow (m - 1 - d) (by omega)).2 (hrow (m - 1 - d + 1 + e) (by omega)).2 hr (hk _ (by omega)) (hk _ (by omega)) ⟨fun c3 v ev => ?_, fun c3 => ?_⟩
      · rw [nI_1] at ev
        subst ev
        refine hG2 (m - (m - 1 - d + 1 + (e + 1))) _ _ (by omega) ⟨e + 1, rfl, by omega, rfl, ?_⟩
        rw [hse, if_neg (fun z => cK_0le.mp c3 (ltK_iff.mp z.2))]
      · rw [OMS_g59 _ _ _ (by omega), OMS_g59 _ _ _ (by omega), upd_at, show upd st (m - 1 - d) (nI (1 + mxF (ltK (k r)) row (stF (ltK (k r)) row m d) (m - 1 - d) e)) (m - 1 - d + 1 + e) = st (m - 1 - d + 1 + e) from if_neg (by omega), hst _ (by omega) (by omega), nI_1, nI_leI (by omega) (by omega)]
        by_cases c4 : stF (ltK (k r)) row m d (m - 1 - d + 1 + e) + 1 ≤ 1 + mxF (ltK (k r)) row (stF (ltK (k r)) row m d) (m - 1 - d) e
        · refine brT c4 (fun v ev => ?_)
          rw [nI_1] at ev
          subst ev
          refine hG2 (m - (m - 1 - d + 1 + (e + 1))) _ _ (by omega) ⟨e + 1, rfl, by omega, rfl, ?_⟩
          rw [hse, if_neg (fun z => by have := z.1; omega)]
        · refine brF c4 (fun y4 e4 v ev => ?_)
          rw [OMS_59 _ _ _ _ (by omega), upd_upd] at e4
          rw [nI_1] at ev
          subst e4 ev
          refine hG2 (m - (m - 1 - d + 1 + (e + 1))) _ _ (by omega) ⟨e + 1, rfl, by omega, rfl, ?_⟩
          rw [hse, if_pos ⟨by omega, ltK_iff.mpr (Classical.byContradiction (fun z => c3 (cK_0le.mpr z)))⟩, Nat.add_comm 1]
