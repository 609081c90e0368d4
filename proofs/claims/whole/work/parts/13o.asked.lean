theorem x_in {a v : Int32} {K : Int32 → ST → Prop} {x : ST} {c : Nat} (hc : c ≤ 60) (hv : v = nI c) (h1 : ∀ j, j < c → a = nI j → K 1 x) (h2 : ¬ (∃ j, j < c ∧ a = nI j) → K 0 x) : wX6_within a 0 (v - 1) K x := by
  rw [within_iff, hv]
  rcases wi_in (a := a) (lo := 0) (hi := nI c - 1) with ⟨e, z⟩ | ⟨e, z⟩ <;> rw [e]
  · obtain ⟨i, hi, e2⟩ := (inn_n (by omega)).mp z
    exact h1 i hi e2
  · exact h2 (fun q => z ((inn_n (by omega)).mpr q))
theorem m_in {a v : Int32} {K : Int32 → ST → Prop} {y : ST} {c : Nat} (hc : c ≤ 60) (hv : v = nI c) (h1 : ∀ j, j < c → a = nI j → K 1 y) (h2 : ¬ (∃ j, j < c ∧ a = nI j) → K 0 y) : wX7_isIn a 0 (v - 1) K y := by
  rw [isIn_iff, hv]
  rcases wi_in (a := a) (lo := 0) (hi := nI c - 1) with ⟨e, z⟩ | ⟨e, z⟩ <;> rw [e]
  · obtain ⟨i, hi, e2⟩ := (inn_n (by omega)).mp z
    exact h1 i hi e2
  · exact h2 (fun q => z ((inn_n (by omega)).mpr q))
theorem R_of {n r ns m t : Nat} {x y : ST} (h : RR n r ns m t x y) : R x y := ⟨n, r, ns, m, t, h⟩
theorem nI_inj60 {i j : Nat} (hi : i < 60) (hj : j < 60) {a : Int32} (e : a = nI i) (e2 : a = nI j) : i = j := (nI_eq (by omega) (by omega)).mp (e.symm.trans e2)
/-! laid -/
def laV (n r ns : Nat) (x : ST) (i : Nat) (b : Int32) : Int32 := if b = 0 then (layX n r ns x).2.2.2.1 i else if b = 1 then (layX n r ns x).2.2.2.2.1 i else -1
theorem laid_x {n r ns m t : Nat} {x y : ST} {a b : Int32} {K : Int32 → ST → Prop} (hR : RR n r ns m t x y) (h1 : ∀ x' i, RR n r ns m t x' y → i < n → a = nI i → K (laV n r ns x' i b) x') (h2 : ¬ (∃ i, i < n ∧ a = nI i) → K (-1) x) : wX6_laid a b K x := by
  unfold wX6_laid wX0_has
  have hn := hR.1.1
  refine x_in hn hR.1.2.1 (fun i hi e => rbF n10 (plans_x hR (fun x' hR' hP => ?_))) (fun z => rbT rfl (h2 z))
  have h3 := h1 x' i hR' hi e
  obtain ⟨-, -, q, -⟩ := hP.1
  rw [e]
  refine ⟨fun z => ⟨vin (by omega) (by omega), ?_⟩, fun z => ⟨vin (by omega) (by omega), ?_⟩, fun z1 z2 => ?_⟩
  · rw [gA_n _ 20 (by omega), (q i hi).1]; rw [z] at h3; exact h3
  · rw [gA_n _ 21 (by omega), (q i hi).2]; rw [z] at h3; exact h3
  · unfold laV at h3; rw [if_neg z1, if_neg z2] at h3; exact h3
theorem nneg {g : Nat} (h : g < 2 ^ 31) : (0 : Int32) ≤ nI g := by rw [show (0 : Int32) = nI 0 from rfl, nI_leI (by omega) h]; omega
theorem laid_m {n r ns m t : Nat} {x y : ST} {a b : Int32} {K : Int32 → ST → Prop} (hR : RR n r ns m t x y) (h1 : ∀ y' i, RR n r ns m t x y' → i < n → a = nI i → K (laV n r ns x i b) y') (h2 : ¬ (∃ i, i < n ∧ a = nI i) → K (-1) y) : wX7_laid a b K y := by
  unfold wX7_laid wX7_isBook
  have hn := hR.1.1
  refine m_in hn hR.1.2.2.1 (fun i hi e => rbF n10 (lay_m hR (fun y' hR' hP => ?_))) (fun z => rbT rfl (h2 z))
  have h3 := h1 y' i hR' hi e
  obtain ⟨-, -, q, -⟩ := hP
  obtain ⟨q1, q2⟩ := q i hi
  rw [e]
  refine ⟨vin (by omega) (by omega), ?_⟩
  rw [gA_n _ 48 (by omega), gA_n _ 49 (by omega), q1]
  have hns := hR.2.2.2.2.1.1
  rcases layF_sh (ordX n r x) (x.2.1 13) (nds x) (x.2.1 16) ns (x.1 13) n i with ⟨p1, p2⟩ | ⟨g, p1, p2⟩
  · have p1 : (layX n r ns x).2.2.2.1 i = -1 := p1
    have p2 : (layX n r ns x).2.2.2.2.1 i = -1 := p2
    unfold laV at h3
    rw [p1, p2] at h3
    rw [p1]
    refine brF (by decide) ?_
    by_cases c1 : b = 0
    · rw [if_pos c1] at h3; exact h3
    · rw [if_neg c1] at h3
      by_cases c2 : b = 1
      · rw [if_pos c2] at h3; exact h3
      · rw [if_neg c2] at h3; exact h3
  · have p2 : (layX n r ns x).2.2.2.1 i = nI g := p2
    rw [p2]
    refine brT (nneg (by omega)) ⟨fun z => ⟨fun z2 => ?_, fun z2 => ?_⟩, fun z => ?_⟩
    · unfold laV at h3; rw [if_neg z, if_neg z2] at h3; exact h3
    · rw [z2] at h3
      rw [q2.resolve_left (fun w => by rw [p2] at w; exact absurd (nneg (g := g) (by omega)) (by rw [w]; decide))]
      exact h3
    · rw [z] at h3
      rw [← p2]
      exact h3
theorem s_laid (a b : Int32) : SIM (wX6_laid a b) (wX7_laid a b) := by
  intro x y Q hR h
  obtain ⟨n, r, ns, m, t, hRR⟩ := id hR
  have hn := hRR.1.1
  refine laid_x hRR (fun x' i hR' hi e => laid_m hR' (fun y' i2 hR2 hi2 e2 => ?_) (fun z => absurd ⟨i, hi, e⟩ z)) (fun z => laid_m hRR (fun y' i2 hR2 hi2 e2 => absurd ⟨i2, hi2, e2⟩ z) (fun _ => h _ _ _ hR))
  have := nI_inj60 (by omega) (by omega) e e2
  rw [this]
  exact h _ _ _ (R_of hR2)
/-! shelfOf -/
def shV (n r ns : Nat) (x : ST) (i : Nat) (b : Int32) : Int32 := if b = 0 then (layX n r ns x).2.2.2.2.2.1 i else if b = 1 then 100 * x.2.1 16 i - (layX n r ns x).2.2.2.2.2.2 i else -1
theorem shelfOf_x {n r ns m t : Nat} {x y : ST} {a b : Int32} {K : Int32 → ST → Prop} (hR : RR n r ns m t x y) (h1 : ∀ x' i, RR n r ns m t x' y → i < ns → a = nI i → K (shV n r ns x' i b) x') (h2 : ¬ (∃ i, i < ns ∧ a = nI i) → K (-1) x) : wX6_shelfOf a b K x := by
  unfold wX6_shelfOf
  have hn := hR.2.2.2.2.1.1
  refine x_in (by omega) hR.2.2.2.2.1.2.1 (fun i hi e => rbF n10 (plans_x hR (fun x' hR' hP => ?_))) (fun z => rbT rfl (h2 z))
  have h3 := h1 x' i hR' hi e
  obtain ⟨-, -, -, q⟩ := hP.1
  rw [e]
  refine ⟨fun z => ⟨vin (by omega) (by omega), ?_⟩, fun z => ?_, fun z1 z2 => ?_⟩
  · rw [gA_n _ 18 (by omega), (q i hi).1]; rw [z] at h3; exact h3
  · unfold wX4_room
    refine ⟨vin (by omega) (by omega), vin (by omega) (by omega), ?_⟩
    rw [gA_n _ 16 (by omega), gA_n _ 19 (by omega), (q i hi).2]; rw [z] at h3; exact h3
  · unfold shV at h3; rw [if_neg z1, if_neg z2] at h3; exact h3
theorem shelfOf_m {n r ns m t : Nat} {x y : ST} {a b : Int32} {K : Int32 → ST → Prop} (hR : RR n r ns m t x y) (h1 : ∀ y' i, RR n r ns m t x y' → i < ns → a = nI i → K (shV n r ns x i b) y') (h2 : ¬ (∃ i, i < ns ∧ a = nI i) → K (-1) y) : wX7_shelfOf a b K y := by
  unfold wX7_shelfOf
  have hn := hR.2.2.2.2.1.1
  refine m_in (by omega) hR.2.2.2.2.1.2.2.1 (fun i hi e => rbF n10 (lay_m hR (fun y' hR' hP => ?_))) (fun z => rbT rfl (h2 z))
  have h3 := h1 y' i hR' hi e
  obtain ⟨-, -, -, q, -⟩ := hP
  rw [e]
  refine ⟨fun z1 => ⟨fun z2 => ?_, fun z => ⟨vin (by omega) (by omega), ?_⟩⟩, fun z => ⟨vin (by omega) (by omega), ?_⟩⟩
  · unfold shV at h3; rw [if_neg z1, if_neg z2] at h3; exact h3
  · rw [gA_n _ 43 (by omega), gA_n _ 51 (by omega), (q i hi).2, ← hR'.2.2.2.2.1.2.2.2.1 i hi]; rw [z] at h3; exact h3
  · rw [gA_n _ 50 (by omega), (q i hi).1]; rw [z] at h3; exact h3
theorem s_shelfOf (a b : Int32) : SIM (wX6_shelfOf a b) (wX7_shelfOf a b) := by
  intro x y Q hR h
  obtain ⟨n, r, ns, m, t, hRR⟩ := id hR
  have hn := hRR.2.2.2.2.1.1
  refine shelfOf_x hRR (fun x' i hR' hi e => shelfOf_m hR' (fun y' i2 hR2 hi2 e2 => ?_) (fun z => absurd ⟨i, hi, e⟩ z)) (fun z => shelfOf_m hRR (fun y' i2 hR2 hi2 e2 => absurd ⟨i2, hi2, e2⟩ z) (fun _ => h _ _ _ hR))
  have := nI_inj60 (by omega) (by omega) e e2
  rw [this]
  exact h _ _ _ (R_of hR2)
/-! counts -/
theorem s_counts (a : Int32) : SIM (wX6_counts a) (wX7_counts a) := by
  intro x y Q hR h
  obtain ⟨n, r, ns, m, t, hRR⟩ := id hR
  unfold wX6_counts
  refine plans_x hRR (fun x' hR' hP => ⟨fun z => ?_, fun z => ?_, fun z => ?_, fun z0 z1 z2 => ?_⟩)
  · subst z
    unfold wX7_counts
    refine rbF (by decide) (lay_m hR' (fun y' hR2 hM => rbT rfl ?_))
    show Q (x'.1 14) (y'.1 30) x' y'
    rw [hP.1.1, hM.1]; exact h _ _ _ (R_of hR2)
  · subst z
    unfold wX7_counts
    refine rbF (by decide) (lay_m hR' (fun y' hR2 hM => rbF (by decide) (rbT rfl ?_)))
    show Q (x'.1 15) (y'.1 31) x' y'
    rw [hP.1.2.1, hM.2.1]; exact h _ _ _ (R_of hR2)
  · subst z
    unfold wX7_counts
    refine rbT rfl (pack_m hR' (fun y' hR2 hM => ?_))
    show Q (x'.1 17) (y'.1 32) x' y'
    rw [hP.2.1.1, hM.1]; exact h _ _ _ (R_of hR2)
  · unfold wX7_counts
    exact rbF z2 (lay_m hR' (fun y' hR2 hM => rbF z0 (rbF z1 (h _ _ _ (R_of hR2)))))
theorem s_meeting (a : Int32) : SIM (wX6_meeting a) (wX7_meeting a) := by
  intro x y Q hR h
  obtain ⟨n, r, ns, m, t, hRR⟩ := id hR
  unfold wX6_meeting
  refine plans_x hRR (fun x' hR' hP => ⟨fun z => ?_, fun z => ?_, fun z0 z1 => ?_⟩)
  · subst z
    unfold wX7_meeting
    refine pack_m hR' (fun y' hR2 hM => rbT rfl ?_)
    show Q (x'.1 18) (y'.1 33) x' y'
    rw [hP.2.2.1, hM.2.2.2.1]; exact h _ _ _ (R_of hR2)
  · subst z
    unfold wX7_meeting
    refine pack_m hR' (fun y' hR2 hM => rbF (by decide) (rbT rfl ?_))
    show Q (x'.1 19) (y'.1 34) x' y'
    rw [hP.2.2.2.1, hM.2.2.2.2.1]; exact h _ _ _ (R_of hR2)
  · unfold wX7_meeting
    exact pack_m hR' (fun y' hR2 hM => rbF z0 (rbF z1 (h _ _ _ (R_of hR2))))
/-! crate -/
def ofX (n r : Nat) (x : ST) : Nat := (bestF (wX x (packX n r x).2.2.2.2.1) (sm (wX x (packX n r x).2.2.2.2.1) (packX n r x).1) (packX n r x).1).1
def bgX (n r : Nat) (x : ST) : Nat → Nat := begF (wX x (packX n r x).2.2.2.2.1) (sm (wX x (packX n r x).2.2.2.2.1) (packX n r x).1) (ofX n r x)
def waX (n r : Nat) (x : ST) : Nat → Nat := wX x (packX n r x).2.2.2.2.1
theorem ofX_le {n r : Nat} {x : ST} : ofX n r x ≤ n := Nat.le_trans (bestF_le _ _ _) packX_le
def crV (n r : Nat) (x : ST) (j : Nat) (b : Int32) : Int32 := if b = 0 then (packX n r x).2.2.1 j else if b = 1 then (packX n r x).2.2.2.1 j else if b = 2 then (packX n r x).2.2.2.2.1 j else if b = 3 then nI (bgX n r x j) else if b = 4 then nI (bgX n r x j + waX n r x j) else if b = 5 then (if ofX n r x ≤ j then 1 else 0) else -1
theorem crate_x {n r ns m t : Nat} {x y : ST} {a b : Int32} {K : Int32 → ST → Prop} (hR : RR n r ns m t x y) (h1 : ∀ x' j, RR n r ns m t x' y → j < (packX n r x').1 → a = nI j → K (crV n r x' j b) x') (h2 : ∀ x', RR n r ns m t x' y → ¬ (∃ j, j < (packX n r x').1 ∧ a = nI j) → K (-1) x') : wX6_crate a b K x := by
  unfold wX6_crate
  have hn := hR.1.1
  refine plans_x hR (fun x' hR' hP => ?_)
  have hp := packX_le (n := n) (r := r) (x := x')
  have ho := ofX_le (n := n) (r := r) (x := x')
  refine x_in (by omega) hP.2.1.1 (fun j hj e => rbF n10 ?_) (fun z => rbT rfl (h2 x' hR' z))
  have h3 := h1 x' j hR' hj e
  obtain ⟨q1, q2, q3⟩ := hP.2.1.2.1 j hj
  obtain ⟨q4, q5⟩ := hP.2.2.2.2 j hj
  have q4 : x'.2.1 27 j = nI (bgX n r x' j) := q4
  have q5 : x'.2.1 28 j = nI (bgX n r x' j + waX n r x' j) := q5
  have q6 : gI x' 18 = nI (ofX n r x') := hP.2.2.1
  rw [e]
  refine ⟨fun z => ⟨vin (by omega) (by omega), ?_⟩, fun z => ⟨vin (by omega) (by omega), ?_⟩, fun z => ⟨vin (by omega) (by omega), ?_⟩, fun z => ⟨vin (by omega) (by omega), ?_⟩, fun z => ⟨vin (by omega) (by omega), ?_⟩, fun z => ?_, fun z0 z1 z2 z3 z4 z5 => ?_⟩
  · rw [gA_n _ 24 (by omega), q1]; rw [z] at h3; exact h3
  · rw [gA_n _ 25 (by omega), q2]; rw [z] at h3; exact h3
  · rw [gA_n _ 26 (by omega), q3]; rw [z] at h3; exact h3
  · rw [gA_n _ 27 (by omega), q4]; rw [z] at h3; exact h3
  · rw [gA_n _ 28 (by omega), q5]; rw [z] at h3; exact h3
  · rw [q6, nI_leI (by omega) (by omega)]
    rw [z] at h3
    have h3 : K (if ofX n r x' ≤ j then 1 else 0) x' := h3
    exact ⟨fun c => by rw [if_pos c] at h3; exact h3, fun c => by rw [if_neg c] at h3; exact h3⟩
  · unfold crV at h3; rw [if_neg z0, if_neg z1, if_neg z2, if_neg z3, if_neg z4, if_neg z5] at h3; exact h3
theorem crate_m {n r ns m t : Nat} {x y : ST} {a b : Int32} {K : Int32 → ST → Prop} (hR : RR n r ns m t x y) (h1 : ∀ y' j, RR n r ns m t x y' → j < (packX n r x).1 → a = nI j → K (crV n r x j b) y') (h2 : ∀ y', RR n r ns m t x y' → ¬ (∃ j, j < (packX n r x).1 ∧ a = nI j) → K (-1) y') : wX7_crate a b K y := by
  unfold wX7_crate
  have hn := hR.1.1
  have hp := packX_le (n := n) (r := r) (x := x)
  have ho := ofX_le (n := n) (r := r) (x := x)
  refine pack_m hR (fun y' hR' hM => ?_)
  refine m_in (by omega) hM.1 (fun j hj e => rbF n10 ?_) (fun z => rbT rfl (h2 y' hR' z))
  have h3 := h1 y' j hR' hj e
  obtain ⟨q1, q2, q3⟩ := hM.2.1 j hj
  obtain ⟨q4, q5⟩ := hM.2.2.2.2.2 j hj
  have q4 : y'.2.1 55 j = nI (bgX n r x j) := q4
  have q5 : y'.2.1 56 j = nI (bgX n r x j + waX n r x j) := q5
  have q6 : gI y' 33 = nI (ofX n r x) := hM.2.2.2.1
  rw [e]
  refine ⟨fun z => ⟨vin (by omega) (by omega), ?_⟩, fun z => ⟨vin (by omega) (by omega), ?_⟩, fun z => ⟨vin (by omega) (by omega), ?_⟩, fun z => ⟨vin (by omega) (by omega), ?_⟩, fun z => ⟨vin (by omega) (by omega), ?_⟩, fun z => ?_, fun z0 z1 z2 z3 z4 z5 => ?_⟩
  · rw [gA_n _ 52 (by omega), q1]; rw [z] at h3; exact h3
  · rw [gA_n _ 53 (by omega), q2]; rw [z] at h3; exact h3
  · rw [gA_n _ 54 (by omega), q3]; rw [z] at h3; exact h3
  · rw [gA_n _ 55 (by omega), q4]; rw [z] at h3; exact h3
  · rw [gA_n _ 56 (by omega), q5]; rw [z] at h3; exact h3
  · rw [q6, nI_leI (by omega) (by omega)]
    rw [z] at h3
    have h3 : K (if ofX n r x ≤ j then 1 else 0) y' := h3
    exact ⟨fun c => by rw [if_pos c] at h3; exact h3, fun c => by rw [if_neg c] at h3; exact h3⟩
  · unfold crV at h3; rw [if_neg z0, if_neg z1, if_neg z2, if_neg z3, if_neg z4, if_neg z5] at h3; exact h3
theorem s_crate (a b : Int32) : SIM (wX6_crate a b) (wX7_crate a b) := by
  intro x y Q hR h
  obtain ⟨n, r, ns, m, t, hRR⟩ := id hR
  have hn := hRR.1.1
  refine crate_x hRR (fun x' j hR' hj e => crate_m hR' (fun y' j2 hR2 hj2 e2 => ?_) (fun y' _ z => absurd ⟨j, hj, e⟩ z)) (fun x' hR' z => crate_m hR' (fun y' i2 hR2 hi2 e2 => absurd ⟨i2, hi2, e2⟩ z) (fun y' hR2 _ => h _ _ _ (R_of hR2)))
  have hp := packX_le (n := n) (r := r) (x := x')
  have := nI_inj60 (by omega) (by omega) e e2
  rw [this]
  exact h _ _ _ (R_of hR2)
