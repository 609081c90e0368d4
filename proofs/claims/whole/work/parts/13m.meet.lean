/-- the class's state with another meeting -/
def MXS (x : ST) (of be : Int32) (bg en : Nat → Int32) : ST := (fun k => if k = 18 then of else if k = 19 then be else x.1 k, fun p => if p = 27 then bg else if p = 28 then en else x.2.1 p, x.2.2)
theorem MXS_id (x : ST) : x = MXS x (x.1 18) (x.1 19) (x.2.1 27) (x.2.1 28) := by
  have e1 : x.1 = (MXS x (x.1 18) (x.1 19) (x.2.1 27) (x.2.1 28)).1 := by
    funext k; show _ = if k = 18 then x.1 18 else if k = 19 then x.1 19 else x.1 k
    by_cases c0 : k = 18
    · simp [c0]
    · skip
      by_cases c1 : k = 19
      · simp [c1]
      · skip
        simp [c0, c1]
  have e2 : x.2.1 = (MXS x (x.1 18) (x.1 19) (x.2.1 27) (x.2.1 28)).2.1 := by
    funext p; show _ = if p = 27 then x.2.1 27 else if p = 28 then x.2.1 28 else x.2.1 p
    by_cases c0 : p = 27
    · simp [c0]
    · skip
      by_cases c1 : p = 28
      · simp [c1]
      · skip
        simp [c0, c1]
  exact Prod.ext e1 (Prod.ext e2 rfl)
theorem MXS_18 (x : ST) (of be v : Int32) (bg en : Nat → Int32) : pI (MXS x of be bg en) 18 v = MXS x v be bg en := by
  refine Prod.ext ?_ rfl
  funext k
  show va_up (fun k => if k = 18 then of else if k = 19 then be else x.1 k) 18 v k = if k = 18 then v else if k = 19 then be else x.1 k
  unfold va_up
  by_cases c : k = 18
  · simp [c]
  · simp [c]
theorem MXS_19 (x : ST) (of be v : Int32) (bg en : Nat → Int32) : pI (MXS x of be bg en) 19 v = MXS x of v bg en := by
  refine Prod.ext ?_ rfl
  funext k
  show va_up (fun k => if k = 18 then of else if k = 19 then be else x.1 k) 19 v k = if k = 18 then of else if k = 19 then v else x.1 k
  unfold va_up
  by_cases c : k = 19
  · simp [c]
  · simp [c]
theorem MXS_27 (x : ST) (of be v : Int32) (bg en : Nat → Int32) {n : Nat} (hn : n < 2 ^ 31) : pA (MXS x of be bg en) 27 (nI n) v = MXS x of be (upd bg n v) en := by
  rw [pA_n _ _ hn]
  refine Prod.ext rfl (Prod.ext ?_ rfl)
  funext p
  show va_up (fun p => if p = 27 then bg else if p = 28 then en else x.2.1 p) 27 (upd bg n v) p = if p = 27 then upd bg n v else if p = 28 then en else x.2.1 p
  unfold va_up
  by_cases c : p = 27
  · simp [c]
  · simp [c]
theorem MXS_g27 (x : ST) (of be : Int32) (bg en : Nat → Int32) {n : Nat} (hn : n < 2 ^ 31) : gA (MXS x of be bg en) 27 (nI n) = bg n := by rw [gA_n _ _ hn]; rfl
theorem MXS_28 (x : ST) (of be v : Int32) (bg en : Nat → Int32) {n : Nat} (hn : n < 2 ^ 31) : pA (MXS x of be bg en) 28 (nI n) v = MXS x of be bg (upd en n v) := by
  rw [pA_n _ _ hn]
  refine Prod.ext rfl (Prod.ext ?_ rfl)
  funext p
  show va_up (fun p => if p = 27 then bg else if p = 28 then en else x.2.1 p) 28 (upd en n v) p = if p = 27 then bg else if p = 28 then upd en n v else x.2.1 p
  unfold va_up
  by_cases c : p = 28
  · simp [c]
  · simp [c]
theorem MXS_g28 (x : ST) (of be : Int32) (bg en : Nat → Int32) {n : Nat} (hn : n < 2 ^ 31) : gA (MXS x of be bg en) 28 (nI n) = en n := by rw [gA_n _ _ hn]; rfl
/-- the reference's state with another meeting -/
def MMS (y : ST) (of be : Int32) (bg en : Nat → Int32) : ST := (fun k => if k = 33 then of else if k = 34 then be else y.1 k, fun p => if p = 55 then bg else if p = 56 then en else y.2.1 p, y.2.2)
theorem MMS_id (y : ST) : y = MMS y (y.1 33) (y.1 34) (y.2.1 55) (y.2.1 56) := by
  have e1 : y.1 = (MMS y (y.1 33) (y.1 34) (y.2.1 55) (y.2.1 56)).1 := by
    funext k; show _ = if k = 33 then y.1 33 else if k = 34 then y.1 34 else y.1 k
    by_cases c0 : k = 33
    · simp [c0]
    · skip
      by_cases c1 : k = 34
      · simp [c1]
      · skip
        simp [c0, c1]
  have e2 : y.2.1 = (MMS y (y.1 33) (y.1 34) (y.2.1 55) (y.2.1 56)).2.1 := by
    funext p; show _ = if p = 55 then y.2.1 55 else if p = 56 then y.2.1 56 else y.2.1 p
    by_cases c0 : p = 55
    · simp [c0]
    · skip
      by_cases c1 : p = 56
      · simp [c1]
      · skip
        simp [c0, c1]
  exact Prod.ext e1 (Prod.ext e2 rfl)
theorem MMS_33 (y : ST) (of be v : Int32) (bg en : Nat → Int32) : pI (MMS y of be bg en) 33 v = MMS y v be bg en := by
  refine Prod.ext ?_ rfl
  funext k
  show va_up (fun k => if k = 33 then of else if k = 34 then be else y.1 k) 33 v k = if k = 33 then v else if k = 34 then be else y.1 k
  unfold va_up
  by_cases c : k = 33
  · simp [c]
  · simp [c]
theorem MMS_34 (y : ST) (of be v : Int32) (bg en : Nat → Int32) : pI (MMS y of be bg en) 34 v = MMS y of v bg en := by
  refine Prod.ext ?_ rfl
  funext k
  show va_up (fun k => if k = 33 then of else if k = 34 then be else y.1 k) 34 v k = if k = 33 then of else if k = 34 then v else y.1 k
  unfold va_up
  by_cases c : k = 34
  · simp [c]
  · simp [c]
theorem MMS_55 (y : ST) (of be v : Int32) (bg en : Nat → Int32) {n : Nat} (hn : n < 2 ^ 31) : pA (MMS y of be bg en) 55 (nI n) v = MMS y of be (upd bg n v) en := by
  rw [pA_n _ _ hn]
  refine Prod.ext rfl (Prod.ext ?_ rfl)
  funext p
  show va_up (fun p => if p = 55 then bg else if p = 56 then en else y.2.1 p) 55 (upd bg n v) p = if p = 55 then upd bg n v else if p = 56 then en else y.2.1 p
  unfold va_up
  by_cases c : p = 55
  · simp [c]
  · simp [c]
theorem MMS_g55 (y : ST) (of be : Int32) (bg en : Nat → Int32) {n : Nat} (hn : n < 2 ^ 31) : gA (MMS y of be bg en) 55 (nI n) = bg n := by rw [gA_n _ _ hn]; rfl
theorem MMS_56 (y : ST) (of be v : Int32) (bg en : Nat → Int32) {n : Nat} (hn : n < 2 ^ 31) : pA (MMS y of be bg en) 56 (nI n) v = MMS y of be bg (upd en n v) := by
  rw [pA_n _ _ hn]
  refine Prod.ext rfl (Prod.ext ?_ rfl)
  funext p
  show va_up (fun p => if p = 55 then bg else if p = 56 then en else y.2.1 p) 56 (upd en n v) p = if p = 55 then bg else if p = 56 then upd en n v else y.2.1 p
  unfold va_up
  by_cases c : p = 56
  · simp [c]
  · simp [c]
theorem MMS_g56 (y : ST) (of be : Int32) (bg en : Nat → Int32) {n : Nat} (hn : n < 2 ^ 31) : gA (MMS y of be bg en) 56 (nI n) = en n := by rw [gA_n _ _ hn]; rfl
theorem sm_le2 (w : Nat → Nat) {n : Nat} (h : ∀ c, c < n → w c ≤ 100) : ∀ c, c ≤ n → sm w c ≤ 100 * c
  | 0, _ => Nat.le_refl 0
  | c + 1, hc => by
    have h1 := sm_le2 w h c (by omega)
    have h2 := h c (by omega)
    show sm w c + w c ≤ 100 * (c + 1)
    omega
theorem sm_succ (w : Nat → Nat) (c : Nat) : sm w (c + 1) = sm w c + w c := rfl
theorem bestF_le2 (w : Nat → Nat) (all : Nat) : ∀ c, (bestF w all c).2 ≤ all
  | 0 => Nat.le_refl _
  | c + 1 => by
    have := bestF_le2 w all c
    unfold bestF
    split
    · show max (sm w (c + 1)) (all - sm w (c + 1)) ≤ all; omega
    · exact this
theorem nI_max {a b : Nat} (ha : a < 2 ^ 31) (hb : b < 2 ^ 31) : (if nI a < nI b then nI b else nI a) = nI (max a b) := by
  by_cases c : a < b
  · rw [if_pos ((nI_ltI ha hb).mpr c), show max a b = b by omega]
  · rw [if_neg (fun z => c ((nI_ltI ha hb).mp z)), show max a b = a by omega]
theorem am1 (a : Int32) : a + (-1) = a - 1 := by rw [Int32.sub_eq_add_neg]
/-- counting down to a place -/
theorem nI_down {k f : Nat} (hk : k < 2 ^ 31) (hf : f < 2 ^ 31) : nI k - 1 < nI f ↔ k ≤ f := by
  rcases Nat.eq_zero_or_pos k with h | h
  · subst h
    refine ⟨fun _ => Nat.zero_le _, fun _ => ?_⟩
    rw [i32_lt, nI_toI hf]
    have : (nI 0 - 1 : Int32).toInt = -1 := by decide
    omega
  · rw [nI_m1 h, nI_ltI (by omega) hf]; omega
/-- one crate more that was carried -/
theorem beg_step {w : Nat → Nat} {P : Nat → Prop} {b : Nat → Nat} {c v : Nat} {bg en : Nat → Int32} (hq : ∀ q, P q → bg q = nI (b q) ∧ en q = nI (b q + w q)) (hv : v = b c) : ∀ q, (P q ∨ q = c) → upd bg c (nI v) q = nI (b q) ∧ upd en c (nI (v + w c)) q = nI (b q + w q) := by
  intro q h
  unfold upd
  by_cases z : q = c
  · rw [if_pos z, if_pos z, z, hv]; exact ⟨rfl, rfl⟩
  · rw [if_neg z, if_neg z]
    exact hq q (h.resolve_right z)
theorem carry_x {c v wc hs of be : Nat} {K : Int32 → ST → Prop} {x : ST} {bg en : Nat → Int32} (hc : c < 60) (hh : hs < 5) (e1 : x.2.1 26 c = nI hs) (e2 : x.2.1 23 hs = nI wc)
    (h : K (nI (v + wc)) (MXS x (nI of) (nI be) (upd bg c (nI v)) (upd en c (nI (v + wc))))) : wX1_carryFrom (nI v) (nI c) K (MXS x (nI of) (nI be) bg en) := by
  unfold wX1_carryFrom
  refine ⟨vin (by omega) (by omega), fun x2 f2 => ?_⟩
  rw [MXS_27 _ _ _ _ _ _ (by omega)] at f2
  subst f2
  rw [gA_n _ 26 (by omega), show (MXS x (nI of) (nI be) (upd bg c (nI v)) en).2.1 26 c = nI hs from e1, gA_n _ 23 (by omega), show (MXS x (nI of) (nI be) (upd bg c (nI v)) en).2.1 23 hs = nI wc from e2, nI_add]
  refine ⟨vin (by omega) (by omega), fun x4 f4 => ?_⟩
  rw [MXS_28 _ _ _ _ _ _ (by omega)] at f4
  subst f4
  rw [MXS_g28 _ _ _ _ _ (by omega)]
  rw [show upd en c (nI (v + wc)) c = nI (v + wc) from if_pos rfl]
  exact h
theorem set_x {cnt of be : Nat} {w : Nat → Nat} {K : ST → Prop} {x : ST} {bg0 en0 : Nat → Int32} (hc : cnt ≤ 60) (hcn : x.1 17 = nI cnt) (hof : of ≤ cnt) (hw : ∀ c, c < cnt → w c ≤ 100 ∧ ∃ h, h < 5 ∧ x.2.1 26 c = nI h ∧ x.2.1 23 h = nI (w c))
    (h : ∀ bg en : Nat → Int32, (∀ c, c < cnt → bg c = nI (begF w (sm w cnt) of c) ∧ en c = nI (begF w (sm w cnt) of c + w c)) → K (MXS x (nI of) (nI be) bg en)) : ∃ n, it (fun (_ : Int32) (_ : Int32) (_ : ST) => False) (FX1_setMinutes_4 K) n 0 0 (MXS x (nI of) (nI be) bg0 en0) := by
  have hs := sm_le2 w (fun c hc => (hw c hc).1)
  refine it2 (I := fun mm v1 v2 x2 => ∃ c bg en, v1 = nI (sm w c) ∧ v2 = nI c ∧ c ≤ of ∧ mm = of - c ∧ x2 = MXS x (nI of) (nI be) bg en ∧ ∀ q, q < c → bg q = nI (begF w (sm w cnt) of q) ∧ en q = nI (begF w (sm w cnt) of q + w q)) ?_ (m := of)
    ⟨0, _, _, rfl, rfl, Nat.zero_le _, rfl, rfl, fun q hq => absurd hq (Nat.not_lt_zero q)⟩
  rintro mm v1 v2 x2 G ⟨c, bg, en, rfl, rfl, hc2, hmm, rfl, hq⟩ hG
  unfold FX1_setMinutes_4
  rw [show gI (MXS x (nI of) (nI be) bg en) 18 = nI of from rfl, nI_leI (by omega) (by omega)]
  by_cases c1 : of ≤ c
  · refine brT c1 (fun v ev => ?_)
    rw [show gI (MXS x (nI of) (nI be) bg en) 17 = nI cnt from hcn] at ev
    subst ev
    clear hG
    refine it2 (I := fun mm v1 v2 x2 => ∃ k bg en, v1 = nI (sm w cnt - sm w k) ∧ v2 = nI k - 1 ∧ of ≤ k ∧ k ≤ cnt ∧ mm = k - of ∧ x2 = MXS x (nI of) (nI be) bg en ∧ ∀ q, (q < of ∨ (k ≤ q ∧ q < cnt)) → bg q = nI (begF w (sm w cnt) of q) ∧ en q = nI (begF w (sm w cnt) of q + w q)) ?_ (m := cnt - of)
      ⟨cnt, bg, en, by rw [Nat.sub_self]; rfl, rfl, hof, Nat.le_refl _, rfl, rfl, fun q z => hq q (by omega)⟩
    clear hq hmm
    rintro mm v1 v2 x2 G ⟨k, bg, en, rfl, rfl, hk1, hk2, hmm, rfl, hq⟩ hG
    unfold FX1_setMinutes_34
    rw [show gI (MXS x (nI of) (nI be) bg en) 18 = nI of from rfl, nI_down (by omega) (by omega)]
    by_cases c3 : k ≤ of
    · exact brT c3 (h bg en (fun q z => hq q (by omega)))
    · refine brF c3 ?_
      obtain ⟨w1, hs1, hs5, w2, w3⟩ := hw (k - 1) (by omega)
      have s1 := sm_succ w (k - 1)
      rw [Nat.sub_add_cancel (by omega)] at s1
      have s2 : sm w k ≤ sm w cnt := sm_mono w hk2
      rw [nI_m1 (by omega)]
      refine carry_x (by omega) hs5 w2 w3 (fun v ev => ?_)
      rw [am1] at ev
      subst ev
      refine hG (k - 1 - of) _ _ _ (by omega) ⟨k - 1, _, _, ?_, rfl, by omega, by omega, rfl, rfl, ?_⟩
      · rw [show sm w cnt - sm w k + w (k - 1) = sm w cnt - sm w (k - 1) by omega]
      · intro q z
        refine beg_step (w := w) (b := begF w (sm w cnt) of) (P := fun q => q < of ∨ (k ≤ q ∧ q < cnt)) hq ?_ q ?_
        · unfold begF
          rw [if_neg (by omega), Nat.sub_add_cancel (by omega)]
        · show (q < of ∨ (k ≤ q ∧ q < cnt)) ∨ q = k - 1
          omega
  · refine brF c1 ?_
    obtain ⟨w1, hs1, hs5, w2, w3⟩ := hw c (by omega)
    refine carry_x (by omega) hs5 w2 w3 (fun v ev => ?_)
    rw [nI_1] at ev
    subst ev
    refine hG (of - (c + 1)) _ _ _ (by omega) ⟨c + 1, _, _, rfl, rfl, by omega, rfl, rfl, ?_⟩
    intro q z
    refine beg_step (w := w) (b := begF w (sm w cnt) of) (P := fun q => q < c) hq ?_ q ?_
    · unfold begF
      rw [if_pos (by omega)]
    · show q < c ∨ q = c
      omega
theorem set_m {cnt of be : Nat} {w : Nat → Nat} {K : ST → Prop} {y : ST} {bg0 en0 : Nat → Int32} (hc : cnt ≤ 60) (hcn : y.1 32 = nI cnt) (hof : of ≤ cnt) (hw : ∀ c, c < cnt → w c ≤ 100 ∧ ∃ h, h < 5 ∧ y.2.1 54 c = nI h ∧ y.2.1 45 h = nI (w c))
    (h : ∀ bg en : Nat → Int32, (∀ c, c < cnt → bg c = nI (begF w (sm w cnt) of c) ∧ en c = nI (begF w (sm w cnt) of c + w c)) → K (MMS y (nI of) (nI be) bg en)) : ∃ n, it (fun (_ : Int32) (_ : Int32) (_ : ST) => False) (FX7_meet_120 K) n 0 0 (MMS y (nI of) (nI be) bg0 en0) := by
  have hs := sm_le2 w (fun c hc => (hw c hc).1)
  refine it2 (I := fun mm v1 v2 x2 => ∃ c bg en, v1 = nI (sm w c) ∧ v2 = nI c ∧ c ≤ of ∧ mm = of - c ∧ x2 = MMS y (nI of) (nI be) bg en ∧ ∀ q, q < c → bg q = nI (begF w (sm w cnt) of q) ∧ en q = nI (begF w (sm w cnt) of q + w q)) ?_ (m := of)
    ⟨0, _, _, rfl, rfl, Nat.zero_le _, rfl, rfl, fun q hq => absurd hq (Nat.not_lt_zero q)⟩
  rintro mm v1 v2 x2 G ⟨c, bg, en, rfl, rfl, hc2, hmm, rfl, hq⟩ hG
  unfold FX7_meet_120
  rw [show gI (MMS y (nI of) (nI be) bg en) 33 = nI of from rfl, nI_leI (by omega) (by omega)]
  by_cases c1 : of ≤ c
  · refine brT c1 (fun v ev => ?_)
    rw [show gI (MMS y (nI of) (nI be) bg en) 32 = nI cnt from hcn] at ev
    subst ev
    clear hG
    refine it2 (I := fun mm v1 v2 x2 => ∃ k bg en, v1 = nI (sm w cnt - sm w k) ∧ v2 = nI k - 1 ∧ of ≤ k ∧ k ≤ cnt ∧ mm = k - of ∧ x2 = MMS y (nI of) (nI be) bg en ∧ ∀ q, (q < of ∨ (k ≤ q ∧ q < cnt)) → bg q = nI (begF w (sm w cnt) of q) ∧ en q = nI (begF w (sm w cnt) of q + w q)) ?_ (m := cnt - of)
      ⟨cnt, bg, en, by rw [Nat.sub_self]; rfl, rfl, hof, Nat.le_refl _, rfl, rfl, fun q z => hq q (by omega)⟩
    clear hq hmm
    rintro mm v1 v2 x2 G ⟨k, bg, en, rfl, rfl, hk1, hk2, hmm, rfl, hq⟩ hG
    unfold FX7_meet_176
    rw [show gI (MMS y (nI of) (nI be) bg en) 33 = nI of from rfl, nI_down (by omega) (by omega)]
    by_cases c3 : k ≤ of
    · exact brT c3 (h bg en (fun q z => hq q (by omega)))
    · refine brF c3 ?_
      obtain ⟨w1, hs1, hs5, w2, w3⟩ := hw (k - 1) (by omega)
      have s1 := sm_succ w (k - 1)
      rw [Nat.sub_add_cancel (by omega)] at s1
      have s2 : sm w k ≤ sm w cnt := sm_mono w hk2
      rw [nI_m1 (by omega)]
      refine ⟨vin (by omega) (by omega), fun y2 f2 => ?_⟩
      rw [MMS_55 _ _ _ _ _ _ (by omega)] at f2
      subst f2
      rw [gA_n _ 54 (by omega), show (MMS y (nI of) (nI be) (upd bg (k - 1) (nI (sm w cnt - sm w k))) en).2.1 54 (k - 1) = nI hs1 from w2, gA_n _ 45 (by omega), show (MMS y (nI of) (nI be) (upd bg (k - 1) (nI (sm w cnt - sm w k))) en).2.1 45 hs1 = nI (w (k - 1)) from w3, nI_add]
      refine ⟨vin (by omega) (by omega), fun v5 f5 y6 f6 v ev => ?_⟩
      rw [f5, MMS_56 _ _ _ _ _ _ (by omega)] at f6
      subst f5 f6
      rw [am1] at ev
      subst ev
      refine hG (k - 1 - of) _ _ _ (by omega) ⟨k - 1, _, _, ?_, rfl, by omega, by omega, rfl, rfl, ?_⟩
      · rw [show sm w cnt - sm w k + w (k - 1) = sm w cnt - sm w (k - 1) by omega]
      · intro q z
        refine beg_step (w := w) (b := begF w (sm w cnt) of) (P := fun q => q < of ∨ (k ≤ q ∧ q < cnt)) hq ?_ q ?_
        · unfold begF
          rw [if_neg (by omega), Nat.sub_add_cancel (by omega)]
        · show (q < of ∨ (k ≤ q ∧ q < cnt)) ∨ q = k - 1
          omega
  · refine brF c1 ?_
    obtain ⟨w1, hs1, hs5, w2, w3⟩ := hw c (by omega)
    refine ⟨vin (by omega) (by omega), fun y2 f2 => ?_⟩
    rw [MMS_55 _ _ _ _ _ _ (by omega)] at f2
    subst f2
    rw [gA_n _ 54 (by omega), show (MMS y (nI of) (nI be) (upd bg (c) (nI (sm w c))) en).2.1 54 (c) = nI hs1 from w2, gA_n _ 45 (by omega), show (MMS y (nI of) (nI be) (upd bg (c) (nI (sm w c))) en).2.1 45 hs1 = nI (w (c)) from w3, nI_add]
    refine ⟨vin (by omega) (by omega), fun v5 f5 y6 f6 v ev => ?_⟩
    rw [f5, MMS_56 _ _ _ _ _ _ (by omega)] at f6
    subst f5 f6
    rw [nI_1] at ev
    subst ev
    refine hG (of - (c + 1)) _ _ _ (by omega) ⟨c + 1, _, _, rfl, rfl, by omega, rfl, rfl, ?_⟩
    intro q z
    refine beg_step (w := w) (b := begF w (sm w cnt) of) (P := fun q => q < c) hq ?_ q ?_
    · unfold begF
      rw [if_pos (by omega)]
    · show q < c ∨ q = c
      omega
theorem meet_x {cnt : Nat} {w : Nat → Nat} {K : ST → Prop} {x : ST} (hc : cnt ≤ 60) (hcn : x.1 17 = nI cnt) (hw : ∀ c, c < cnt → w c ≤ 100 ∧ ∃ h, h < 5 ∧ x.2.1 26 c = nI h ∧ x.2.1 23 h = nI (w c))
    (h : ∀ bg en : Nat → Int32, (∀ c, c < cnt → bg c = nI (begF w (sm w cnt) (bestF w (sm w cnt) cnt).1 c) ∧ en c = nI (begF w (sm w cnt) (bestF w (sm w cnt) cnt).1 c + w c)) → K (MXS x (nI (bestF w (sm w cnt) cnt).1) (nI (bestF w (sm w cnt) cnt).2) bg en)) : wX1_meet K x := by
  have hs := sm_le2 w (fun c hc => (hw c hc).1)
  have hsc := hs cnt (Nat.le_refl _)
  unfold wX1_meet
  refine it2 (I := fun mm v1 v2 x2 => ∃ c, v1 = nI (sm w c) ∧ v2 = nI c ∧ c ≤ cnt ∧ mm = cnt - c ∧ x2 = x) ?_ (m := cnt) ⟨0, rfl, rfl, Nat.zero_le _, rfl, rfl⟩
  rintro mm v1 v2 x2 G ⟨c, rfl, rfl, hc2, hmm, hx2⟩ hG
  subst hx2
  unfold FX1_meet_4
  rw [show gI x2 17 = nI cnt from hcn, nI_leI (by omega) (by omega)]
  by_cases c1 : cnt ≤ c
  · refine brT c1 (fun x3 e3 x4 e4 => ?_)
    have e5 : x4 = MXS x2 (nI 0) (nI (sm w cnt)) (x2.2.1 27) (x2.2.1 28) := by
      rw [e4, e3]
      conv => lhs; rw [MXS_id x2]
      rw [MXS_18, MXS_19, show c = cnt by omega]
      rfl
    rw [e5, show c = cnt by omega]
    clear e3 e4 e5 hG
    refine it2 (I := fun mm v1 v2 x5 => ∃ c, v1 = nI (sm w c) ∧ v2 = nI c ∧ c ≤ cnt ∧ mm = cnt - c ∧ x5 = MXS x2 (nI (bestF w (sm w cnt) c).1) (nI (bestF w (sm w cnt) c).2) (x2.2.1 27) (x2.2.1 28)) ?_ (m := cnt) ⟨0, rfl, rfl, Nat.zero_le _, rfl, rfl⟩
    clear hmm c1 hc2
    rintro mm v1 v2 x5 G ⟨c, rfl, rfl, hc2, hmm, rfl⟩ hG
    unfold FX1_meet_46
    rw [show gI (MXS x2 (nI (bestF w (sm w cnt) c).1) (nI (bestF w (sm w cnt) c).2) (x2.2.1 27) (x2.2.1 28)) 17 = nI cnt from hcn, nI_leI (by omega) (by omega)]
    by_cases c1 : cnt ≤ c
    · refine brT c1 ?_
      unfold wX1_setMinutes
      rw [show c = cnt by omega]
      exact set_x hc hcn (bestF_le _ _ _) hw h
    · refine brF c1 ⟨vin (by omega) (by omega), ?_⟩
      obtain ⟨w1, hs1, hs5, w2, w3⟩ := hw c (by omega)
      rw [gA_n _ 26 (by omega), show (MXS x2 (nI (bestF w (sm w cnt) c).1) (nI (bestF w (sm w cnt) c).2) (x2.2.1 27) (x2.2.1 28)).2.1 26 c = nI hs1 from w2, gA_n _ 23 (by omega), show (MXS x2 (nI (bestF w (sm w cnt) c).1) (nI (bestF w (sm w cnt) c).2) (x2.2.1 27) (x2.2.1 28)).2.1 23 hs1 = nI (w c) from w3, nI_add]
      refine ⟨vin (by omega) (by omega), fun v3 e3 => ?_⟩
      subst e3
      have hle : sm w (c + 1) ≤ sm w cnt := sm_mono w (by omega)
      have hle2 := bestF_le2 w (sm w cnt) c
      have hst : bestF w (sm w cnt) (c + 1) = if max (sm w (c + 1)) (sm w cnt - sm w (c + 1)) < (bestF w (sm w cnt) c).2 then (c + 1, max (sm w (c + 1)) (sm w cnt - sm w (c + 1))) else bestF w (sm w cnt) c := rfl
      rw [← sm_succ]
      rw [pk_sub hle]
      generalize hB : bestF w (sm w cnt) c = B at hle2 hst
      intro v4 e4
      rw [nI_max (by omega) (by omega)] at e4
      subst e4
      rw [show gI (MXS x2 (nI B.1) (nI B.2) (x2.2.1 27) (x2.2.1 28)) 19 = nI B.2 from rfl, nI_leI (by omega) (by omega)]
      by_cases c4 : B.2 ≤ max (sm w (c + 1)) (sm w cnt - sm w (c + 1))
      · refine brT c4 ?_
        intro v ev
        rw [nI_1] at ev
        subst ev
        refine hG (cnt - (c + 1)) _ _ _ (by omega) ⟨c + 1, rfl, rfl, by omega, rfl, ?_⟩
        rw [hst, if_neg (by omega)]
      · refine brF c4 ?_
        intro x3 e3 x4 e4 v ev
        rw [nI_1] at e3 ev
        rw [MXS_18] at e3
        rw [e3, MXS_19] at e4
        clear e3
        subst e4 ev
        refine hG (cnt - (c + 1)) _ _ _ (by omega) ⟨c + 1, rfl, rfl, by omega, rfl, ?_⟩
        rw [hst, if_pos (by omega)]
  · refine brF c1 ⟨vin (by omega) (by omega), ?_⟩
    obtain ⟨w1, hs1, hs5, w2, w3⟩ := hw c (by omega)
    rw [gA_n _ 26 (by omega), w2, gA_n _ 23 (by omega), w3, nI_add]
    refine ⟨vin (by omega) (by omega), fun v3 e3 v4 e4 => ?_⟩
    rw [nI_1] at e4
    subst e3 e4
    exact hG (cnt - (c + 1)) _ _ _ (by omega) ⟨c + 1, rfl, rfl, by omega, rfl, rfl⟩
theorem meet_m {cnt : Nat} {w : Nat → Nat} {K : ST → Prop} {y : ST} (hc : cnt ≤ 60) (hcn : y.1 32 = nI cnt) (hw : ∀ c, c < cnt → w c ≤ 100 ∧ ∃ h, h < 5 ∧ y.2.1 54 c = nI h ∧ y.2.1 45 h = nI (w c))
    (h : ∀ bg en : Nat → Int32, (∀ c, c < cnt → bg c = nI (begF w (sm w cnt) (bestF w (sm w cnt) cnt).1 c) ∧ en c = nI (begF w (sm w cnt) (bestF w (sm w cnt) cnt).1 c + w c)) → K (MMS y (nI (bestF w (sm w cnt) cnt).1) (nI (bestF w (sm w cnt) cnt).2) bg en)) : wX7_meet K y := by
  have hs := sm_le2 w (fun c hc => (hw c hc).1)
  have hsc := hs cnt (Nat.le_refl _)
  unfold wX7_meet
  refine it2 (I := fun mm v1 v2 x2 => ∃ c, v1 = nI (sm w c) ∧ v2 = nI c ∧ c ≤ cnt ∧ mm = cnt - c ∧ x2 = y) ?_ (m := cnt) ⟨0, rfl, rfl, Nat.zero_le _, rfl, rfl⟩
  rintro mm v1 v2 x2 G ⟨c, rfl, rfl, hc2, hmm, hx2⟩ hG
  subst hx2
  unfold FX7_meet_4
  rw [show gI x2 32 = nI cnt from hcn, nI_leI (by omega) (by omega)]
  by_cases c1 : cnt ≤ c
  · refine brT c1 (fun x3 e3 x4 e4 => ?_)
    have e5 : x4 = MMS x2 (nI 0) (nI (sm w cnt)) (x2.2.1 55) (x2.2.1 56) := by
      rw [e4, e3]
      conv => lhs; rw [MMS_id x2]
      rw [MMS_33, MMS_34, show c = cnt by omega]
      rfl
    rw [e5, show c = cnt by omega]
    clear e3 e4 e5 hG
    refine it2 (I := fun mm v1 v2 x5 => ∃ c, v1 = nI (sm w c) ∧ v2 = nI c ∧ c ≤ cnt ∧ mm = cnt - c ∧ x5 = MMS x2 (nI (bestF w (sm w cnt) c).1) (nI (bestF w (sm w cnt) c).2) (x2.2.1 55) (x2.2.1 56)) ?_ (m := cnt) ⟨0, rfl, rfl, Nat.zero_le _, rfl, rfl⟩
    clear hmm c1 hc2
    rintro mm v1 v2 x5 G ⟨c, rfl, rfl, hc2, hmm, rfl⟩ hG
    unfold FX7_meet_46
    rw [show gI (MMS x2 (nI (bestF w (sm w cnt) c).1) (nI (bestF w (sm w cnt) c).2) (x2.2.1 55) (x2.2.1 56)) 32 = nI cnt from hcn, nI_leI (by omega) (by omega)]
    by_cases c1 : cnt ≤ c
    · refine brT c1 ?_
      rw [show c = cnt by omega]
      exact set_m hc hcn (bestF_le _ _ _) hw h
    · refine brF c1 ⟨vin (by omega) (by omega), ?_⟩
      obtain ⟨w1, hs1, hs5, w2, w3⟩ := hw c (by omega)
      rw [gA_n _ 54 (by omega), show (MMS x2 (nI (bestF w (sm w cnt) c).1) (nI (bestF w (sm w cnt) c).2) (x2.2.1 55) (x2.2.1 56)).2.1 54 c = nI hs1 from w2, gA_n _ 45 (by omega), show (MMS x2 (nI (bestF w (sm w cnt) c).1) (nI (bestF w (sm w cnt) c).2) (x2.2.1 55) (x2.2.1 56)).2.1 45 hs1 = nI (w c) from w3, nI_add]
      refine ⟨vin (by omega) (by omega), fun v3 e3 => ?_⟩
      subst e3
      have hle : sm w (c + 1) ≤ sm w cnt := sm_mono w (by omega)
      have hle2 := bestF_le2 w (sm w cnt) c
      have hst : bestF w (sm w cnt) (c + 1) = if max (sm w (c + 1)) (sm w cnt - sm w (c + 1)) < (bestF w (sm w cnt) c).2 then (c + 1, max (sm w (c + 1)) (sm w cnt - sm w (c + 1))) else bestF w (sm w cnt) c := rfl
      rw [← sm_succ]
      rw [pk_sub hle]
      generalize hB : bestF w (sm w cnt) c = B at hle2 hst
      rw [nI_leI (by omega) (by omega)]
      by_cases c4 : sm w (c + 1) ≤ sm w cnt - sm w (c + 1)
      · refine brT c4 (fun v4 e4 => ?_)
        subst e4
        rw [show gI (MMS x2 (nI B.1) (nI B.2) (x2.2.1 55) (x2.2.1 56)) 34 = nI B.2 from rfl, show (sm w cnt - sm w (c + 1)) = max (sm w (c + 1)) (sm w cnt - sm w (c + 1)) by omega, nI_ltI (by omega) (by omega)]
        by_cases c5 : max (sm w (c + 1)) (sm w cnt - sm w (c + 1)) < B.2
        · refine brT c5 ?_
          intro x3 e3 x4 e4 v ev
          rw [nI_1] at e3 ev
          rw [MMS_33] at e3
          rw [e3, MMS_34] at e4
          clear e3
          subst e4 ev
          refine hG (cnt - (c + 1)) _ _ _ (by omega) ⟨c + 1, rfl, rfl, by omega, rfl, ?_⟩
          rw [hst, if_pos (by omega)]
        · refine brF c5 ?_
          intro v ev
          rw [nI_1] at ev
          subst ev
          refine hG (cnt - (c + 1)) _ _ _ (by omega) ⟨c + 1, rfl, rfl, by omega, rfl, ?_⟩
          rw [hst, if_neg (by omega)]
      · refine brF c4 ?_
        rw [show gI (MMS x2 (nI B.1) (nI B.2) (x2.2.1 55) (x2.2.1 56)) 34 = nI B.2 from rfl, show (nI (sm w (c + 1)) < nI B.2) = (nI (max (sm w (c + 1)) (sm w cnt - sm w (c + 1))) < nI B.2) by rw [show max (sm w (c + 1)) (sm w cnt - sm w (c + 1)) = sm w (c + 1) by omega], nI_ltI (by omega) (by omega)]
        by_cases c5 : max (sm w (c + 1)) (sm w cnt - sm w (c + 1)) < B.2
        · refine brT c5 ?_
          intro x3 e3 x4 e4 v ev
          rw [nI_1] at e3 ev
          rw [MMS_33] at e3
          rw [e3, MMS_34] at e4
          clear e3
          subst e4 ev
          refine hG (cnt - (c + 1)) _ _ _ (by omega) ⟨c + 1, rfl, rfl, by omega, rfl, ?_⟩
          rw [hst, if_pos (by omega), show max (sm w (c + 1)) (sm w cnt - sm w (c + 1)) = sm w (c + 1) by omega]
        · refine brF c5 ?_
          intro v ev
          rw [nI_1] at ev
          subst ev
          refine hG (cnt - (c + 1)) _ _ _ (by omega) ⟨c + 1, rfl, rfl, by omega, rfl, ?_⟩
          rw [hst, if_neg (by omega)]
  · refine brF c1 ⟨vin (by omega) (by omega), ?_⟩
    obtain ⟨w1, hs1, hs5, w2, w3⟩ := hw c (by omega)
    rw [gA_n _ 54 (by omega), w2, gA_n _ 45 (by omega), w3, nI_add]
    refine ⟨vin (by omega) (by omega), fun v3 e3 v4 e4 => ?_⟩
    rw [nI_1] at e4
    subst e3 e4
    exact hG (cnt - (c + 1)) _ _ _ (by omega) ⟨c + 1, rfl, rfl, by omega, rfl, rfl⟩
