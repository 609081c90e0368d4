/-- the class's state while it reads a mark -/
def NXS (x : ST) (wr nu bh bd bl le : Int32) : ST := (fun k => if k = 4 then wr else if k = 5 then nu else if k = 6 then bh else if k = 7 then bd else if k = 8 then bl else if k = 9 then le else x.1 k, fun p => x.2.1 p, x.2.2)
theorem NXS_id (x : ST) : x = NXS x (x.1 4) (x.1 5) (x.1 6) (x.1 7) (x.1 8) (x.1 9) := by
  have e1 : x.1 = (NXS x (x.1 4) (x.1 5) (x.1 6) (x.1 7) (x.1 8) (x.1 9)).1 := by
    funext k; show _ = if k = 4 then x.1 4 else if k = 5 then x.1 5 else if k = 6 then x.1 6 else if k = 7 then x.1 7 else if k = 8 then x.1 8 else if k = 9 then x.1 9 else x.1 k
    by_cases c0 : k = 4
    · simp [c0]
    · skip
      by_cases c1 : k = 5
      · simp [c1]
      · skip
        by_cases c2 : k = 6
        · simp [c2]
        · skip
          by_cases c3 : k = 7
          · simp [c3]
          · skip
            by_cases c4 : k = 8
            · simp [c4]
            · skip
              by_cases c5 : k = 9
              · simp [c5]
              · skip
                simp [c0, c1, c2, c3, c4, c5]
  have e2 : x.2.1 = (NXS x (x.1 4) (x.1 5) (x.1 6) (x.1 7) (x.1 8) (x.1 9)).2.1 := rfl
  exact Prod.ext e1 (Prod.ext e2 rfl)
theorem NXS_4 (x : ST) (wr nu bh bd bl le v : Int32) : pI (NXS x wr nu bh bd bl le) 4 v = NXS x v nu bh bd bl le := by
  refine Prod.ext ?_ rfl
  funext k
  show va_up (fun k => if k = 4 then wr else if k = 5 then nu else if k = 6 then bh else if k = 7 then bd else if k = 8 then bl else if k = 9 then le else x.1 k) 4 v k = if k = 4 then v else if k = 5 then nu else if k = 6 then bh else if k = 7 then bd else if k = 8 then bl else if k = 9 then le else x.1 k
  unfold va_up
  by_cases c : k = 4
  · simp [c]
  · simp [c]
theorem NXS_5 (x : ST) (wr nu bh bd bl le v : Int32) : pI (NXS x wr nu bh bd bl le) 5 v = NXS x wr v bh bd bl le := by
  refine Prod.ext ?_ rfl
  funext k
  show va_up (fun k => if k = 4 then wr else if k = 5 then nu else if k = 6 then bh else if k = 7 then bd else if k = 8 then bl else if k = 9 then le else x.1 k) 5 v k = if k = 4 then wr else if k = 5 then v else if k = 6 then bh else if k = 7 then bd else if k = 8 then bl else if k = 9 then le else x.1 k
  unfold va_up
  by_cases c : k = 5
  · simp [c]
  · simp [c]
theorem NXS_6 (x : ST) (wr nu bh bd bl le v : Int32) : pI (NXS x wr nu bh bd bl le) 6 v = NXS x wr nu v bd bl le := by
  refine Prod.ext ?_ rfl
  funext k
  show va_up (fun k => if k = 4 then wr else if k = 5 then nu else if k = 6 then bh else if k = 7 then bd else if k = 8 then bl else if k = 9 then le else x.1 k) 6 v k = if k = 4 then wr else if k = 5 then nu else if k = 6 then v else if k = 7 then bd else if k = 8 then bl else if k = 9 then le else x.1 k
  unfold va_up
  by_cases c : k = 6
  · simp [c]
  · simp [c]
theorem NXS_7 (x : ST) (wr nu bh bd bl le v : Int32) : pI (NXS x wr nu bh bd bl le) 7 v = NXS x wr nu bh v bl le := by
  refine Prod.ext ?_ rfl
  funext k
  show va_up (fun k => if k = 4 then wr else if k = 5 then nu else if k = 6 then bh else if k = 7 then bd else if k = 8 then bl else if k = 9 then le else x.1 k) 7 v k = if k = 4 then wr else if k = 5 then nu else if k = 6 then bh else if k = 7 then v else if k = 8 then bl else if k = 9 then le else x.1 k
  unfold va_up
  by_cases c : k = 7
  · simp [c]
  · simp [c]
theorem NXS_8 (x : ST) (wr nu bh bd bl le v : Int32) : pI (NXS x wr nu bh bd bl le) 8 v = NXS x wr nu bh bd v le := by
  refine Prod.ext ?_ rfl
  funext k
  show va_up (fun k => if k = 4 then wr else if k = 5 then nu else if k = 6 then bh else if k = 7 then bd else if k = 8 then bl else if k = 9 then le else x.1 k) 8 v k = if k = 4 then wr else if k = 5 then nu else if k = 6 then bh else if k = 7 then bd else if k = 8 then v else if k = 9 then le else x.1 k
  unfold va_up
  by_cases c : k = 8
  · simp [c]
  · simp [c]
theorem NXS_9 (x : ST) (wr nu bh bd bl le v : Int32) : pI (NXS x wr nu bh bd bl le) 9 v = NXS x wr nu bh bd bl v := by
  refine Prod.ext ?_ rfl
  funext k
  show va_up (fun k => if k = 4 then wr else if k = 5 then nu else if k = 6 then bh else if k = 7 then bd else if k = 8 then bl else if k = 9 then le else x.1 k) 9 v k = if k = 4 then wr else if k = 5 then nu else if k = 6 then bh else if k = 7 then bd else if k = 8 then bl else if k = 9 then v else x.1 k
  unfold va_up
  by_cases c : k = 9
  · simp [c]
  · simp [c]
/-! what a tape says: how many fit in a row from a place on; the number; the letters -/
def cntF (p : Nat → Bool) (s : Nat) : Nat → Nat
  | 0 => 0
  | f + 1 => if p s = true then 1 + cntF p (s + 1) f else 0
theorem cntF_le (p : Nat → Bool) : ∀ f s, cntF p s f ≤ f
  | 0, s => Nat.le_refl 0
  | f + 1, s => by
    have := cntF_le p f (s + 1)
    unfold cntF
    split <;> omega
theorem cntF_all (p : Nat → Bool) : ∀ f s q, s ≤ q → q < s + cntF p s f → p q = true
  | 0, s, q, h1, h2 => absurd h2 (by show ¬ q < s + 0; omega)
  | f + 1, s, q, h1, h2 => by
    unfold cntF at h2
    by_cases c : p s = true
    · rw [if_pos c] at h2
      by_cases z : q = s
      · rw [z]; exact c
      · exact cntF_all p f (s + 1) q (by omega) (by omega)
    · rw [if_neg c] at h2
      omega
theorem cntF_stop (p : Nat → Bool) : ∀ f s, cntF p s f < f → ¬ p (s + cntF p s f) = true
  | 0, s, h => absurd h (Nat.not_lt_zero _)
  | f + 1, s, h => by
    unfold cntF at h ⊢
    by_cases c : p s = true
    · rw [if_pos c] at h ⊢
      rw [← Nat.add_assoc]
      exact cntF_stop p f (s + 1) (by omega)
    · rw [if_neg c]; exact c
theorem cntF_go {p : Nat → Bool} {s f : Nat} (h : p s = true) : cntF p s (f + 1) = 1 + cntF p (s + 1) f := by
  conv => lhs; unfold cntF
  rw [if_pos h]
theorem cntF_no {p : Nat → Bool} {s : Nat} (h : ¬ p s = true) : ∀ f, cntF p s f = 0
  | 0 => rfl
  | f + 1 => by
    conv => lhs; unfold cntF
    rw [if_neg h]
def valF (D : Nat → Nat) (s : Nat) : Nat → Nat
  | 0 => 0
  | k + 1 => valF D s k * 10 + D (s + k)
def letF (E : Nat → Nat) (s c : Nat) : Nat → Nat
  | 0 => 0
  | k + 1 => letF E s c k * 27 + (if k < c then E (s + k) else 0)
def elvF (D : Nat → Nat) (s d : Nat) : Nat → Nat
  | 0 => 0
  | k + 1 => elvF D s d k * 11 + (if k < d then D (s + k) + 1 else 0)
theorem valF_lt (D : Nat → Nat) (s : Nat) : ∀ k, (∀ q, s ≤ q → q < s + k → D q ≤ 9) → valF D s k < 10 ^ k
  | 0, _ => by show 0 < 1; omega
  | k + 1, h => by
    have ih := valF_lt D s k (fun q h1 h2 => h q h1 (by omega))
    have := h (s + k) (by omega) (by omega)
    show valF D s k * 10 + D (s + k) < 10 ^ (k + 1)
    rw [Nat.pow_succ]; omega
theorem letF_lt (E : Nat → Nat) (s c : Nat) : ∀ k, (∀ q, s ≤ q → q < s + c → E q ≤ 26) → letF E s c k < 27 ^ k
  | 0, _ => by show 0 < 1; omega
  | k + 1, h => by
    have ih := letF_lt E s c k h
    show letF E s c k * 27 + (if k < c then E (s + k) else 0) < 27 ^ (k + 1)
    rw [Nat.pow_succ]
    split
    · have := h (s + k) (by omega) (by omega); omega
    · omega
theorem elvF_eq (D : Nat → Nat) (s d : Nat) (h : ∀ q, s ≤ q → q < s + d → D q ≤ 9) : ∀ k, k ≤ d → elvF D s d k = elev (valF D s k) k
  | 0, _ => rfl
  | k + 1, hk => by
    have ih := elvF_eq D s d h k (by omega)
    have h9 := h (s + k) (by omega) (by omega)
    show elvF D s d k * 11 + (if k < d then D (s + k) + 1 else 0) = elev (valF D s k * 10 + D (s + k)) (k + 1)
    show _ = elev ((valF D s k * 10 + D (s + k)) / 10) k * 11 + ((valF D s k * 10 + D (s + k)) % 10 + 1)
    rw [if_pos (by omega), ih, show (valF D s k * 10 + D (s + k)) / 10 = valF D s k by omega, show (valF D s k * 10 + D (s + k)) % 10 = D (s + k) by omega]
theorem elvF_more (D : Nat → Nat) (s d : Nat) : ∀ j, elvF D s d (d + j) = elvF D s d d * 11 ^ j
  | 0 => by rw [Nat.pow_zero, Nat.mul_one]; rfl
  | j + 1 => by
    have ih := elvF_more D s d j
    show elvF D s d (d + j) * 11 + (if d + j < d then _ else 0) = _
    rw [if_neg (by omega), ih, Nat.pow_succ, Nat.add_zero, Nat.mul_assoc]
theorem elvF_4 {D : Nat → Nat} {s d : Nat} (hd : d ≤ 4) (h : ∀ q, s ≤ q → q < s + d → D q ≤ 9) : elvF D s d 4 = elev (valF D s d) d * 11 ^ (4 - d) := by
  have e := elvF_more D s d (4 - d)
  rw [show d + (4 - d) = 4 by omega, elvF_eq D s d h d (Nat.le_refl _)] at e
  exact e
def isd (by_ : Nat → Int32) (p : Nat) : Bool := decide (wi (by_ p) 48 57 = 1)
def isl (by_ : Nat → Int32) (p : Nat) : Bool := decide (wi (by_ p) 97 122 = 1)
def dgF (by_ : Nat → Int32) (p : Nat) : Nat := (by_ p).toInt.toNat - 48
def ltF (by_ : Nat → Int32) (p : Nat) : Nat := (by_ p).toInt.toNat - 96
theorem isd_is {f : Nat → Int32} {p : Nat} (h : isd f p = true) : f p = nI (48 + dgF f p) ∧ dgF f p ≤ 9 := by
  unfold isd at h
  rw [decide_eq_true_iff] at h
  rcases wi_in (a := f p) (lo := 48) (hi := 57) with ⟨e, c⟩ | ⟨e, c⟩
  · obtain ⟨j, h1, h2, h3⟩ := wi_of (lo := 48) (hi := 57) (by omega) (by omega) c.1 c.2
    have e2 : dgF f p = j - 48 := by unfold dgF; rw [h3, nI_toI (by omega)]; omega
    rw [e2, h3, show 48 + (j - 48) = j by omega]
    exact ⟨rfl, by omega⟩
  · rw [e] at h; exact absurd h (by decide)
theorem isl_is {f : Nat → Int32} {p : Nat} (h : isl f p = true) : f p = nI (96 + ltF f p) ∧ ltF f p ≤ 26 ∧ 1 ≤ ltF f p := by
  unfold isl at h
  rw [decide_eq_true_iff] at h
  rcases wi_in (a := f p) (lo := 97) (hi := 122) with ⟨e, c⟩ | ⟨e, c⟩
  · obtain ⟨j, h1, h2, h3⟩ := wi_of (lo := 97) (hi := 122) (by omega) (by omega) c.1 c.2
    have e2 : ltF f p = j - 96 := by unfold ltF; rw [h3, nI_toI (by omega)]; omega
    rw [e2, h3, show 96 + (j - 96) = j by omega]
    exact ⟨rfl, by omega, by omega⟩
  · rw [e] at h; exact absurd h (by decide)
/-- the tape, and nothing behind it -/
def byF (tp : Nat → Int32) (t : Nat) (p : Nat) : Int32 := if p < t then tp p else -1
theorem isd_lt {tp : Nat → Int32} {t p : Nat} (h : isd (byF tp t) p = true) : p < t := by
  refine Classical.byContradiction (fun z => ?_)
  unfold isd byF at h
  rw [if_neg z] at h
  exact absurd h (by decide)
theorem isl_lt {tp : Nat → Int32} {t p : Nat} (h : isl (byF tp t) p = true) : p < t := by
  refine Classical.byContradiction (fun z => ?_)
  unfold isl byF at h
  rw [if_neg z] at h
  exact absurd h (by decide)
theorem byte_x {t p : Nat} {K : Int32 → ST → Prop} {x : ST} (ht : t ≤ 20) (hp : p < 2 ^ 30) (hx3 : x.1 3 = nI t) (h : K (byF (x.2.1 2) t p) x) : wX5_byteAt (nI p) K x := by
  unfold wX5_byteAt
  rw [show gI x 3 = nI t from hx3]
  unfold byF at h
  refine x_in (c := t) (by omega) rfl (fun j hj e => brF n10 ?_) (fun z => brT rfl ?_)
  · have e2 : p = j := (nI_eq (by omega) (by omega)).mp e
    rw [if_pos (by omega)] at h
    rw [gA_n _ _ (by omega)]
    exact ⟨vin (by omega) (by omega), h⟩
  · rw [if_neg (fun q => z ⟨p, q, rfl⟩)] at h
    exact h
theorem see_m {t p : Nat} {K : Int32 → ST → Prop} {y : ST} (ht : t ≤ 20) (hp : p < 2 ^ 30) (hy27 : y.1 27 = nI t) (h : K (byF (y.2.1 46) t p) y) : wX7_see (nI p) K y := by
  unfold wX7_see
  rw [show gI y 27 = nI t from hy27, nI_leI (by omega) (by omega), gA_n _ _ (by omega)]
  unfold byF at h
  by_cases c : p < t
  · rw [if_pos c] at h
    exact brF (by omega) ⟨vin (by omega) (by omega), h⟩
  · rw [if_neg c] at h
    exact brT (by omega) h
theorem digits_x {t s : Nat} {K : Int32 → ST → Prop} {x : ST} (ht : t ≤ 20) (hs : s ≤ 100) (hx3 : x.1 3 = nI t) (h : K (nI (s + cntF (isd (byF (x.2.1 2) t)) s 4)) x) : wX2_pastDigits (nI s) K x := by
  unfold wX2_pastDigits
  refine it1 (I := fun mm v x2 => ∃ j, v = nI (s + j) ∧ j ≤ 4 ∧ mm = 4 - j ∧ x2 = x ∧ cntF (isd (byF (x.2.1 2) t)) s 4 = j + cntF (isd (byF (x.2.1 2) t)) (s + j) (4 - j)) ?_ (m := 4) ⟨0, rfl, by omega, rfl, rfl, by rw [Nat.zero_add]; rfl⟩
  rintro mm v x2 G ⟨j, rfl, hj, hmm, hx, hc⟩ hG
  subst hx
  unfold FX2_pastDigits_2
  rw [show (4 : Int32) = nI 4 from rfl, nI_add, nI_leI (by omega) (by omega)]
  by_cases c : s + 4 ≤ s + j
  · refine brT c ?_
    rw [hc, show 4 - j = 0 by omega] at h
    exact h
  · refine brF c ?_
    unfold wX5_digitAt
    refine byte_x ht (by omega) hx3 ?_
    rw [within_iff]
    by_cases c2 : isd (byF (x2.2.1 2) t) (s + j) = true
    · have c3 := c2
      unfold isd at c3
      rw [decide_eq_true_iff] at c3
      rw [c3]
      refine brF n10 (fun v ev => ?_)
      rw [nI_1] at ev
      subst ev
      refine hG (4 - (j + 1)) _ _ (by omega) ⟨j + 1, rfl, by omega, rfl, rfl, ?_⟩
      rw [hc, show 4 - j = 4 - (j + 1) + 1 by omega, cntF_go c2]
      rw [show s + j + 1 = s + (j + 1) by omega]
      omega
    · have c3 : wi (byF (x2.2.1 2) t (s + j)) 48 57 = 0 := by
        rcases wi_in (a := byF (x2.2.1 2) t (s + j)) (lo := 48) (hi := 57) with ⟨e, -⟩ | ⟨e, -⟩
        · exact absurd (by unfold isd; rw [decide_eq_true_iff]; exact e) c2
        · exact e
      rw [c3]
      refine brT rfl ?_
      rw [hc, cntF_no c2] at h
      exact h
theorem letters_x {t s : Nat} {K : Int32 → ST → Prop} {x : ST} (ht : t ≤ 20) (hs : s ≤ 100) (hx3 : x.1 3 = nI t) (h : K (nI (s + cntF (isl (byF (x.2.1 2) t)) s 3)) x) : wX2_pastLetters (nI s) K x := by
  unfold wX2_pastLetters
  refine it1 (I := fun mm v x2 => ∃ j, v = nI (s + j) ∧ j ≤ 3 ∧ mm = 3 - j ∧ x2 = x ∧ cntF (isl (byF (x.2.1 2) t)) s 3 = j + cntF (isl (byF (x.2.1 2) t)) (s + j) (3 - j)) ?_ (m := 3) ⟨0, rfl, by omega, rfl, rfl, by rw [Nat.zero_add]; rfl⟩
  rintro mm v x2 G ⟨j, rfl, hj, hmm, hx, hc⟩ hG
  subst hx
  unfold FX2_pastLetters_2
  rw [show (3 : Int32) = nI 3 from rfl, nI_add, nI_leI (by omega) (by omega)]
  by_cases c : s + 3 ≤ s + j
  · refine brT c ?_
    rw [hc, show 3 - j = 0 by omega] at h
    exact h
  · refine brF c ?_
    unfold wX5_letterAt
    refine byte_x ht (by omega) hx3 ?_
    rw [within_iff]
    by_cases c2 : isl (byF (x2.2.1 2) t) (s + j) = true
    · have c3 := c2
      unfold isl at c3
      rw [decide_eq_true_iff] at c3
      rw [c3]
      refine brF n10 (fun v ev => ?_)
      rw [nI_1] at ev
      subst ev
      refine hG (3 - (j + 1)) _ _ (by omega) ⟨j + 1, rfl, by omega, rfl, rfl, ?_⟩
      rw [hc, show 3 - j = 3 - (j + 1) + 1 by omega, cntF_go c2]
      rw [show s + j + 1 = s + (j + 1) by omega]
      omega
    · have c3 : wi (byF (x2.2.1 2) t (s + j)) 97 122 = 0 := by
        rcases wi_in (a := byF (x2.2.1 2) t (s + j)) (lo := 97) (hi := 122) with ⟨e, -⟩ | ⟨e, -⟩
        · exact absurd (by unfold isl; rw [decide_eq_true_iff]; exact e) c2
        · exact e
      rw [c3]
      refine brT rfl ?_
      rw [hc, cntF_no c2] at h
      exact h
theorem value_x {t s c : Nat} {K : Int32 → ST → Prop} {x : ST} (ht : t ≤ 20) (hs : s + c ≤ 100) (hx3 : x.1 3 = nI t) (hd : ∀ q, s ≤ q → q < s + c → isd (byF (x.2.1 2) t) q = true) (h : K (nI (valF (dgF (byF (x.2.1 2) t)) s c)) x) : wX2_valueOf (nI s) (nI (s + c)) K x := by
  unfold wX2_valueOf
  refine it2 (I := fun mm v3 v4 x2 => ∃ j, v3 = nI (valF (dgF (byF (x.2.1 2) t)) s j) ∧ v4 = nI (s + j) ∧ j ≤ c ∧ mm = c - j ∧ x2 = x) ?_ (m := c) ⟨0, rfl, rfl, by omega, rfl, rfl⟩
  rintro mm v3 v4 x2 G ⟨j, rfl, rfl, hj, hmm, hx⟩ hG
  subst hx
  unfold FX2_valueOf_5
  rw [nI_leI (by omega) (by omega)]
  by_cases c1 : s + c ≤ s + j
  · refine brT c1 ?_
    rw [show j = c by omega]
    exact h
  · refine brF c1 (byte_x ht (by omega) hx3 (fun v ev w ew => ?_))
    obtain ⟨e1, e2⟩ := isd_is (hd (s + j) (by omega) (by omega))
    rw [e1, show (10 : Int32) = nI 10 from rfl, show (48 : Int32) = nI 48 from rfl, nI_mul, nI_add, pk_sub (by omega)] at ev
    rw [nI_1] at ew
    subst ev ew
    refine hG (c - (j + 1)) _ _ _ (by omega) ⟨j + 1, ?_, rfl, by omega, rfl, rfl⟩
    show nI _ = nI (valF (dgF (byF (x2.2.1 2) t)) s j * 10 + dgF (byF (x2.2.1 2) t) (s + j))
    rw [show valF (dgF (byF (x2.2.1 2) t)) s j * 10 + (48 + dgF (byF (x2.2.1 2) t) (s + j)) - 48 = valF (dgF (byF (x2.2.1 2) t)) s j * 10 + dgF (byF (x2.2.1 2) t) (s + j) by omega]
theorem rdlet_x {t s c : Nat} {K : ST → Prop} {x : ST} {wr nu bh bd bl le0 : Int32} (ht : t ≤ 20) (hs : s ≤ 100) (hc : c ≤ 3) (hx3 : x.1 3 = nI t) (hd : ∀ q, s ≤ q → q < s + c → isl (byF (x.2.1 2) t) q = true) (h : K (NXS x wr nu bh bd bl (nI (letF (ltF (byF (x.2.1 2) t)) s c 3)))) : wX2_readLetters (nI s) (nI (s + c)) K (NXS x wr nu bh bd bl le0) := by
  unfold wX2_readLetters
  intro x1 e1
  rw [NXS_9] at e1
  subst e1
  refine it1 (I := fun mm v4 x2 => ∃ k, v4 = nI (s + k) ∧ k ≤ 3 ∧ mm = 3 - k ∧ x2 = NXS x wr nu bh bd bl (nI (letF (ltF (byF (x.2.1 2) t)) s c k))) ?_ (m := 3) ⟨0, rfl, by omega, rfl, rfl⟩
  rintro mm v4 x2 G ⟨k, rfl, hk, hmm, rfl⟩ hG
  unfold FX2_readLetters_8
  rw [show (3 : Int32) = nI 3 from rfl, nI_add, nI_leI (by omega) (by omega), nI_leI (by omega) (by omega)]
  by_cases c1 : s + 3 ≤ s + k
  · refine brT c1 ?_
    rw [show k = 3 by omega]
    exact h
  · refine brF c1 ?_
    rw [show gI (NXS x wr nu bh bd bl (nI (letF (ltF (byF (x.2.1 2) t)) s c k))) 9 = nI (letF (ltF (byF (x.2.1 2) t)) s c k) from rfl, show (27 : Int32) = nI 27 from rfl, nI_mul]
    by_cases c2 : s + c ≤ s + k
    · refine brT c2 (fun x3 e3 v ev => ?_)
      rw [show (0 : Int32) = nI 0 from rfl, nI_add, NXS_9] at e3
      rw [nI_1] at ev
      subst e3 ev
      refine hG (3 - (k + 1)) _ _ (by omega) ⟨k + 1, rfl, by omega, rfl, ?_⟩
      show _ = NXS x wr nu bh bd bl (nI (letF (ltF (byF (x.2.1 2) t)) s c k * 27 + (if k < c then _ else 0)))
      rw [if_neg (by omega)]
    · refine brF c2 (byte_x (x := NXS x wr nu bh bd bl (nI (letF (ltF (byF (x.2.1 2) t)) s c k))) ht (by omega) hx3 (fun x3 e3 v ev => ?_))
      obtain ⟨e1, e2, e4⟩ := isl_is (hd (s + k) (by omega) (by omega))
      have e1 : byF ((NXS x wr nu bh bd bl (nI (letF (ltF (byF (x.2.1 2) t)) s c k))).2.1 2) t (s + k) = nI (96 + ltF (byF (x.2.1 2) t) (s + k)) := e1
      rw [e1, show (97 : Int32) = nI 97 from rfl, pk_sub (by omega), nI_1, nI_add, NXS_9, show 96 + ltF (byF (x.2.1 2) t) (s + k) - 97 + 1 = ltF (byF (x.2.1 2) t) (s + k) by omega] at e3
      rw [nI_1] at ev
      subst e3 ev
      refine hG (3 - (k + 1)) _ _ (by omega) ⟨k + 1, rfl, by omega, rfl, ?_⟩
      show _ = NXS x wr nu bh bd bl (nI (letF (ltF (byF (x.2.1 2) t)) s c k * 27 + (if k < c then _ else 0)))
      rw [if_pos (by omega)]
theorem rdbeh_x {t s d : Nat} {K : ST → Prop} {x : ST} {wr nu bh bd le : Int32} (ht : t ≤ 20) (hs : s ≤ 50) (hd4 : d ≤ 4) (hx3 : x.1 3 = nI t) (hd : ∀ q, s ≤ q → q < s + d → isd (byF (x.2.1 2) t) q = true) (h : K (NXS x wr nu (nI (valF (dgF (byF (x.2.1 2) t)) s d)) (nI d) (nI (elvF (dgF (byF (x.2.1 2) t)) s d 4)) le)) : wX2_readBehind (nI s) (nI (s + d)) K (NXS x wr nu bh bd 0 le) := by
  unfold wX2_readBehind
  refine value_x (x := NXS x wr nu bh bd 0 le) ht (by omega) hx3 hd (fun x2 e2 x3 e3 => ?_)
  rw [NXS_6] at e2
  rw [e2, NXS_7, pk_sub (by omega), show s + d - s = d by omega] at e3
  clear e2
  subst e3
  refine it1 (I := fun mm v4 x2 => ∃ k, v4 = nI (s + k) ∧ k ≤ 4 ∧ mm = 4 - k ∧ x2 = NXS x wr nu (nI (valF (dgF (byF (x.2.1 2) t)) s d)) (nI d) (nI (elvF (dgF (byF (x.2.1 2) t)) s d k)) le) ?_ (m := 4) ⟨0, rfl, by omega, rfl, rfl⟩
  rintro mm v4 x2 G ⟨k, rfl, hk, hmm, rfl⟩ hG
  unfold FX2_readBehind_20
  rw [show (4 : Int32) = nI 4 from rfl, nI_add, nI_leI (by omega) (by omega), nI_leI (by omega) (by omega)]
  by_cases c1 : s + 4 ≤ s + k
  · refine brT c1 ?_
    rw [show k = 4 by omega]
    exact h
  · refine brF c1 ?_
    rw [show gI (NXS x wr nu (nI (valF (dgF (byF (x.2.1 2) t)) s d)) (nI d) (nI (elvF (dgF (byF (x.2.1 2) t)) s d k)) le) 8 = nI (elvF (dgF (byF (x.2.1 2) t)) s d k) from rfl, show (11 : Int32) = nI 11 from rfl, nI_mul]
    by_cases c2 : s + d ≤ s + k
    · refine brT c2 (fun x3 e3 v ev => ?_)
      rw [show (0 : Int32) = nI 0 from rfl, nI_add, NXS_8] at e3
      rw [nI_1] at ev
      subst e3 ev
      refine hG (4 - (k + 1)) _ _ (by omega) ⟨k + 1, rfl, by omega, rfl, ?_⟩
      show _ = NXS x wr nu _ _ (nI (elvF (dgF (byF (x.2.1 2) t)) s d k * 11 + (if k < d then _ else 0))) le
      rw [if_neg (by omega)]
    · refine brF c2 (byte_x (x := NXS x wr nu (nI (valF (dgF (byF (x.2.1 2) t)) s d)) (nI d) (nI (elvF (dgF (byF (x.2.1 2) t)) s d k)) le) ht (by omega) hx3 (fun x3 e3 v ev => ?_))
      obtain ⟨e1, e2⟩ := isd_is (hd (s + k) (by omega) (by omega))
      have e1 : byF ((NXS x wr nu (nI (valF (dgF (byF (x.2.1 2) t)) s d)) (nI d) (nI (elvF (dgF (byF (x.2.1 2) t)) s d k)) le).2.1 2) t (s + k) = nI (48 + dgF (byF (x.2.1 2) t) (s + k)) := e1
      rw [e1, show (48 : Int32) = nI 48 from rfl, pk_sub (by omega), nI_1, nI_add, NXS_8, show 48 + dgF (byF (x.2.1 2) t) (s + k) - 48 + 1 = dgF (byF (x.2.1 2) t) (s + k) + 1 by omega] at e3
      rw [nI_1] at ev
      subst e3 ev
      refine hG (4 - (k + 1)) _ _ (by omega) ⟨k + 1, rfl, by omega, rfl, ?_⟩
      show _ = NXS x wr nu _ _ (nI (elvF (dgF (byF (x.2.1 2) t)) s d k * 11 + (if k < d then _ else 0))) le
      rw [if_pos (by omega)]
theorem byte_x2 {t p : Nat} {v : Int32} {K : Int32 → ST → Prop} {x : ST} (ht : t ≤ 20) (hp : p < 2 ^ 30) (hx3 : x.1 3 = nI t) (hv : v = byF (x.2.1 2) t p) (h : K v x) : wX5_byteAt (nI p) K x := by
  subst hv; exact byte_x ht hp hx3 h
theorem digits_x2 {t s c : Nat} {K : Int32 → ST → Prop} {x : ST} (ht : t ≤ 20) (hs : s ≤ 100) (hx3 : x.1 3 = nI t) (hc : c = cntF (isd (byF (x.2.1 2) t)) s 4) (h : K (nI (s + c)) x) : wX2_pastDigits (nI s) K x := by
  subst hc; exact digits_x ht hs hx3 h
theorem letters_x2 {t s c : Nat} {K : Int32 → ST → Prop} {x : ST} (ht : t ≤ 20) (hs : s ≤ 100) (hx3 : x.1 3 = nI t) (hc : c = cntF (isl (byF (x.2.1 2) t)) s 3) (h : K (nI (s + c)) x) : wX2_pastLetters (nI s) K x := by
  subst hc; exact letters_x ht hs hx3 h
theorem value_x2 {t s c v : Nat} {K : Int32 → ST → Prop} {x : ST} (ht : t ≤ 20) (hs : s + c ≤ 100) (hx3 : x.1 3 = nI t) (hd : ∀ q, s ≤ q → q < s + c → isd (byF (x.2.1 2) t) q = true) (hv : v = valF (dgF (byF (x.2.1 2) t)) s c) (h : K (nI v) x) : wX2_valueOf (nI s) (nI (s + c)) K x := by
  subst hv; exact value_x ht hs hx3 hd h
/-- a mark: is it one, else where it goes wrong; number, letters, what stands behind -/
def mkC1 (f : Nat → Int32) : Nat := cntF (isd f) 0 4
def mkC2 (f : Nat → Int32) : Nat := cntF (isd f) (mkC1 f + 1) 4
def mkE (f : Nat → Int32) (s : Nat) : Nat := s + cntF (isl f) s 3
def mkL (f : Nat → Int32) (s : Nat) : Nat := letF (ltF f) s (cntF (isl f) s 3) 3
def mkR (f : Nat → Int32) (t : Nat) : Bool × Nat × Nat × Nat × Nat × Nat :=
  if mkC1 f = 0 then (false, 0, 0, 0, 0, 0)
  else if f (mkC1 f) = 46 then (if mkC2 f = 0 then (false, mkC1 f + 1, 0, 0, 0, 0) else if t ≤ mkE f (mkC1 f + 1 + mkC2 f) then (true, 0, valF (dgF f) 0 (mkC1 f), mkL f (mkC1 f + 1 + mkC2 f), valF (dgF f) (mkC1 f + 1) (mkC2 f), mkC2 f) else (false, mkE f (mkC1 f + 1 + mkC2 f), 0, 0, 0, 0))
  else if t ≤ mkE f (mkC1 f) then (true, 0, valF (dgF f) 0 (mkC1 f), mkL f (mkC1 f), 0, 0) else (false, mkE f (mkC1 f), 0, 0, 0, 0)
theorem read_x {t : Nat} {K : ST → Prop} {x : ST} (ht : t ≤ 20) (hx3 : x.1 3 = nI t)
    (h1 : (mkR (byF (x.2.1 2) t) t).1 = false → ∀ nu bh bd bl le, K (NXS x (nI (mkR (byF (x.2.1 2) t) t).2.1) nu bh bd bl le))
    (h2 : (mkR (byF (x.2.1 2) t) t).1 = true → ∀ N L B d, (mkR (byF (x.2.1 2) t) t).2.2 = (N, L, B, d) → N ≤ 9999 → L < 19683 → d ≤ 4 → B < 10 ^ d → K (NXS x (-1) (nI N) (nI B) (nI d) (nI (elev B d * 11 ^ (4 - d))) (nI L))) : wX2_read K x := by
  unfold wX2_read
  intro x1 e1 x2 e2 x3 e3
  have e4 : x3 = NXS x (x.1 4) (x.1 5) 0 0 0 (x.1 9) := by
    rw [e3, e2, e1]
    conv => lhs; rw [NXS_id x]
    rw [NXS_6, NXS_7, NXS_8]
  clear e1 e2 e3
  subst e4
  have k1 : mkC1 (byF (x.2.1 2) t) ≤ 4 := cntF_le _ _ _
  have k2 : mkC2 (byF (x.2.1 2) t) ≤ 4 := cntF_le _ _ _
  have d1 : ∀ q, 0 ≤ q → q < 0 + mkC1 (byF (x.2.1 2) t) → isd (byF (x.2.1 2) t) q = true := cntF_all _ 4 0
  have d2 : ∀ q, mkC1 (byF (x.2.1 2) t) + 1 ≤ q → q < mkC1 (byF (x.2.1 2) t) + 1 + mkC2 (byF (x.2.1 2) t) → isd (byF (x.2.1 2) t) q = true := cntF_all _ 4 _
  have v1 : valF (dgF (byF (x.2.1 2) t)) 0 (mkC1 (byF (x.2.1 2) t)) ≤ 9999 := by
    have h := valF_lt (dgF (byF (x.2.1 2) t)) 0 (mkC1 (byF (x.2.1 2) t)) (fun q h1 h2 => (isd_is (d1 q h1 h2)).2)
    have h' : 10 ^ mkC1 (byF (x.2.1 2) t) ≤ 10 ^ 4 := Nat.pow_le_pow_right (by omega) k1
    omega
  have v2 : valF (dgF (byF (x.2.1 2) t)) (mkC1 (byF (x.2.1 2) t) + 1) (mkC2 (byF (x.2.1 2) t)) < 10 ^ mkC2 (byF (x.2.1 2) t) := valF_lt _ _ _ (fun q h1 h2 => (isd_is (d2 q h1 h2)).2)
  have v3 : ∀ s, mkL (byF (x.2.1 2) t) s < 19683 := fun s => letF_lt (ltF (byF (x.2.1 2) t)) s _ 3 (fun q h1 h2 => (isl_is (cntF_all _ 3 s q h1 h2)).2.1)
  have hel := elvF_4 (D := dgF (byF (x.2.1 2) t)) (s := mkC1 (byF (x.2.1 2) t) + 1) k2 (fun q h1 h2 => (isd_is (d2 q h1 h2)).2)
  have hR : mkR (byF (x.2.1 2) t) t = mkR (byF (x.2.1 2) t) t := rfl
  conv at hR => rhs; unfold mkR
  -- the letters, and the end
  have fin : ∀ (s : Nat) (nu bh bd bl le : Int32), s ≤ 20 → (t ≤ mkE (byF (x.2.1 2) t) s → K (NXS x (-1) nu bh bd bl (nI (mkL (byF (x.2.1 2) t) s)))) → (¬ t ≤ mkE (byF (x.2.1 2) t) s → K (NXS x (nI (mkE (byF (x.2.1 2) t) s)) nu bh bd bl (nI (mkL (byF (x.2.1 2) t) s)))) →
      wX2_pastLetters (nI s) (fun (r10 : Int32) (x10 : ST) => wX2_readLetters (nI s) r10 (fun (x11 : ST) => (((gI x11 3) ≤ r10 → ∀ x13 : ST, x13 = pI x11 4 (-1) → K x13) ∧ (¬ (gI x11 3) ≤ r10 → ∀ x14 : ST, x14 = pI x11 4 r10 → K x14))) x10) (NXS x (x.1 4) nu bh bd bl le) := by
    intro s nu bh bd bl le hs f1 f2
    have hcl : cntF (isl (byF (x.2.1 2) t)) s 3 ≤ 3 := cntF_le _ _ _
    refine letters_x2 (x := NXS x (x.1 4) nu bh bd bl le) (c := cntF (isl (byF (x.2.1 2) t)) s 3) ht (by omega) hx3 rfl ?_
    show wX2_readLetters (nI s) (nI (s + cntF (isl (byF (x.2.1 2) t)) s 3)) _ _
    refine rdlet_x ht (by omega) hcl hx3 (fun q h1 h2 => cntF_all _ 3 s q h1 h2) ?_
    rw [show gI (NXS x (x.1 4) nu bh bd bl (nI (letF (ltF (byF (x.2.1 2) t)) s (cntF (isl (byF (x.2.1 2) t)) s 3) 3))) 3 = nI t from hx3, nI_leI (by omega) (by omega), NXS_4, NXS_4]
    exact ⟨fun c x13 e => by rw [e]; exact f1 c, fun c x13 e => by rw [e]; exact f2 c⟩
  refine digits_x2 (x := NXS x (x.1 4) (x.1 5) 0 0 0 (x.1 9)) (s := 0) (c := mkC1 (byF (x.2.1 2) t)) ht (by omega) hx3 rfl ?_
  show (¬ nI (0 + mkC1 (byF (x.2.1 2) t)) = 0 → _) ∧ (nI (0 + mkC1 (byF (x.2.1 2) t)) = 0 → _)
  rw [show (nI (0 + mkC1 (byF (x.2.1 2) t)) = 0) = (nI (0 + mkC1 (byF (x.2.1 2) t)) = nI 0) from rfl, nI_eq (by omega) (by omega)]
  by_cases c1 : mkC1 (byF (x.2.1 2) t) = 0
  · refine rbT (by omega) (fun x4 e4 => ?_)
    rw [if_pos c1] at hR
    rw [NXS_4] at e4
    subst e4
    rw [hR] at h1
    exact h1 rfl _ _ _ _ _
  · rw [if_neg c1] at hR
    refine rbF (by omega) ?_
    refine value_x2 (x := NXS x (x.1 4) (x.1 5) 0 0 0 (x.1 9)) (s := 0) (v := valF (dgF (byF (x.2.1 2) t)) 0 (mkC1 (byF (x.2.1 2) t))) ht (by omega) hx3 d1 rfl (fun x7 e7 => ?_)
    rw [NXS_5] at e7
    subst e7
    rw [Nat.zero_add]
    refine byte_x2 (x := NXS x (x.1 4) (nI (valF (dgF (byF (x.2.1 2) t)) 0 (mkC1 (byF (x.2.1 2) t)))) 0 0 0 (x.1 9)) (v := byF (x.2.1 2) t (mkC1 (byF (x.2.1 2) t))) ht (by omega) hx3 rfl ?_
    show (¬ byF (x.2.1 2) t (mkC1 (byF (x.2.1 2) t)) = 46 → _) ∧ (byF (x.2.1 2) t (mkC1 (byF (x.2.1 2) t)) = 46 → _)
    by_cases c2 : byF (x.2.1 2) t (mkC1 (byF (x.2.1 2) t)) = 46
    · rw [if_pos c2] at hR
      refine rbT c2 (fun v3 e3 => ?_)
      rw [nI_1] at e3
      subst e3
      refine digits_x2 (x := NXS x (x.1 4) (nI (valF (dgF (byF (x.2.1 2) t)) 0 (mkC1 (byF (x.2.1 2) t)))) 0 0 0 (x.1 9)) (c := mkC2 (byF (x.2.1 2) t)) ht (by omega) hx3 rfl ?_
      show (¬ nI (mkC1 (byF (x.2.1 2) t) + 1 + mkC2 (byF (x.2.1 2) t)) = nI (mkC1 (byF (x.2.1 2) t) + 1) → _) ∧ (nI (mkC1 (byF (x.2.1 2) t) + 1 + mkC2 (byF (x.2.1 2) t)) = nI (mkC1 (byF (x.2.1 2) t) + 1) → _)
      rw [nI_eq (by omega) (by omega)]
      by_cases c3 : mkC2 (byF (x.2.1 2) t) = 0
      · rw [if_pos c3] at hR
        refine rbT (by omega) (fun x4 e4 => ?_)
        rw [NXS_4] at e4
        subst e4
        rw [hR] at h1
        exact h1 rfl _ _ _ _ _
      · rw [if_neg c3] at hR
        refine rbF (by omega) ?_
        refine rdbeh_x ht (by omega) k2 hx3 d2 ?_
        rw [hel]
        refine fin _ _ _ _ _ _ (by omega) (fun c4 => ?_) (fun c4 => ?_)
        · rw [if_pos c4] at hR
          rw [hR] at h2
          exact h2 rfl _ _ _ _ rfl v1 (v3 _) k2 v2
        · rw [if_neg c4] at hR
          rw [hR] at h1
          exact h1 rfl _ _ _ _ _
    · rw [if_neg c2] at hR
      refine rbF c2 ?_
      refine fin _ _ _ _ _ _ (by omega) (fun c4 => ?_) (fun c4 => ?_)
      · rw [if_pos c4] at hR
        rw [hR] at h2
        exact h2 rfl _ _ _ _ rfl v1 (v3 _) (Nat.zero_le _) Nat.zero_lt_one
      · rw [if_neg c4] at hR
        rw [hR] at h1
        exact h1 rfl _ _ _ _ _
