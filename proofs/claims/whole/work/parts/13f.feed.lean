-- rows of kit/laws/BITS.to-paste
def bt (x : Int32) (i : Nat) : Bool := x.toBitVec.getLsbD i
theorem b_ext {x y : Int32} (h : ∀ i, i < 32 → bt x i = bt y i) : x = y := Int32.toBitVec_inj.mp (BitVec.eq_of_getLsbD_eq (fun i hi => h i hi))
theorem b_and (x y : Int32) (i : Nat) : bt (x &&& y) i = (bt x i && bt y i) := by unfold bt; rw [Int32.toBitVec_and, BitVec.getLsbD_and]
theorem b_big {x : Int32} {i : Nat} (h : 32 ≤ i) : bt x i = false := BitVec.getLsbD_of_ge _ _ h
theorem b_255 (i : Nat) : bt 255 i = decide (i < 8) := by
  rcases Nat.lt_or_ge i 32 with h | h
  · exact (by decide +kernel : ∀ i, i < 32 → bt 255 i = decide (i < 8)) i h
  · rw [b_big h, decide_eq_false (by omega)]
theorem s_l : ∀ n, n < 32 → ((nI n &&& 31).toBitVec.smod 32).toNat = n := by decide +kernel
theorem s_u : ∀ n, n < 32 → (((nI n).toUInt32 &&& Int32.toUInt32 31).toBitVec % 32).toNat = n := by decide +kernel
theorem b_ushr (n : Nat) (hn : n < 32) (x : Int32) (i : Nat) : bt ((x.toUInt32 >>> ((nI n).toUInt32 &&& Int32.toUInt32 31)).toInt32) i = bt x (n + i) := by
  show (x.toUInt32 >>> ((nI n).toUInt32 &&& Int32.toUInt32 31)).toBitVec.getLsbD i = x.toUInt32.toBitVec.getLsbD (n + i)
  rw [UInt32.toBitVec_shiftRight]
  show (x.toUInt32.toBitVec >>> (((nI n).toUInt32 &&& Int32.toUInt32 31).toBitVec % 32).toNat).getLsbD i = _
  rw [s_u n hn, BitVec.getLsbD_ushiftRight]
theorem b_sshr (n : Nat) (hn : n < 32) (x : Int32) {i : Nat} (hi : i < 32) : bt (x >>> (nI n &&& 31)) i = if n + i < 32 then bt x (n + i) else bt x 31 := by
  unfold bt
  rw [Int32.toBitVec_shiftRight]
  show (x.toBitVec.sshiftRight ((nI n &&& 31).toBitVec.smod 32).toNat).getLsbD i = _
  rw [s_l n hn, BitVec.getLsbD_sshiftRight, BitVec.msb_eq_getLsbD_last]
  simp [hi]
theorem byte_eq (x : Int32) {n : Nat} (hn : n ≤ 24) : ((x.toUInt32 >>> ((nI n).toUInt32 &&& Int32.toUInt32 31)).toInt32 &&& 255) = ((x >>> (nI n &&& 31)) &&& 255) := by
  refine b_ext (fun i hi => ?_)
  rw [b_and, b_and, b_255, b_ushr n (by omega), b_sshr n (by omega) x hi]
  by_cases h : i < 8
  · rw [if_pos (by omega)]
  · simp [h]
/-- the k-th byte of a word, from the highest -/
def byt (a : Int32) (k : Nat) : Int32 := (a >>> (nI (24 - 8 * k) &&& 31)) &&& 255
def apF (f : Nat → Int32) (t : Nat) (a : Int32) (k : Nat) : Nat → Int32 := fun q => if t ≤ q ∧ q < t + k then byt a (q - t) else f q
theorem apF_step (f : Nat → Int32) (t : Nat) (a : Int32) (k : Nat) : upd (apF f t a k) (t + k) (byt a k) = apF f t a (k + 1) := by
  funext q
  unfold upd apF
  by_cases h : q = t + k
  · subst h; rw [if_pos rfl, if_pos (by omega)]; rw [show t + k - t = k by omega]
  · rw [if_neg h]
    by_cases h2 : t ≤ q ∧ q < t + k
    · rw [if_pos h2, if_pos (by omega)]
    · rw [if_neg h2, if_neg (by omega)]
theorem up_up {α : Type} (f : Nat → α) (k : Nat) (v w : α) : va_up (va_up f k v) k w = va_up f k w := by
  funext z; unfold va_up; by_cases h : z = k
  · simp [h]
  · simp [h]
theorem up_at {α : Type} (f : Nat → α) (k : Nat) (v : α) : va_up f k v k = v := if_pos rfl
theorem up_id {α : Type} (f : Nat → α) (k : Nat) : va_up f k (f k) = f := by
  funext z; unfold va_up; by_cases h : z = k
  · subst h; simp
  · simp [h]
theorem nI_8 {k : Nat} (h : k ≤ 2) : nI (24 - 8 * k) + (-8) = nI (24 - 8 * (k + 1)) := by
  match k, h with
  | 0, _ => decide
  | 1, _ => decide
  | 2, _ => decide
theorem ap_x {a : Int32} {K : ST → Prop} {x : ST} {t : Nat} (ht : t + 4 ≤ 20) (hx : x.1 3 = nI t) (h : K (va_up x.1 3 (nI (t + 4)), va_up x.2.1 2 (apF (x.2.1 2) t a 4), x.2.2)) : wX5_append a K x := by
  unfold wX5_append
  refine it1 (I := fun mm v x2 => ∃ k, k ≤ 4 ∧ v = (if k < 4 then nI (24 - 8 * k) else -8) ∧ mm = 5 - k ∧ x2 = (va_up x.1 3 (nI (t + k)), va_up x.2.1 2 (apF (x.2.1 2) t a k), x.2.2)) ?_ (m := 5) ⟨0, by omega, rfl, rfl, ?_⟩
  · rintro mm v x2 G ⟨k, hk, hv, hmm, hx2⟩ hG
    unfold FX5_append_3
    by_cases c : k < 4
    · rw [if_pos c] at hv
      have e1 : gI x2 3 = nI (t + k) := by rw [hx2]; rfl
      subst hv
      refine brF (nI_pos (by omega)) ?_
      rw [e1]
      refine brF (by rw [show (20 : Int32) = nI 20 from rfl]; exact nI_ge (by omega) (by omega)) ?_
      refine ⟨vin (by omega) (by omega), fun x3 e3 x4 e4 v5 e5 => ?_⟩
      have e6 : gI x3 3 = nI (t + k) := by rw [e3]; exact e1
      rw [e6, nI_1] at e4
      rw [pA_n _ _ (by omega)] at e3
      rw [byte_eq a (by omega)] at e3
      have e7 : x4 = (va_up x.1 3 (nI (t + (k + 1))), va_up x.2.1 2 (apF (x.2.1 2) t a (k + 1)), x.2.2) := by
        rw [e4, e3, hx2]
        show (va_up (va_up x.1 3 (nI (t + k))) 3 (nI (t + k + 1)), va_up (va_up x.2.1 2 (apF (x.2.1 2) t a k)) 2 (upd (va_up x.2.1 2 (apF (x.2.1 2) t a k) 2) (t + k) (byt a k)), x.2.2) = _
        rw [up_up, up_up, up_at, apF_step]
        rfl
      refine hG (5 - (k + 1)) _ _ (by omega) ⟨k + 1, by omega, ?_, rfl, e7⟩
      rw [e5]
      by_cases c2 : k + 1 < 4
      · rw [if_pos c2, nI_8 (by omega)]
      · rw [if_neg c2, show k = 3 by omega]; decide
    · rw [if_neg c] at hv
      subst hv
      refine brT (by decide) ?_
      rw [hx2, show k = 4 by omega]
      exact h
  · have e0 : apF (x.2.1 2) t a 0 = x.2.1 2 := by
      funext q; unfold apF; rw [if_neg (by omega)]
    rw [e0, show t + 0 = t from rfl, ← hx, up_id, up_id]
theorem ap_y {a : Int32} {K : ST → Prop} {x : ST} {t : Nat} (ht : t + 4 ≤ 20) (hx : x.1 27 = nI t) (h : K (va_up x.1 27 (nI (t + 4)), va_up x.2.1 46 (apF (x.2.1 46) t a 4), x.2.2)) : wX7_four a K x := by
  unfold wX7_four
  refine it1 (I := fun mm v x2 => ∃ k, k ≤ 4 ∧ v = (if k < 4 then nI (24 - 8 * k) else -8) ∧ mm = 5 - k ∧ x2 = (va_up x.1 27 (nI (t + k)), va_up x.2.1 46 (apF (x.2.1 46) t a k), x.2.2)) ?_ (m := 5) ⟨0, by omega, rfl, rfl, ?_⟩
  · rintro mm v x2 G ⟨k, hk, hv, hmm, hx2⟩ hG
    unfold FX7_four_3
    by_cases c : k < 4
    · rw [if_pos c] at hv
      have e1 : gI x2 27 = nI (t + k) := by rw [hx2]; rfl
      subst hv
      refine brF (nI_pos (by omega)) ?_
      rw [e1]
      refine ⟨vin (by omega) (by omega), fun x3 e3 x4 e4 v5 e5 => ?_⟩
      have e6 : gI x3 27 = nI (t + k) := by rw [e3]; exact e1
      rw [e6, nI_1] at e4
      rw [pA_n _ _ (by omega)] at e3
      skip
      have e7 : x4 = (va_up x.1 27 (nI (t + (k + 1))), va_up x.2.1 46 (apF (x.2.1 46) t a (k + 1)), x.2.2) := by
        rw [e4, e3, hx2]
        show (va_up (va_up x.1 27 (nI (t + k))) 27 (nI (t + k + 1)), va_up (va_up x.2.1 46 (apF (x.2.1 46) t a k)) 46 (upd (va_up x.2.1 46 (apF (x.2.1 46) t a k) 46) (t + k) (byt a k)), x.2.2) = _
        rw [up_up, up_up, up_at, apF_step]
        rfl
      refine hG (5 - (k + 1)) _ _ (by omega) ⟨k + 1, by omega, ?_, rfl, e7⟩
      rw [e5]
      by_cases c2 : k + 1 < 4
      · rw [if_pos c2, nI_8 (by omega)]
      · rw [if_neg c2, show k = 3 by omega]; decide
    · rw [if_neg c] at hv
      subst hv
      refine brT (by decide) ?_
      rw [hx2, show k = 4 by omega]
      exact h
  · have e0 : apF (x.2.1 46) t a 0 = x.2.1 46 := by
      funext q; unfold apF; rw [if_neg (by omega)]
    rw [e0, show t + 0 = t from rfl, ← hx, up_id, up_id]
theorem feed_x {a1 a2 a3 a4 a5 : Int32} {K : Int32 → ST → Prop} {x : ST} {t : Nat} (ht : t ≤ 20) (hx : x.1 3 = nI t) (h : ifp (t = 0) (K (nI 20) (va_up x.1 3 (nI 20), va_up x.2.1 2 (apF (apF (apF (apF (apF (x.2.1 2) 0 a1 4) 4 a2 4) 8 a3 4) 12 a4 4) 16 a5 4), x.2.2)) (K (-1) x)) : wX6_feed a1 a2 a3 a4 a5 K x := by
  unfold wX6_feed
  have e0 : gI x 3 = nI t := hx
  rw [e0]
  rw [show (0 : Int32) = nI 0 from rfl, nI_leI (by omega) (by omega)]
  by_cases c : t = 0
  · refine brT (by omega) ?_
    subst c
    refine ap_x (t := 0) (by omega) hx (ap_x (t := 4) (by omega) rfl (ap_x (t := 8) (by omega) rfl (ap_x (t := 12) (by omega) rfl (ap_x (t := 16) (by omega) rfl ?_))))
    have := h.1 rfl
    show K (va_up (va_up (va_up (va_up (va_up x.1 3 (nI 4)) 3 (nI 8)) 3 (nI 12)) 3 (nI 16)) 3 (nI 20) 3) (va_up (va_up (va_up (va_up (va_up x.1 3 (nI 4)) 3 (nI 8)) 3 (nI 12)) 3 (nI 16)) 3 (nI 20), _, x.2.2)
    simp only [up_up, up_at]
    exact this
  · exact brF (by omega) (h.2 c)
theorem feed_y {a1 a2 a3 a4 a5 : Int32} {K : Int32 → ST → Prop} {x : ST} {t : Nat} (ht : t ≤ 20) (hx : x.1 27 = nI t) (h : ifp (t = 0) (K (nI 20) (va_up x.1 27 (nI 20), va_up x.2.1 46 (apF (apF (apF (apF (apF (x.2.1 46) 0 a1 4) 4 a2 4) 8 a3 4) 12 a4 4) 16 a5 4), x.2.2)) (K (-1) x)) : wX7_feed a1 a2 a3 a4 a5 K x := by
  unfold wX7_feed
  have e0 : gI x 27 = nI t := hx
  rw [e0]
  rw [show (20 : Int32) = nI 20 from rfl, nI_add, nI_leI (by omega) (by omega)]
  by_cases c : t = 0
  · refine brT (by omega) ?_
    subst c
    refine ap_y (t := 0) (by omega) hx (ap_y (t := 4) (by omega) rfl (ap_y (t := 8) (by omega) rfl (ap_y (t := 12) (by omega) rfl (ap_y (t := 16) (by omega) rfl ?_))))
    have := h.1 rfl
    show K (va_up (va_up (va_up (va_up (va_up x.1 27 (nI 4)) 27 (nI 8)) 27 (nI 12)) 27 (nI 16)) 27 (nI 20) 27) (va_up (va_up (va_up (va_up (va_up x.1 27 (nI 4)) 27 (nI 8)) 27 (nI 12)) 27 (nI 16)) 27 (nI 20), _, x.2.2)
    simp only [up_up, up_at]
    exact this
  · exact brF (by omega) (h.2 c)
theorem apF_eq (f g : Nat → Int32) (a1 a2 a3 a4 a5 : Int32) {q : Nat} (h : q < 20) : apF (apF (apF (apF (apF f 0 a1 4) 4 a2 4) 8 a3 4) 12 a4 4) 16 a5 4 q = apF (apF (apF (apF (apF g 0 a1 4) 4 a2 4) 8 a3 4) 12 a4 4) 16 a5 4 q := by
  unfold apF
  by_cases c5 : 16 ≤ q ∧ q < 16 + 4
  · rw [if_pos c5, if_pos c5]
  · rw [if_neg c5, if_neg c5]
    by_cases c4 : 12 ≤ q ∧ q < 12 + 4
    · rw [if_pos c4, if_pos c4]
    · rw [if_neg c4, if_neg c4]
      by_cases c3 : 8 ≤ q ∧ q < 8 + 4
      · rw [if_pos c3, if_pos c3]
      · rw [if_neg c3, if_neg c3]
        by_cases c2 : 4 ≤ q ∧ q < 4 + 4
        · rw [if_pos c2, if_pos c2]
        · rw [if_neg c2, if_neg c2, if_pos (by omega), if_pos (by omega)]
theorem s_feed (a1 a2 a3 a4 a5 : Int32) : SIM (wX6_feed a1 a2 a3 a4 a5) (wX7_feed a1 a2 a3 a4 a5) := by
  intro x y Q hR h
  obtain ⟨n, r, ns, m, t, hB, hO, hQ, hU, hS, hW, hT, hP, hZ⟩ := id hR
  obtain ⟨t1, t2, t3, t4, t5⟩ := id hT
  refine feed_x t1 t2 ⟨fun c => feed_y t1 t3 ⟨fun _ => ?_, fun z => absurd c z⟩, fun c => feed_y t1 t3 ⟨fun z => absurd z c, fun _ => h _ _ _ hR⟩⟩
  exact h _ _ _ ⟨n, r, ns, m, 20, hB, hO, hQ, hU, hS, hW, ⟨by omega, rfl, rfl, fun i hi => apF_eq _ _ _ _ _ _ _ hi, t5⟩, hP, hZ⟩
