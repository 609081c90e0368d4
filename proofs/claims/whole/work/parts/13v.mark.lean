/-- the reference's state while it reads a mark -/
def NMS (y : ST) (at_ : Int32) (nu bh di le : Nat → Int32) : ST := (fun k => if k = 29 then at_ else y.1 k, fun p => if p = 36 then nu else if p = 37 then bh else if p = 38 then di else if p = 39 then le else y.2.1 p, y.2.2)
theorem NMS_id (y : ST) : y = NMS y (y.1 29) (y.2.1 36) (y.2.1 37) (y.2.1 38) (y.2.1 39) := by
  have e1 : y.1 = (NMS y (y.1 29) (y.2.1 36) (y.2.1 37) (y.2.1 38) (y.2.1 39)).1 := by
    funext k; show _ = if k = 29 then y.1 29 else y.1 k
    by_cases c0 : k = 29
    · simp [c0]
    · skip
      simp [c0]
  have e2 : y.2.1 = (NMS y (y.1 29) (y.2.1 36) (y.2.1 37) (y.2.1 38) (y.2.1 39)).2.1 := by
    funext p; show _ = if p = 36 then y.2.1 36 else if p = 37 then y.2.1 37 else if p = 38 then y.2.1 38 else if p = 39 then y.2.1 39 else y.2.1 p
    by_cases c0 : p = 36
    · simp [c0]
    · skip
      by_cases c1 : p = 37
      · simp [c1]
      · skip
        by_cases c2 : p = 38
        · simp [c2]
        · skip
          by_cases c3 : p = 39
          · simp [c3]
          · skip
            simp [c0, c1, c2, c3]
  exact Prod.ext e1 (Prod.ext e2 rfl)
theorem NMS_29 (y : ST) (at_ v : Int32) (nu bh di le : Nat → Int32) : pI (NMS y at_ nu bh di le) 29 v = NMS y v nu bh di le := by
  refine Prod.ext ?_ rfl
  funext k
  show va_up (fun k => if k = 29 then at_ else y.1 k) 29 v k = if k = 29 then v else y.1 k
  unfold va_up
  by_cases c : k = 29
  · simp [c]
  · simp [c]
theorem NMS_36 (y : ST) (at_ v : Int32) (nu bh di le : Nat → Int32) {n : Nat} (hn : n < 2 ^ 31) : pA (NMS y at_ nu bh di le) 36 (nI n) v = NMS y at_ (upd nu n v) bh di le := by
  rw [pA_n _ _ hn]
  refine Prod.ext rfl (Prod.ext ?_ rfl)
  funext p
  show va_up (fun p => if p = 36 then nu else if p = 37 then bh else if p = 38 then di else if p = 39 then le else y.2.1 p) 36 (upd nu n v) p = if p = 36 then upd nu n v else if p = 37 then bh else if p = 38 then di else if p = 39 then le else y.2.1 p
  unfold va_up
  by_cases c : p = 36
  · simp [c]
  · simp [c]
theorem NMS_g36 (y : ST) (at_ : Int32) (nu bh di le : Nat → Int32) {n : Nat} (hn : n < 2 ^ 31) : gA (NMS y at_ nu bh di le) 36 (nI n) = nu n := by rw [gA_n _ _ hn]; rfl
theorem NMS_37 (y : ST) (at_ v : Int32) (nu bh di le : Nat → Int32) {n : Nat} (hn : n < 2 ^ 31) : pA (NMS y at_ nu bh di le) 37 (nI n) v = NMS y at_ nu (upd bh n v) di le := by
  rw [pA_n _ _ hn]
  refine Prod.ext rfl (Prod.ext ?_ rfl)
  funext p
  show va_up (fun p => if p = 36 then nu else if p = 37 then bh else if p = 38 then di else if p = 39 then le else y.2.1 p) 37 (upd bh n v) p = if p = 36 then nu else if p = 37 then upd bh n v else if p = 38 then di else if p = 39 then le else y.2.1 p
  unfold va_up
  by_cases c : p = 37
  · simp [c]
  · simp [c]
theorem NMS_g37 (y : ST) (at_ : Int32) (nu bh di le : Nat → Int32) {n : Nat} (hn : n < 2 ^ 31) : gA (NMS y at_ nu bh di le) 37 (nI n) = bh n := by rw [gA_n _ _ hn]; rfl
theorem NMS_38 (y : ST) (at_ v : Int32) (nu bh di le : Nat → Int32) {n : Nat} (hn : n < 2 ^ 31) : pA (NMS y at_ nu bh di le) 38 (nI n) v = NMS y at_ nu bh (upd di n v) le := by
  rw [pA_n _ _ hn]
  refine Prod.ext rfl (Prod.ext ?_ rfl)
  funext p
  show va_up (fun p => if p = 36 then nu else if p = 37 then bh else if p = 38 then di else if p = 39 then le else y.2.1 p) 38 (upd di n v) p = if p = 36 then nu else if p = 37 then bh else if p = 38 then upd di n v else if p = 39 then le else y.2.1 p
  unfold va_up
  by_cases c : p = 38
  · simp [c]
  · simp [c]
theorem NMS_g38 (y : ST) (at_ : Int32) (nu bh di le : Nat → Int32) {n : Nat} (hn : n < 2 ^ 31) : gA (NMS y at_ nu bh di le) 38 (nI n) = di n := by rw [gA_n _ _ hn]; rfl
theorem NMS_39 (y : ST) (at_ v : Int32) (nu bh di le : Nat → Int32) {n : Nat} (hn : n < 2 ^ 31) : pA (NMS y at_ nu bh di le) 39 (nI n) v = NMS y at_ nu bh di (upd le n v) := by
  rw [pA_n _ _ hn]
  refine Prod.ext rfl (Prod.ext ?_ rfl)
  funext p
  show va_up (fun p => if p = 36 then nu else if p = 37 then bh else if p = 38 then di else if p = 39 then le else y.2.1 p) 39 (upd le n v) p = if p = 36 then nu else if p = 37 then bh else if p = 38 then di else if p = 39 then upd le n v else y.2.1 p
  unfold va_up
  by_cases c : p = 39
  · simp [c]
  · simp [c]
theorem NMS_g39 (y : ST) (at_ : Int32) (nu bh di le : Nat → Int32) {n : Nat} (hn : n < 2 ^ 31) : gA (NMS y at_ nu bh di le) 39 (nI n) = le n := by rw [gA_n _ _ hn]; rfl
theorem see_m2 {t p : Nat} {v : Int32} {K : Int32 → ST → Prop} {y : ST} (ht : t ≤ 20) (hp : p < 2 ^ 30) (hy27 : y.1 27 = nI t) (hv : v = byF (y.2.1 46) t p) (h : K v y) : wX7_see (nI p) K y := by
  subst hv; exact see_m ht hp hy27 h
theorem wi_no {p : Bool} {a lo hi : Int32} (hp : p = decide (wi a lo hi = 1)) (h : ¬ p = true) : wi a lo hi = 0 := by
  rcases wi_in (a := a) (lo := lo) (hi := hi) with ⟨e, -⟩ | ⟨e, -⟩
  · exact absurd (by rw [hp, decide_eq_true_iff]; exact e) h
  · exact e
theorem wi_yes {p : Bool} {a lo hi : Int32} (hp : p = decide (wi a lo hi = 1)) (h : p = true) : wi a lo hi = 1 := by
  rw [hp, decide_eq_true_iff] at h; exact h
theorem digits_m {t s : Nat} {K : Int32 → ST → Prop} {y : ST} {f nu bh di le : Nat → Int32} (hf : f = byF (y.2.1 46) t) (f2 : Nat → Int32) (ht : t ≤ 20) (hs : s ≤ 50) (hy27 : y.1 27 = nI t) (h : K (nI (valF (dgF f) s (cntF (isd f) s 4))) (NMS y (nI (s + cntF (isd f) s 4)) nu bh di le)) : wX7_digitsHere K (NMS y (nI s) nu bh di le) := by
  unfold wX7_digitsHere
  intro v2 e2
  have e2 : v2 = nI s := e2
  subst e2
  refine it1 (I := fun mm v1 y2 => ∃ j, v1 = nI (valF (dgF f) s j) ∧ j ≤ 4 ∧ mm = 4 - j ∧ y2 = NMS y (nI (s + j)) nu bh di le ∧ cntF (isd f) s 4 = j + cntF (isd f) (s + j) (4 - j)) ?_ (m := 4) ⟨0, rfl, by omega, rfl, rfl, by rw [Nat.zero_add]; rfl⟩
  rintro mm v1 y2 G ⟨j, rfl, hj, hmm, rfl, hc⟩ hG
  unfold FX7_digitsHere_7
  rw [show gI (NMS y (nI (s + j)) nu bh di le) 29 = nI (s + j) from rfl, show (4 : Int32) = nI 4 from rfl, nI_add, nI_leI (by omega) (by omega)]
  by_cases c : s + 4 ≤ s + j
  · refine brT c ?_
    rw [hc, show 4 - j = 0 by omega] at h
    rw [show cntF (isd f) (s + j) 0 = 0 from rfl, Nat.add_zero] at h
    exact h
  · refine brF c ?_
    refine see_m2 (y := NMS y (nI (s + j)) nu bh di le) (v := f (s + j)) ht (by omega) hy27 (by rw [hf]; rfl) ?_
    rw [isIn_iff]
    by_cases c2 : isd f (s + j) = true
    · rw [wi_yes (p := isd f (s + j)) rfl c2]
      refine brF n10 ?_
      refine see_m2 (y := NMS y (nI (s + j)) nu bh di le) (v := f (s + j)) ht (by omega) hy27 (by rw [hf]; rfl) ?_
      intro v1' e1 y7 e7
      obtain ⟨d1, d2⟩ := isd_is c2
      rw [d1, show (10 : Int32) = nI 10 from rfl, show (48 : Int32) = nI 48 from rfl, nI_mul, nI_add, pk_sub (by omega)] at e1
      rw [NMS_29, show gI (NMS y (nI (s + j)) nu bh di le) 29 = nI (s + j) from rfl, nI_1] at e7
      subst e1 e7
      refine hG (4 - (j + 1)) _ _ (by omega) ⟨j + 1, ?_, by omega, rfl, rfl, ?_⟩
      · show nI _ = nI (valF (dgF f) s j * 10 + dgF f (s + j))
        rw [show 10 * valF (dgF f) s j + (48 + dgF f (s + j)) - 48 = valF (dgF f) s j * 10 + dgF f (s + j) by omega]
      · rw [hc, show 4 - j = 4 - (j + 1) + 1 by omega, cntF_go c2]
        rw [show s + j + 1 = s + (j + 1) by omega]
        omega
    · rw [wi_no (p := isd f (s + j)) rfl c2]
      refine brT rfl ?_
      rw [hc, cntF_no c2, Nat.add_zero] at h
      exact h
theorem letters_m {t s n : Nat} {K : Int32 → ST → Prop} {y : ST} {f nu bh di le0 : Nat → Int32} (hf : f = byF (y.2.1 46) t) (ht : t ≤ 20) (hn : n < 60) (hs : s ≤ t) (hy27 : y.1 27 = nI t)
    (h : (t ≤ mkE f s → K 1 (NMS y (nI (mkE f s)) nu bh di (upd le0 n (nI (mkL f s))))) ∧ (¬ t ≤ mkE f s → K 0 (NMS y (nI (mkE f s)) nu bh di (upd le0 n (nI (mkL f s)))))) : ∃ m, it (fun (_ : Int32) (_ : ST) => False) (FX7_isMark_112 (nI n) K (nI s)) m 0 (NMS y (nI s) nu bh di (upd le0 n 0)) := by
  have hcl : cntF (isl f) s 3 ≤ 3 := cntF_le _ _ _
  have hall := cntF_all (isl f) 3 s
  have hstop := cntF_stop (isl f) 3 s
  unfold mkE mkL at h
  have hle : s + cntF (isl f) s 3 ≤ t := by
    rcases Nat.eq_zero_or_pos (cntF (isl f) s 3) with z | z
    · omega
    · have := hall (s + cntF (isl f) s 3 - 1) (by omega) (by omega)
      rw [hf] at this
      have := isl_lt this
      rw [← hf] at this
      omega
  generalize cntF (isl f) s 3 = c at hcl hall hstop h hle
  refine it1 (I := fun mm v3 y2 => ∃ k, v3 = nI k ∧ k ≤ 3 ∧ mm = 3 - k ∧ y2 = NMS y (nI (s + min k c)) nu bh di (upd le0 n (nI (letF (ltF f) s c k)))) ?_ (m := 3) ⟨0, rfl, by omega, rfl, by rw [Nat.zero_min]; rfl⟩
  rintro mm v3 y2 G ⟨k, rfl, hk, hmm, rfl⟩ hG
  have add0 : c ≤ k → ∀ y5 : ST, y5 = pA (NMS y (nI (s + min k c)) nu bh di (upd le0 n (nI (letF (ltF f) s c k)))) 39 (nI n) (27 * gA (NMS y (nI (s + min k c)) nu bh di (upd le0 n (nI (letF (ltF f) s c k)))) 39 (nI n) + 0) → ∀ v : Int32, v = nI k + 1 → k < 3 → G v y5 := by
    intro hck y5 e5 v ev hk3
    rw [NMS_g39 _ _ _ _ _ _ (by omega), upd_at, show (27 : Int32) = nI 27 from rfl, nI_mul, show (0 : Int32) = nI 0 from rfl, nI_add, NMS_39 _ _ _ _ _ _ _ (by omega), upd_upd] at e5
    rw [nI_1] at ev
    subst e5 ev
    refine hG (3 - (k + 1)) _ _ (by omega) ⟨k + 1, rfl, by omega, rfl, ?_⟩
    show _ = NMS y (nI (s + min (k + 1) c)) nu bh di (upd le0 n (nI (letF (ltF f) s c k * 27 + (if k < c then _ else 0))))
    rw [if_neg (by omega), show min (k + 1) c = min k c by omega, Nat.mul_comm 27]
  unfold FX7_isMark_112
  rw [show gI (NMS y (nI (s + min k c)) nu bh di (upd le0 n (nI (letF (ltF f) s c k)))) 29 = nI (s + min k c) from rfl, show gI (NMS y (nI (s + min k c)) nu bh di (upd le0 n (nI (letF (ltF f) s c k)))) 27 = nI t from hy27, show (3 : Int32) = nI 3 from rfl, nI_leI (by omega) (by omega), nI_add, nI_eq (by omega) (by omega), nI_eq (by omega) (by omega)]
  by_cases c1 : 3 ≤ k
  · refine brT c1 ?_
    rw [show k = 3 by omega, show min 3 c = c by omega]
    exact ⟨fun z => h.2 (by omega), fun z => h.1 (by omega)⟩
  · refine brF c1 ?_
    by_cases c2 : k ≤ c
    · refine rbT (by omega) ?_
      rw [show min k c = k by omega] at add0 ⊢
      refine see_m2 (y := NMS y (nI (s + k)) nu bh di (upd le0 n (nI (letF (ltF f) s c k)))) (v := f (s + k)) ht (by omega) hy27 (by rw [hf]; rfl) ?_
      rw [isIn_iff]
      by_cases c3 : k < c
      · have c4 := hall (s + k) (by omega) (by omega)
        rw [wi_yes (p := isl f (s + k)) rfl c4]
        refine brF n10 ⟨vin (by omega) (by omega), ?_⟩
        refine see_m2 (y := NMS y (nI (s + k)) nu bh di (upd le0 n (nI (letF (ltF f) s c k)))) (v := f (s + k)) ht (by omega) hy27 (by rw [hf]; rfl) ?_
        intro y15 e15 y16 e16 v ev
        obtain ⟨d1, d2, d3⟩ := isl_is c4
        rw [NMS_g39 _ _ _ _ _ _ (by omega), upd_at, d1, show (27 : Int32) = nI 27 from rfl, nI_mul, show (97 : Int32) = nI 97 from rfl, pk_sub (by omega), nI_1, nI_add, NMS_39 _ _ _ _ _ _ _ (by omega), upd_upd, show 96 + ltF f (s + k) - 97 + 1 = ltF f (s + k) by omega] at e15
        rw [e15, NMS_29] at e16
        have e16 := e16.trans (congrArg (fun z => NMS y z nu bh di (upd le0 n (nI (27 * letF (ltF f) s c k + ltF f (s + k))))) (nI_1 (s + k)))
        rw [nI_1] at ev
        clear e15
        subst e16 ev
        refine hG (3 - (k + 1)) _ _ (by omega) ⟨k + 1, rfl, by omega, rfl, ?_⟩
        show _ = NMS y (nI (s + min (k + 1) c)) nu bh di (upd le0 n (nI (letF (ltF f) s c k * 27 + (if k < c then _ else 0))))
        rw [if_pos c3, show min (k + 1) c = k + 1 by omega, Nat.mul_comm 27]
        rfl
      · have c4 := hstop (by omega)
        rw [show s + c = s + k by omega] at c4
        rw [wi_no (p := isl f (s + k)) rfl c4]
        exact brT rfl ⟨vin (by omega) (by omega), fun y11 e11 v ev => add0 (by omega) y11 e11 v ev (by omega)⟩
    · exact rbF (by omega) ⟨vin (by omega) (by omega), fun y5 e5 v ev => add0 (by omega) y5 e5 v ev (by omega)⟩
theorem mark_m {t n : Nat} {K : Int32 → ST → Prop} {y : ST} {f : Nat → Int32} (hf : f = byF (y.2.1 46) t) (ht : t ≤ 20) (hn : n < 60) (hy27 : y.1 27 = nI t)
    (h1 : (mkR f t).1 = false → ∀ nu bh di le : Nat → Int32, (∀ b, b ≠ n → nu b = y.2.1 36 b ∧ bh b = y.2.1 37 b ∧ di b = y.2.1 38 b ∧ le b = y.2.1 39 b) → K 0 (NMS y (nI (mkR f t).2.1) nu bh di le))
    (h2 : (mkR f t).1 = true → ∀ N L B d, (mkR f t).2.2 = (N, L, B, d) → ∀ at_ (nu bh di le : Nat → Int32), (∀ b, b ≠ n → nu b = y.2.1 36 b ∧ bh b = y.2.1 37 b ∧ di b = y.2.1 38 b ∧ le b = y.2.1 39 b) → nu n = nI N → le n = nI L → di n = nI d → ((d = 0 ∧ B = 0 ∧ bh n = -1) ∨ (1 ≤ d ∧ bh n = nI B)) → K 1 (NMS y at_ nu bh di le)) : wX7_isMark (nI n) K y := by
  unfold wX7_isMark
  intro y1 e1
  have e2 : y1 = NMS y (nI 0) (y.2.1 36) (y.2.1 37) (y.2.1 38) (y.2.1 39) := by
    rw [e1]
    conv => lhs; rw [NMS_id y]
    rw [NMS_29]
    rfl
  rw [e2]
  clear e1 e2
  have k1 : mkC1 f ≤ 4 := cntF_le _ _ _
  have k2 : mkC2 f ≤ 4 := cntF_le _ _ _
  have l1 : mkC1 f ≤ t := by
    rcases Nat.eq_zero_or_pos (mkC1 f) with z | z
    · omega
    · have := cntF_all (isd f) 4 0 (mkC1 f - 1) (by omega) (by show _ < 0 + mkC1 f; omega)
      rw [hf] at this
      have := isd_lt this
      rw [← hf] at this
      omega
  have l2 : 1 ≤ mkC2 f → mkC1 f + 1 + mkC2 f ≤ t := by
    intro z
    have := cntF_all (isd f) 4 (mkC1 f + 1) (mkC1 f + 1 + mkC2 f - 1) (by omega) (by show _ < mkC1 f + 1 + mkC2 f; omega)
    rw [hf] at this
    have := isd_lt this
    rw [← hf] at this
    omega
  have hR : mkR f t = mkR f t := rfl
  conv at hR => rhs; unfold mkR
  have ne : ∀ (g : Nat → Int32) (v : Int32) (b : Nat), b ≠ n → upd g n v b = g b := fun g v b hb => if_neg hb
  refine digits_m hf f ht (by omega) hy27 ?_
  show vp_in (nI n) 60 ∧ ∀ y4 : ST, y4 = pA (NMS y (nI (0 + mkC1 f)) (y.2.1 36) (y.2.1 37) (y.2.1 38) (y.2.1 39)) 36 (nI n) (nI (valF (dgF f) 0 (mkC1 f))) → _
  refine ⟨vin (by omega) (by omega), fun y4 e4 => ?_⟩
  rw [NMS_36 _ _ _ _ _ _ _ (by omega), Nat.zero_add] at e4
  subst e4
  rw [show (gI (NMS y (nI (mkC1 f)) (upd (y.2.1 36) n (nI (valF (dgF f) 0 (mkC1 f)))) (y.2.1 37) (y.2.1 38) (y.2.1 39)) 29 = 0) = (nI (mkC1 f) = nI 0) from rfl, nI_eq (by omega) (by omega)]
  by_cases c1 : mkC1 f = 0
  · refine rbT c1 ?_
    rw [if_pos c1] at hR
    rw [hR] at h1
    have h3 := h1 rfl (upd (y.2.1 36) n (nI (valF (dgF f) 0 (mkC1 f)))) (y.2.1 37) (y.2.1 38) (y.2.1 39) (fun b hb => ⟨ne _ _ b hb, rfl, rfl, rfl⟩)
    rw [c1] at h3 ⊢
    exact h3
  · rw [if_neg c1] at hR
    refine rbF c1 (fun y6 e6 y7 e7 y8 e8 => ?_)
    rw [NMS_37 _ _ _ _ _ _ _ (by omega)] at e6
    rw [e6, NMS_38 _ _ _ _ _ _ _ (by omega)] at e7
    rw [e7, NMS_39 _ _ _ _ _ _ _ (by omega)] at e8
    clear e6 e7
    subst e8
    rw [show gI (NMS y (nI (mkC1 f)) (upd (y.2.1 36) n (nI (valF (dgF f) 0 (mkC1 f)))) (upd (y.2.1 37) n (-1)) (upd (y.2.1 38) n 0) (upd (y.2.1 39) n 0)) 29 = nI (mkC1 f) from rfl]
    refine see_m2 (y := NMS y (nI (mkC1 f)) (upd (y.2.1 36) n (nI (valF (dgF f) 0 (mkC1 f)))) (upd (y.2.1 37) n (-1)) (upd (y.2.1 38) n 0) (upd (y.2.1 39) n 0)) (v := f (mkC1 f)) ht (by omega) hy27 (by rw [hf]; rfl) ?_
    by_cases c2 : f (mkC1 f) = 46
    · rw [if_pos c2] at hR
      refine rbT c2 (fun y12 e12 v2 e13 => ?_)
      rw [NMS_29] at e12
      have e12 := e12.trans (congrArg (fun z => NMS y z (upd (y.2.1 36) n (nI (valF (dgF f) 0 (mkC1 f)))) (upd (y.2.1 37) n (-1)) (upd (y.2.1 38) n 0) (upd (y.2.1 39) n 0)) (nI_1 (mkC1 f)))
      subst e12
      have e13 : v2 = nI (mkC1 f + 1) := e13
      subst e13
      refine digits_m hf f ht (by omega) hy27 ?_
      show ∀ y15 : ST, y15 = pA (NMS y (nI (mkC1 f + 1 + mkC2 f)) (upd (y.2.1 36) n (nI (valF (dgF f) 0 (mkC1 f)))) (upd (y.2.1 37) n (-1)) (upd (y.2.1 38) n 0) (upd (y.2.1 39) n 0)) 37 (nI n) (nI (valF (dgF f) (mkC1 f + 1) (mkC2 f))) → _
      intro y15 e15 y16 e16
      rw [NMS_37 _ _ _ _ _ _ _ (by omega), upd_upd] at e15
      subst e15
      rw [show gI (NMS y (nI (mkC1 f + 1 + mkC2 f)) (upd (y.2.1 36) n (nI (valF (dgF f) 0 (mkC1 f)))) (upd (y.2.1 37) n (nI (valF (dgF f) (mkC1 f + 1) (mkC2 f)))) (upd (y.2.1 38) n 0) (upd (y.2.1 39) n 0)) 29 = nI (mkC1 f + 1 + mkC2 f) from rfl, pk_sub (by omega), NMS_38 _ _ _ _ _ _ _ (by omega), upd_upd, show mkC1 f + 1 + mkC2 f - (mkC1 f + 1) = mkC2 f by omega] at e16
      subst e16
      rw [show gI (NMS y (nI (mkC1 f + 1 + mkC2 f)) (upd (y.2.1 36) n (nI (valF (dgF f) 0 (mkC1 f)))) (upd (y.2.1 37) n (nI (valF (dgF f) (mkC1 f + 1) (mkC2 f)))) (upd (y.2.1 38) n (nI (mkC2 f))) (upd (y.2.1 39) n 0)) 29 = nI (mkC1 f + 1 + mkC2 f) from rfl, nI_eq (by omega) (by omega)]
      by_cases c3 : mkC2 f = 0
      · refine rbT (by omega) ?_
        rw [if_pos c3] at hR
        rw [hR] at h1
        have h3 := h1 rfl (upd (y.2.1 36) n (nI (valF (dgF f) 0 (mkC1 f)))) (upd (y.2.1 37) n (nI (valF (dgF f) (mkC1 f + 1) (mkC2 f)))) (upd (y.2.1 38) n (nI (mkC2 f))) (upd (y.2.1 39) n 0) (fun b hb => ⟨ne _ _ b hb, ne _ _ b hb, ne _ _ b hb, ne _ _ b hb⟩)
        rw [show mkC1 f + 1 + mkC2 f = mkC1 f + 1 by omega]
        exact h3
      · refine rbF (by omega) (fun v18 e18 => ?_)
        subst e18
        rw [if_neg c3] at hR
        refine letters_m hf ht hn (l2 (by omega)) hy27 ⟨fun c4 => ?_, fun c4 => ?_⟩
        · rw [if_pos c4] at hR
          rw [hR] at h2
          exact h2 rfl _ _ _ _ rfl _ _ _ _ _ (fun b hb => ⟨ne _ _ b hb, ne _ _ b hb, ne _ _ b hb, ne _ _ b hb⟩) (upd_at _ _ _) (upd_at _ _ _) (upd_at _ _ _) (Or.inr ⟨by omega, upd_at _ _ _⟩)
        · rw [if_neg c4] at hR
          rw [hR] at h1
          exact h1 rfl _ _ _ _ (fun b hb => ⟨ne _ _ b hb, ne _ _ b hb, ne _ _ b hb, ne _ _ b hb⟩)
    · rw [if_neg c2] at hR
      refine rbF c2 (fun v11 e11 => ?_)
      have e11 : v11 = nI (mkC1 f) := e11
      subst e11
      refine letters_m hf ht hn l1 hy27 ⟨fun c4 => ?_, fun c4 => ?_⟩
      · rw [if_pos c4] at hR
        rw [hR] at h2
        exact h2 rfl _ _ _ _ rfl _ _ _ _ _ (fun b hb => ⟨ne _ _ b hb, ne _ _ b hb, ne _ _ b hb, ne _ _ b hb⟩) (upd_at _ _ _) (upd_at _ _ _) (upd_at _ _ _) (Or.inl ⟨rfl, rfl, upd_at _ _ _⟩)
      · rw [if_neg c4] at hR
        rw [hR] at h1
        exact h1 rfl _ _ _ _ (fun b hb => ⟨ne _ _ b hb, ne _ _ b hb, ne _ _ b hb, ne _ _ b hb⟩)
