theorem advF_stop {full : Nat → Bool} {ns g : Nat} (h : ¬ (g < ns ∧ full g = true)) : ∀ f, advF full ns f g = g
  | 0 => rfl
  | f + 1 => by unfold advF; rw [if_neg h]
theorem advF_go {full : Nat → Bool} {ns g f : Nat} (h : g < ns ∧ full g = true) : advF full ns (f + 1) g = advF full ns f (g + 1) := by
  conv => lhs; unfold advF
  rw [if_pos h]
/-- how far a program's rows are the laying's, when i books are laid; strict: also the place of one that has no shelf -/
def RelL (strict : Bool) (o : Nat → Nat) (ns i : Nat) (L : LY) (sh pl h nd : Nat → Int32) : Prop :=
  (∀ k, k < i → sh (o k) = L.2.2.2.1 (o k) ∧ ((L.2.2.2.1 (o k) = -1 ∧ strict = false) ∨ pl (o k) = L.2.2.2.2.1 (o k))) ∧ ∀ j, j < ns → h j = L.2.2.2.2.2.1 j ∧ nd j = L.2.2.2.2.2.2 j
theorem relL_step {strict : Bool} {o : Nat → Nat} {ns i : Nat} {L S : LY} {sh pl h nd sh' pl' h' nd' : Nat → Int32} {sb pb : Int32} (hr : RelL strict o ns i L sh pl h nd)
    (e1 : S.2.2.2.1 = upd L.2.2.2.1 (o i) sb) (e2 : S.2.2.2.2.1 = upd L.2.2.2.2.1 (o i) pb) (h1 : ∀ q, sh' q = if q = o i then sb else sh q) (h2 : ∀ q, q ≠ o i → pl' q = pl q) (h3 : (sb = -1 ∧ strict = false) ∨ pl' (o i) = pb) (h4 : ∀ j, j < ns → h' j = S.2.2.2.2.2.1 j ∧ nd' j = S.2.2.2.2.2.2 j) : RelL strict o ns (i + 1) S sh' pl' h' nd' := by
  refine ⟨fun k hk => ?_, h4⟩
  rw [e1, e2]
  by_cases c : o k = o i
  · rw [h1, if_pos c, c]
    unfold upd
    rw [if_pos rfl, if_pos rfl]
    exact ⟨rfl, h3⟩
  · have hki : k < i := by
      rcases Nat.lt_or_ge k i with z | z
      · exact z
      · exact absurd (by rw [show k = i by omega]) c
    obtain ⟨g1, g2⟩ := hr.1 k hki
    rw [h1, if_neg c, h2 _ c]
    unfold upd
    rw [if_neg c, if_neg c]
    exact ⟨g1, g2⟩
theorem layF_succ (o : Nat → Nat) (tall nds long : Nat → Int32) (ns : Nat) (limit : Int32) (i : Nat) : layF o tall nds long ns limit (i + 1) = layS o tall nds long ns limit i (layF o tall nds long ns limit i) := rfl
/-- the class's state with other rows of the laying -/
def LYS (x : ST) (ou nl : Int32) (h nd sh pl : Nat → Int32) : ST := (fun k => if k = 14 then ou else if k = 15 then nl else x.1 k, fun p => if p = 18 then h else if p = 19 then nd else if p = 20 then sh else if p = 21 then pl else x.2.1 p, x.2.2)
theorem LYS_id (x : ST) : x = LYS x (x.1 14) (x.1 15) (x.2.1 18) (x.2.1 19) (x.2.1 20) (x.2.1 21) := by
  have e1 : x.1 = (LYS x (x.1 14) (x.1 15) (x.2.1 18) (x.2.1 19) (x.2.1 20) (x.2.1 21)).1 := by
    funext k; show _ = if k = 14 then x.1 14 else if k = 15 then x.1 15 else x.1 k
    by_cases c : k = 14
    · simp [c]
    · by_cases c2 : k = 15
      · simp [c2]
      · simp [c, c2]
  have e2 : x.2.1 = (LYS x (x.1 14) (x.1 15) (x.2.1 18) (x.2.1 19) (x.2.1 20) (x.2.1 21)).2.1 := by
    funext p; show _ = if p = 18 then x.2.1 18 else if p = 19 then x.2.1 19 else if p = 20 then x.2.1 20 else if p = 21 then x.2.1 21 else x.2.1 p
    by_cases c : p = 18
    · simp [c]
    · by_cases c2 : p = 19
      · simp [c2]
      · by_cases c3 : p = 20
        · simp [c3]
        · by_cases c4 : p = 21
          · simp [c4]
          · simp [c, c2, c3, c4]
  exact Prod.ext e1 (Prod.ext e2 rfl)
theorem LYS_14 (x : ST) (ou nl v : Int32) (h nd sh pl : Nat → Int32) : pI (LYS x ou nl h nd sh pl) 14 v = LYS x v nl h nd sh pl := by
  refine Prod.ext ?_ rfl
  funext k
  show va_up (fun k => if k = 14 then ou else if k = 15 then nl else x.1 k) 14 v k = if k = 14 then v else if k = 15 then nl else x.1 k
  unfold va_up
  by_cases c : k = 14
  · simp [c]
  · simp [c]
theorem LYS_15 (x : ST) (ou nl v : Int32) (h nd sh pl : Nat → Int32) : pI (LYS x ou nl h nd sh pl) 15 v = LYS x ou v h nd sh pl := by
  refine Prod.ext ?_ rfl
  funext k
  show va_up (fun k => if k = 14 then ou else if k = 15 then nl else x.1 k) 15 v k = if k = 14 then ou else if k = 15 then v else x.1 k
  unfold va_up
  by_cases c : k = 15
  · simp [c]
  · simp [c]
theorem LYS_18 (x : ST) (ou nl v : Int32) (h nd sh pl : Nat → Int32) {n : Nat} (hn : n < 2 ^ 31) : pA (LYS x ou nl h nd sh pl) 18 (nI n) v = LYS x ou nl (upd h n v) nd sh pl := by
  rw [pA_n _ _ hn]
  refine Prod.ext rfl (Prod.ext ?_ rfl)
  funext p
  show va_up (fun p => if p = 18 then h else if p = 19 then nd else if p = 20 then sh else if p = 21 then pl else x.2.1 p) 18 (upd h n v) p = if p = 18 then upd h n v else if p = 19 then nd else if p = 20 then sh else if p = 21 then pl else x.2.1 p
  unfold va_up
  by_cases c : p = 18
  · simp [c]
  · simp [c]
theorem LYS_19 (x : ST) (ou nl v : Int32) (h nd sh pl : Nat → Int32) {n : Nat} (hn : n < 2 ^ 31) : pA (LYS x ou nl h nd sh pl) 19 (nI n) v = LYS x ou nl h (upd nd n v) sh pl := by
  rw [pA_n _ _ hn]
  refine Prod.ext rfl (Prod.ext ?_ rfl)
  funext p
  show va_up (fun p => if p = 18 then h else if p = 19 then nd else if p = 20 then sh else if p = 21 then pl else x.2.1 p) 19 (upd nd n v) p = if p = 18 then h else if p = 19 then upd nd n v else if p = 20 then sh else if p = 21 then pl else x.2.1 p
  unfold va_up
  by_cases c : p = 19
  · simp [c]
  · simp [c]
theorem LYS_20 (x : ST) (ou nl v : Int32) (h nd sh pl : Nat → Int32) {n : Nat} (hn : n < 2 ^ 31) : pA (LYS x ou nl h nd sh pl) 20 (nI n) v = LYS x ou nl h nd (upd sh n v) pl := by
  rw [pA_n _ _ hn]
  refine Prod.ext rfl (Prod.ext ?_ rfl)
  funext p
  show va_up (fun p => if p = 18 then h else if p = 19 then nd else if p = 20 then sh else if p = 21 then pl else x.2.1 p) 20 (upd sh n v) p = if p = 18 then h else if p = 19 then nd else if p = 20 then upd sh n v else if p = 21 then pl else x.2.1 p
  unfold va_up
  by_cases c : p = 20
  · simp [c]
  · simp [c]
theorem LYS_21 (x : ST) (ou nl v : Int32) (h nd sh pl : Nat → Int32) {n : Nat} (hn : n < 2 ^ 31) : pA (LYS x ou nl h nd sh pl) 21 (nI n) v = LYS x ou nl h nd sh (upd pl n v) := by
  rw [pA_n _ _ hn]
  refine Prod.ext rfl (Prod.ext ?_ rfl)
  funext p
  show va_up (fun p => if p = 18 then h else if p = 19 then nd else if p = 20 then sh else if p = 21 then pl else x.2.1 p) 21 (upd pl n v) p = if p = 18 then h else if p = 19 then nd else if p = 20 then sh else if p = 21 then upd pl n v else x.2.1 p
  unfold va_up
  by_cases c : p = 21
  · simp [c]
  · simp [c]
theorem LYS_g18 (x : ST) (ou nl : Int32) (h nd sh pl : Nat → Int32) {n : Nat} (hn : n < 2 ^ 31) : gA (LYS x ou nl h nd sh pl) 18 (nI n) = h n := by rw [gA_n _ _ hn]; rfl
theorem LYS_g19 (x : ST) (ou nl : Int32) (h nd sh pl : Nat → Int32) {n : Nat} (hn : n < 2 ^ 31) : gA (LYS x ou nl h nd sh pl) 19 (nI n) = nd n := by rw [gA_n _ _ hn]; rfl
theorem clear_x {ns : Nat} {K : ST → Prop} {x : ST} (hns : ns ≤ 16) (hx : x.1 12 = nI ns) (h : ∀ ha nd : Nat → Int32, (∀ j, j < ns → ha j = 0 ∧ nd j = 0) → K (LYS x 0 0 ha nd (x.2.1 20) (x.2.1 21))) : wX4_clear K x := by
  unfold wX4_clear
  intro x1 e1 x2 e2
  have e3 : x2 = LYS x 0 0 (x.2.1 18) (x.2.1 19) (x.2.1 20) (x.2.1 21) := by
    rw [e2, e1]
    conv => lhs; rw [LYS_id x]
    rw [LYS_14, LYS_15]
  rw [e3]
  refine it1 (I := fun mm a y => ∃ j ha nd, a = nI j ∧ j ≤ ns ∧ mm = ns - j ∧ y = LYS x 0 0 ha nd (x.2.1 20) (x.2.1 21) ∧ ∀ q, q < j → ha q = 0 ∧ nd q = 0) ?_ (m := ns) ⟨0, _, _, rfl, Nat.zero_le _, rfl, rfl, fun q hq => absurd hq (Nat.not_lt_zero q)⟩
  rintro mm a y G ⟨j, ha, nd, rfl, hj, hmm, rfl, hq⟩ hG
  unfold FX4_clear_12
  rw [show gI (LYS x 0 0 ha nd (x.2.1 20) (x.2.1 21)) 12 = nI ns from hx, nI_leI (by omega) (by omega)]
  by_cases c : ns ≤ j
  · refine brT c (h ha nd (fun q hq2 => hq q (by omega)))
  · refine brF c ⟨vin (by omega) (by omega), fun y3 e3 y4 e4 v ev => ?_⟩
    rw [LYS_18 _ _ _ _ _ _ _ _ (by omega)] at e3
    rw [e3, LYS_19 _ _ _ _ _ _ _ _ (by omega)] at e4
    rw [nI_1] at ev
    subst e4 ev
    refine hG (ns - (j + 1)) _ _ (by omega) ⟨j + 1, _, _, rfl, by omega, rfl, rfl, fun q hq2 => ?_⟩
    unfold upd
    by_cases c2 : q = j
    · rw [if_pos c2, if_pos c2]; exact ⟨rfl, rfl⟩
    · rw [if_neg c2, if_neg c2]; exact hq q (by omega)
theorem lay_x {n r ns : Nat} {K : ST → Prop} {x : ST} {o : Nat → Nat} (hn : n ≤ 60) (hr : r < 2) (hns : ns ≤ 16) (hx10 : x.1 10 = nI n) (hx12 : x.1 12 = nI ns) (ho : ∀ k, k < n → x.2.1 (9 + r) k = nI (o k) ∧ o k < n) (hth : ∀ b, b < n → ∃ t, t < 10 ∧ x.2.1 14 b = nI t)
    (h : ∀ ou nl ha nd sh pl, ou = (layF o (x.2.1 13) (nds x) (x.2.1 16) ns (x.1 13) n).2.1 → nl = (layF o (x.2.1 13) (nds x) (x.2.1 16) ns (x.1 13) n).2.2.1 → RelL true o ns n (layF o (x.2.1 13) (nds x) (x.2.1 16) ns (x.1 13) n) sh pl ha nd → K (LYS x ou nl ha nd sh pl)) : wX4_lay (nI r) K x := by
  unfold wX4_lay
  refine clear_x hns hx12 (fun ha0 nd0 h0 => ?_)
  refine it2 (I := fun mm v3 v4 x2 => ∃ i hd ou nl ha nd sh pl, v3 = nI hd ∧ v4 = nI i ∧ i ≤ n ∧ hd ≤ ns ∧ mm = n - i ∧ x2 = LYS x ou nl ha nd sh pl ∧ hd = (layF o (x.2.1 13) (nds x) (x.2.1 16) ns (x.1 13) i).1 ∧ ou = (layF o (x.2.1 13) (nds x) (x.2.1 16) ns (x.1 13) i).2.1 ∧ nl = (layF o (x.2.1 13) (nds x) (x.2.1 16) ns (x.1 13) i).2.2.1 ∧ RelL true o ns i (layF o (x.2.1 13) (nds x) (x.2.1 16) ns (x.1 13) i) sh pl ha nd) ?_ (m := n)
    ⟨0, 0, 0, 0, ha0, nd0, x.2.1 20, x.2.1 21, rfl, rfl, Nat.zero_le _, Nat.zero_le _, rfl, rfl, rfl, rfl, rfl, fun k hk => absurd hk (Nat.not_lt_zero k), h0⟩
  rintro mm v3 v4 x2 G ⟨i, hd, ou, nl, ha, nd, sh, pl, rfl, rfl, hi, hhd, hmm, rfl, q1, q2, q3, q4⟩ hG
  unfold FX4_lay_9
  rw [show gI (LYS x ou nl ha nd sh pl) 10 = nI n from hx10, nI_leI (by omega) (by omega)]
  by_cases c : n ≤ i
  · refine brT c (h _ _ _ _ _ _ ?_ ?_ ?_)
    · rw [q2, show i = n by omega]
    · rw [q3, show i = n by omega]
    · rw [show i = n by omega] at q4; exact q4
  · refine brF c ⟨vin hr (by omega), vin (by omega) (by omega), fun b eb => ?_⟩
    obtain ⟨o1, o2⟩ := ho i (by omega)
    have eb2 : b = nI (o i) := by
      rw [eb, nI_clamp (by omega), gA_n _ _ (by omega)]
      rw [← o1]
      match r, hr with
      | 0, _ => rfl
      | 1, _ => rfl
    clear eb
    subst eb2
    refine ⟨vin (by omega) (by omega), fun x3 e3 x4 e4 => ?_⟩
    rw [LYS_20 _ _ _ _ _ _ _ _ (by omega)] at e3
    rw [e3, LYS_21 _ _ _ _ _ _ _ _ (by omega)] at e4
    clear e3
    subst e4
    rw [gA_n _ 13 (by omega), show gI (LYS x ou nl ha nd (upd sh (o i) (-1)) (upd pl (o i) (-1))) 13 = x.1 13 from rfl, show (LYS x ou nl ha nd (upd sh (o i) (-1)) (upd pl (o i) (-1))).2.1 13 (o i) = x.2.1 13 (o i) from rfl]
    by_cases c2 : x.2.1 13 (o i) ≤ x.1 13
    · refine brT c2 ?_
      obtain ⟨t, ht, et⟩ := hth (o i) o2
      refine ⟨?_, fun v6 e6 => ?_⟩
      · rw [gA_n _ 14 (by omega), show (LYS x ou nl ha nd (upd sh (o i) (-1)) (upd pl (o i) (-1))).2.1 14 (o i) = x.2.1 14 (o i) from rfl, et]
        exact vin ht (by omega)
      · have e7 : v6 = nds x (o i) := by
          rw [e6, gA_n _ 12 (by omega), gA_n _ 14 (by omega)]
          rfl
        clear e6
        subst e7
        have hstep := layF_succ o (x.2.1 13) (nds x) (x.2.1 16) ns (x.1 13) i
        generalize layF o (x.2.1 13) (nds x) (x.2.1 16) ns (x.1 13) i = L at hstep q1 q2 q3 q4
        unfold layS at hstep
        rw [if_pos c2] at hstep
        refine it1 (I := fun m2 v y => ∃ g, v = nI g ∧ hd ≤ g ∧ g ≤ ns ∧ m2 = ns - g ∧ y = LYS x ou nl ha nd (upd sh (o i) (-1)) (upd pl (o i) (-1)) ∧ advF (fullF L.2.2.2.2.2.2 (x.2.1 16) (nds x (o i))) ns 16 hd = advF (fullF L.2.2.2.2.2.2 (x.2.1 16) (nds x (o i))) ns (16 - (g - hd)) g) ?_ (m := ns - hd) ⟨hd, rfl, Nat.le_refl _, hhd, rfl, rfl, by rw [Nat.sub_self]⟩
        rintro m2 v y G2 ⟨g, rfl, hg1, hg2, hm2, rfl, hadv⟩ hG2
        unfold FX4_lay_97
        have bad : ns ≤ g → ∀ x3 : ST, x3 = pI (LYS x ou nl ha nd (upd sh (o i) (-1)) (upd pl (o i) (-1))) 15 (gI (LYS x ou nl ha nd (upd sh (o i) (-1)) (upd pl (o i) (-1))) 15 + 1) → ∀ v : Int32, v = nI i + 1 → G (nI g) v x3 := by
          intro hge x3 e3 v ev
          rw [LYS_15, show gI (LYS x ou nl ha nd (upd sh (o i) (-1)) (upd pl (o i) (-1))) 15 = nl from rfl] at e3
          rw [nI_1] at ev
          subst e3 ev
          have ea : advF (fullF L.2.2.2.2.2.2 (x.2.1 16) (nds x (o i))) ns 16 L.1 = g := by rw [← q1, hadv]; exact advF_stop (fun z => by omega) _
          rw [ea, if_neg (by omega)] at hstep
          refine hG (n - (i + 1)) _ _ _ (by omega) ⟨i + 1, g, ou, nl + 1, ha, nd, _, _, rfl, rfl, by omega, hg2, rfl, rfl, by rw [hstep], by rw [hstep]; exact q2, by rw [hstep, q3], ?_⟩
          rw [hstep]
          exact relL_step (sb := -1) (pb := -1) q4 rfl rfl (fun q => rfl) (fun q hq => if_neg hq) (Or.inr (if_pos rfl)) q4.2
        rw [show gI (LYS x ou nl ha nd (upd sh (o i) (-1)) (upd pl (o i) (-1))) 12 = nI ns from hx12, nI_leI (by omega) (by omega)]
        by_cases c3 : ns ≤ g
        · exact brT c3 (bad c3)
        · refine brF c3 ⟨vin (by omega) (by omega), ?_⟩
          unfold wX4_room
          refine ⟨vin (by omega) (by omega), ?_⟩
          dsimp only
          rw [LYS_g19 _ _ _ _ _ _ _ (by omega), gA_n _ 16 (by omega), show (LYS x ou nl ha nd (upd sh (o i) (-1)) (upd pl (o i) (-1))).2.1 16 g = x.2.1 16 g from rfl, show gI (LYS x ou nl ha nd (upd sh (o i) (-1)) (upd pl (o i) (-1))) 12 = nI ns from hx12, nI_leI (by omega) (by omega), (q4.2 g (by omega)).2]
          by_cases c4 : L.2.2.2.2.2.2 g + nds x (o i) ≤ 100 * x.2.1 16 g
          · refine brT c4 (brF c3 ?_)
            have ea : advF (fullF L.2.2.2.2.2.2 (x.2.1 16) (nds x (o i))) ns 16 L.1 = g := by
              rw [← q1, hadv]
              refine advF_stop (fun z => ?_) _
              have := z.2
              unfold fullF at this
              rw [decide_eq_true_iff] at this
              exact this c4
            rw [ea, if_pos (by omega)] at hstep
            unfold wX4_put
            refine ⟨vin (by omega) (by omega), fun x5 e5 => ⟨vin (by omega) (by omega), fun x6 e6 x7 e7 x8 e8 v ev => ?_⟩⟩
            rw [LYS_20 _ _ _ _ _ _ _ _ (by omega)] at e5
            rw [e5, LYS_g18 _ _ _ _ _ _ _ (by omega), LYS_21 _ _ _ _ _ _ _ _ (by omega)] at e6
            rw [e6, LYS_g18 _ _ _ _ _ _ _ (by omega), LYS_18 _ _ _ _ _ _ _ _ (by omega)] at e7
            rw [e7, LYS_g19 _ _ _ _ _ _ _ (by omega), LYS_19 _ _ _ _ _ _ _ _ (by omega)] at e8
            rw [nI_1] at ev
            clear e5 e6 e7
            subst e8 ev
            refine hG (n - (i + 1)) _ _ _ (by omega) ⟨i + 1, g, ou, nl, _, _, _, _, rfl, rfl, by omega, hg2, rfl, rfl, by rw [hstep], by rw [hstep]; exact q2, by rw [hstep]; exact q3, ?_⟩
            rw [hstep]
            refine relL_step (sb := nI g) (pb := L.2.2.2.2.2.1 g) q4 rfl rfl (fun q => ?_) (fun q hq => ?_) (Or.inr ?_) (fun j hj => ?_)
            · unfold upd; by_cases z : q = o i
              · rw [if_pos z, if_pos z]
              · rw [if_neg z, if_neg z, if_neg z]
            · unfold upd; rw [if_neg hq, if_neg hq]
            · unfold upd; rw [if_pos rfl]; exact (q4.2 g (by omega)).1
            · show upd ha g (ha g + 1) j = upd L.2.2.2.2.2.1 g (L.2.2.2.2.2.1 g + 1) j ∧ upd nd g (nd g + nds x (o i)) j = upd L.2.2.2.2.2.2 g (L.2.2.2.2.2.2 g + nds x (o i)) j
              unfold upd
              by_cases z : j = g
              · rw [if_pos z, if_pos z, if_pos z, if_pos z, (q4.2 g (by omega)).1, (q4.2 g (by omega)).2]; exact ⟨rfl, rfl⟩
              · rw [if_neg z, if_neg z, if_neg z, if_neg z]; exact q4.2 j hj
          · refine brF c4 (fun v ev => ?_)
            rw [nI_1] at ev
            subst ev
            refine hG2 (ns - (g + 1)) _ _ (by omega) ⟨g + 1, rfl, by omega, by omega, rfl, rfl, ?_⟩
            rw [hadv, show 16 - (g - hd) = 16 - (g + 1 - hd) + 1 by omega]
            refine advF_go ⟨by omega, ?_⟩
            unfold fullF
            rw [decide_eq_true_iff]
            exact c4
    · refine brF c2 (fun x3 e3 v ev => ?_)
      rw [LYS_14, show gI (LYS x ou nl ha nd (upd sh (o i) (-1)) (upd pl (o i) (-1))) 14 = ou from rfl] at e3
      rw [nI_1] at ev
      subst e3 ev
      have hstep := layF_succ o (x.2.1 13) (nds x) (x.2.1 16) ns (x.1 13) i
      generalize layF o (x.2.1 13) (nds x) (x.2.1 16) ns (x.1 13) i = L at hstep q1 q2 q3 q4
      unfold layS at hstep
      rw [if_neg c2] at hstep
      refine hG (n - (i + 1)) _ _ _ (by omega) ⟨i + 1, hd, ou + 1, nl, ha, nd, _, _, rfl, rfl, by omega, hhd, rfl, rfl, by rw [hstep]; exact q1, by rw [hstep, q2], by rw [hstep]; exact q3, ?_⟩
      rw [hstep]
      exact relL_step (sb := -1) (pb := -1) q4 rfl rfl (fun q => rfl) (fun q hq => if_neg hq) (Or.inr (if_pos rfl)) q4.2
