/-- the reference's state with other rows of the laying -/
def LMS (y : ST) (ou nl : Int32) (g sh pl h nd : Nat → Int32) : ST := (fun k => if k = 30 then ou else if k = 31 then nl else y.1 k, fun p => if p = 47 then g else if p = 48 then sh else if p = 49 then pl else if p = 50 then h else if p = 51 then nd else y.2.1 p, y.2.2)
theorem LMS_id (y : ST) : y = LMS y (y.1 30) (y.1 31) (y.2.1 47) (y.2.1 48) (y.2.1 49) (y.2.1 50) (y.2.1 51) := by
  have e1 : y.1 = (LMS y (y.1 30) (y.1 31) (y.2.1 47) (y.2.1 48) (y.2.1 49) (y.2.1 50) (y.2.1 51)).1 := by
    funext k; show _ = if k = 30 then y.1 30 else if k = 31 then y.1 31 else y.1 k
    by_cases c0 : k = 30
    · simp [c0]
    · skip
      by_cases c1 : k = 31
      · simp [c1]
      · skip
        simp [c0, c1]
  have e2 : y.2.1 = (LMS y (y.1 30) (y.1 31) (y.2.1 47) (y.2.1 48) (y.2.1 49) (y.2.1 50) (y.2.1 51)).2.1 := by
    funext p; show _ = if p = 47 then y.2.1 47 else if p = 48 then y.2.1 48 else if p = 49 then y.2.1 49 else if p = 50 then y.2.1 50 else if p = 51 then y.2.1 51 else y.2.1 p
    by_cases c0 : p = 47
    · simp [c0]
    · skip
      by_cases c1 : p = 48
      · simp [c1]
      · skip
        by_cases c2 : p = 49
        · simp [c2]
        · skip
          by_cases c3 : p = 50
          · simp [c3]
          · skip
            by_cases c4 : p = 51
            · simp [c4]
            · skip
              simp [c0, c1, c2, c3, c4]
  exact Prod.ext e1 (Prod.ext e2 rfl)
theorem LMS_30 (y : ST) (ou nl v : Int32) (g sh pl h nd : Nat → Int32) : pI (LMS y ou nl g sh pl h nd) 30 v = LMS y v nl g sh pl h nd := by
  refine Prod.ext ?_ rfl
  funext k
  show va_up (fun k => if k = 30 then ou else if k = 31 then nl else y.1 k) 30 v k = if k = 30 then v else if k = 31 then nl else y.1 k
  unfold va_up
  by_cases c : k = 30
  · simp [c]
  · simp [c]
theorem LMS_31 (y : ST) (ou nl v : Int32) (g sh pl h nd : Nat → Int32) : pI (LMS y ou nl g sh pl h nd) 31 v = LMS y ou v g sh pl h nd := by
  refine Prod.ext ?_ rfl
  funext k
  show va_up (fun k => if k = 30 then ou else if k = 31 then nl else y.1 k) 31 v k = if k = 30 then ou else if k = 31 then v else y.1 k
  unfold va_up
  by_cases c : k = 31
  · simp [c]
  · simp [c]
theorem LMS_47 (y : ST) (ou nl v : Int32) (g sh pl h nd : Nat → Int32) {n : Nat} (hn : n < 2 ^ 31) : pA (LMS y ou nl g sh pl h nd) 47 (nI n) v = LMS y ou nl (upd g n v) sh pl h nd := by
  rw [pA_n _ _ hn]
  refine Prod.ext rfl (Prod.ext ?_ rfl)
  funext p
  show va_up (fun p => if p = 47 then g else if p = 48 then sh else if p = 49 then pl else if p = 50 then h else if p = 51 then nd else y.2.1 p) 47 (upd g n v) p = if p = 47 then upd g n v else if p = 48 then sh else if p = 49 then pl else if p = 50 then h else if p = 51 then nd else y.2.1 p
  unfold va_up
  by_cases c : p = 47
  · simp [c]
  · simp [c]
theorem LMS_g47 (y : ST) (ou nl : Int32) (g sh pl h nd : Nat → Int32) {n : Nat} (hn : n < 2 ^ 31) : gA (LMS y ou nl g sh pl h nd) 47 (nI n) = g n := by rw [gA_n _ _ hn]; rfl
theorem LMS_48 (y : ST) (ou nl v : Int32) (g sh pl h nd : Nat → Int32) {n : Nat} (hn : n < 2 ^ 31) : pA (LMS y ou nl g sh pl h nd) 48 (nI n) v = LMS y ou nl g (upd sh n v) pl h nd := by
  rw [pA_n _ _ hn]
  refine Prod.ext rfl (Prod.ext ?_ rfl)
  funext p
  show va_up (fun p => if p = 47 then g else if p = 48 then sh else if p = 49 then pl else if p = 50 then h else if p = 51 then nd else y.2.1 p) 48 (upd sh n v) p = if p = 47 then g else if p = 48 then upd sh n v else if p = 49 then pl else if p = 50 then h else if p = 51 then nd else y.2.1 p
  unfold va_up
  by_cases c : p = 48
  · simp [c]
  · simp [c]
theorem LMS_g48 (y : ST) (ou nl : Int32) (g sh pl h nd : Nat → Int32) {n : Nat} (hn : n < 2 ^ 31) : gA (LMS y ou nl g sh pl h nd) 48 (nI n) = sh n := by rw [gA_n _ _ hn]; rfl
theorem LMS_49 (y : ST) (ou nl v : Int32) (g sh pl h nd : Nat → Int32) {n : Nat} (hn : n < 2 ^ 31) : pA (LMS y ou nl g sh pl h nd) 49 (nI n) v = LMS y ou nl g sh (upd pl n v) h nd := by
  rw [pA_n _ _ hn]
  refine Prod.ext rfl (Prod.ext ?_ rfl)
  funext p
  show va_up (fun p => if p = 47 then g else if p = 48 then sh else if p = 49 then pl else if p = 50 then h else if p = 51 then nd else y.2.1 p) 49 (upd pl n v) p = if p = 47 then g else if p = 48 then sh else if p = 49 then upd pl n v else if p = 50 then h else if p = 51 then nd else y.2.1 p
  unfold va_up
  by_cases c : p = 49
  · simp [c]
  · simp [c]
theorem LMS_g49 (y : ST) (ou nl : Int32) (g sh pl h nd : Nat → Int32) {n : Nat} (hn : n < 2 ^ 31) : gA (LMS y ou nl g sh pl h nd) 49 (nI n) = pl n := by rw [gA_n _ _ hn]; rfl
theorem LMS_50 (y : ST) (ou nl v : Int32) (g sh pl h nd : Nat → Int32) {n : Nat} (hn : n < 2 ^ 31) : pA (LMS y ou nl g sh pl h nd) 50 (nI n) v = LMS y ou nl g sh pl (upd h n v) nd := by
  rw [pA_n _ _ hn]
  refine Prod.ext rfl (Prod.ext ?_ rfl)
  funext p
  show va_up (fun p => if p = 47 then g else if p = 48 then sh else if p = 49 then pl else if p = 50 then h else if p = 51 then nd else y.2.1 p) 50 (upd h n v) p = if p = 47 then g else if p = 48 then sh else if p = 49 then pl else if p = 50 then upd h n v else if p = 51 then nd else y.2.1 p
  unfold va_up
  by_cases c : p = 50
  · simp [c]
  · simp [c]
theorem LMS_g50 (y : ST) (ou nl : Int32) (g sh pl h nd : Nat → Int32) {n : Nat} (hn : n < 2 ^ 31) : gA (LMS y ou nl g sh pl h nd) 50 (nI n) = h n := by rw [gA_n _ _ hn]; rfl
theorem LMS_51 (y : ST) (ou nl v : Int32) (g sh pl h nd : Nat → Int32) {n : Nat} (hn : n < 2 ^ 31) : pA (LMS y ou nl g sh pl h nd) 51 (nI n) v = LMS y ou nl g sh pl h (upd nd n v) := by
  rw [pA_n _ _ hn]
  refine Prod.ext rfl (Prod.ext ?_ rfl)
  funext p
  show va_up (fun p => if p = 47 then g else if p = 48 then sh else if p = 49 then pl else if p = 50 then h else if p = 51 then nd else y.2.1 p) 51 (upd nd n v) p = if p = 47 then g else if p = 48 then sh else if p = 49 then pl else if p = 50 then h else if p = 51 then upd nd n v else y.2.1 p
  unfold va_up
  by_cases c : p = 51
  · simp [c]
  · simp [c]
theorem LMS_g51 (y : ST) (ou nl : Int32) (g sh pl h nd : Nat → Int32) {n : Nat} (hn : n < 2 ^ 31) : gA (LMS y ou nl g sh pl h nd) 51 (nI n) = nd n := by rw [gA_n _ _ hn]; rfl
theorem lay_y2 {n ns : Nat} {K : ST → Prop} {y : ST} {o : Nat → Nat} {g tall nd0 long : Nat → Int32} {lim : Int32} (hn : n ≤ 60) (hns : ns ≤ 16) (hy22 : y.1 22 = nI n) (hy26 : y.1 26 = nI ns)
    (ho : ∀ q, q < n → g q = nI (o q) ∧ o q < n) (ht : ∀ b, b < n → y.2.1 42 b = tall b) (hl : ∀ j, j < ns → y.2.1 43 j = long j) (hlim : y.1 24 = lim) (hnd : ∀ b, b < n → ∃ t, t < 10 ∧ y.2.1 36 b / 1000 = nI t ∧ y.2.1 41 b * (100 + y.2.1 44 t) = nd0 b)
    (h : ∀ ou nl sh pl ha nd, ou = (layF o tall nd0 long ns lim n).2.1 → nl = (layF o tall nd0 long ns lim n).2.2.1 → RelL false o ns n (layF o tall nd0 long ns lim n) sh pl ha nd → K (LMS y ou nl g sh pl ha nd)) {ou0 nl0 : Int32} {sh0 pl0 ha0 nd1 : Nat → Int32} (e0 : ou0 = 0) (e1 : nl0 = 0) : ∃ m, it (fun (_ : Int32) (_ : ST) => False) (FX7_lay_20 K) m 0 (LMS y ou0 nl0 g sh0 pl0 ha0 nd1) := by
  subst e0 e1
  refine it1 (I := fun mm a y2 => ∃ j ha nd, a = nI j ∧ j ≤ ns ∧ mm = ns - j ∧ y2 = LMS y 0 0 g sh0 pl0 ha nd ∧ ∀ q, q < j → ha q = 0 ∧ nd q = 0) ?_ (m := ns) ⟨0, _, _, rfl, Nat.zero_le _, rfl, rfl, fun q hq => absurd hq (Nat.not_lt_zero q)⟩
  rintro mm a y2 G ⟨j, ha, nd, rfl, hj, hmm, rfl, hq⟩ hG
  unfold FX7_lay_20
  rw [show gI (LMS y 0 0 g sh0 pl0 ha nd) 26 = nI ns from hy26, nI_leI (by omega) (by omega)]
  by_cases c : ns ≤ j
  · refine brT c ?_
    clear hG
    refine it2 (I := fun mm v3 v4 x2 => ∃ i hd ou nl sh pl ha nd, v3 = nI hd ∧ v4 = nI i ∧ i ≤ n ∧ hd ≤ ns ∧ mm = n - i ∧ x2 = LMS y ou nl g sh pl ha nd ∧ hd = (layF o tall nd0 long ns lim i).1 ∧ ou = (layF o tall nd0 long ns lim i).2.1 ∧ nl = (layF o tall nd0 long ns lim i).2.2.1 ∧ RelL false o ns i (layF o tall nd0 long ns lim i) sh pl ha nd) ?_ (m := n)
      ⟨0, 0, 0, 0, sh0, pl0, ha, nd, rfl, rfl, Nat.zero_le _, Nat.zero_le _, rfl, rfl, rfl, rfl, rfl, fun k hk => absurd hk (Nat.not_lt_zero k), fun q hq2 => hq q (by omega)⟩
    clear hq hmm
    rintro mm v3 v4 x2 G ⟨i, hd, ou, nl, sh, pl, ha, nd, rfl, rfl, hi, hhd, hmm, rfl, q1, q2, q3, q4⟩ hG
    unfold FX7_lay_52
    rw [show gI (LMS y ou nl g sh pl ha nd) 22 = nI n from hy22, nI_leI (by omega) (by omega)]
    by_cases c : n ≤ i
    · refine brT c (h _ _ _ _ _ _ ?_ ?_ ?_)
      · rw [q2, show i = n by omega]
      · rw [q3, show i = n by omega]
      · rw [show i = n by omega] at q4; exact q4
    · refine brF c ⟨vin (by omega) (by omega), fun b eb => ?_⟩
      obtain ⟨o1, o2⟩ := ho i (by omega)
      have eb2 : b = nI (o i) := by rw [eb, LMS_g47 _ _ _ _ _ _ _ _ (by omega)]; exact o1
      clear eb
      subst eb2
      refine ⟨vin (by omega) (by omega), fun x3 e3 => ?_⟩
      rw [LMS_48 _ _ _ _ _ _ _ _ _ (by omega)] at e3
      subst e3
      rw [gA_n _ 42 (by omega), show gI (LMS y ou nl g (upd sh (o i) (-1)) pl ha nd) 24 = lim from hlim, show (LMS y ou nl g (upd sh (o i) (-1)) pl ha nd).2.1 42 (o i) = tall (o i) from ht _ o2]
      by_cases c2 : tall (o i) ≤ lim
      · refine brT c2 ?_
        obtain ⟨t, ht1, et, en⟩ := hnd (o i) o2
        rw [gA_n _ 36 (by omega), show (LMS y ou nl g (upd sh (o i) (-1)) pl ha nd).2.1 36 (o i) / 1000 = nI t from et]
        refine ⟨vin ht1 (by omega), fun v6 e6 => ?_⟩
        have e7 : v6 = nd0 (o i) := by
          rw [e6, gA_n _ 41 (by omega), gA_n _ 44 (by omega), ← en]
          rfl
        clear e6
        subst e7
        have hstep := layF_succ o tall nd0 long ns lim i
        generalize layF o tall nd0 long ns lim i = L at hstep q1 q2 q3 q4
        unfold layS at hstep
        rw [if_pos c2] at hstep
        refine it1 (I := fun m2 v y3 => ∃ f, v = nI f ∧ hd ≤ f ∧ f ≤ ns ∧ m2 = ns - f ∧ y3 = LMS y ou nl g (upd sh (o i) (-1)) pl ha nd ∧ advF (fullF L.2.2.2.2.2.2 long (nd0 (o i))) ns 16 hd = advF (fullF L.2.2.2.2.2.2 long (nd0 (o i))) ns (16 - (f - hd)) f) ?_ (m := ns - hd) ⟨hd, rfl, Nat.le_refl _, hhd, rfl, rfl, by rw [Nat.sub_self]⟩
        rintro m2 v y3 G2 ⟨f, rfl, hg1, hg2, hm2, rfl, hadv⟩ hG2
        unfold FX7_lay_127
        rw [show gI (LMS y ou nl g (upd sh (o i) (-1)) pl ha nd) 26 = nI ns from hy26, nI_leI (by omega) (by omega), nI_eq (by omega) (by omega)]
        by_cases c3 : ns ≤ f
        · refine brT c3 (rbT (by omega) (fun x3 e3 v ev => ?_))
          rw [LMS_31, show gI (LMS y ou nl g (upd sh (o i) (-1)) pl ha nd) 31 = nl from rfl] at e3
          rw [nI_1] at ev
          subst e3 ev
          have ea : advF (fullF L.2.2.2.2.2.2 long (nd0 (o i))) ns 16 L.1 = f := by rw [← q1, hadv]; exact advF_stop (fun z => by omega) _
          rw [ea, if_neg (by omega)] at hstep
          refine hG (n - (i + 1)) _ _ _ (by omega) ⟨i + 1, f, ou, nl + 1, _, _, ha, nd, rfl, rfl, by omega, hg2, rfl, rfl, by rw [hstep], by rw [hstep]; exact q2, by rw [hstep, q3], ?_⟩
          rw [hstep]
          exact relL_step (sb := -1) (pb := -1) q4 rfl rfl (fun q => rfl) (fun q hq => rfl) (Or.inl ⟨rfl, rfl⟩) q4.2
        · refine brF c3 ⟨vin (by omega) (by omega), ?_⟩
          rw [LMS_g51 _ _ _ _ _ _ _ _ (by omega), gA_n _ 43 (by omega), show (LMS y ou nl g (upd sh (o i) (-1)) pl ha nd).2.1 43 f = long f from hl _ (by omega), (q4.2 f (by omega)).2]
          by_cases c4 : L.2.2.2.2.2.2 f + nd0 (o i) ≤ 100 * long f
          · refine brT c4 (rbF (by omega) ?_)
            have ea : advF (fullF L.2.2.2.2.2.2 long (nd0 (o i))) ns 16 L.1 = f := by
              rw [← q1, hadv]
              refine advF_stop (fun z => ?_) _
              have := z.2
              unfold fullF at this
              rw [decide_eq_true_iff] at this
              exact this c4
            rw [ea, if_pos (by omega)] at hstep
            refine ⟨vin (by omega) (by omega), fun x5 e5 x6 e6 x7 e7 x8 e8 v ev => ?_⟩
            rw [LMS_48 _ _ _ _ _ _ _ _ _ (by omega)] at e5
            rw [e5, LMS_g50 _ _ _ _ _ _ _ _ (by omega), LMS_49 _ _ _ _ _ _ _ _ _ (by omega)] at e6
            rw [e6, LMS_g50 _ _ _ _ _ _ _ _ (by omega), LMS_50 _ _ _ _ _ _ _ _ _ (by omega)] at e7
            rw [e7, LMS_g51 _ _ _ _ _ _ _ _ (by omega), LMS_51 _ _ _ _ _ _ _ _ _ (by omega)] at e8
            rw [nI_1] at ev
            clear e5 e6 e7
            subst e8 ev
            refine hG (n - (i + 1)) _ _ _ (by omega) ⟨i + 1, f, ou, nl, _, _, _, _, rfl, rfl, by omega, hg2, rfl, rfl, by rw [hstep], by rw [hstep]; exact q2, by rw [hstep]; exact q3, ?_⟩
            rw [hstep]
            refine relL_step (sb := nI f) (pb := L.2.2.2.2.2.1 f) q4 rfl rfl (fun q => ?_) (fun q hq => ?_) (Or.inr ?_) (fun j hj => ?_)
            · unfold upd; by_cases z : q = o i
              · rw [if_pos z, if_pos z]
              · rw [if_neg z, if_neg z, if_neg z]
            · unfold upd; rw [if_neg hq]
            · unfold upd; rw [if_pos rfl]; exact (q4.2 f (by omega)).1
            · show upd ha f (ha f + 1) j = upd L.2.2.2.2.2.1 f (L.2.2.2.2.2.1 f + 1) j ∧ upd nd f (nd f + nd0 (o i)) j = upd L.2.2.2.2.2.2 f (L.2.2.2.2.2.2 f + nd0 (o i)) j
              unfold upd
              by_cases z : j = f
              · rw [if_pos z, if_pos z, if_pos z, if_pos z, (q4.2 f (by omega)).1, (q4.2 f (by omega)).2]; exact ⟨rfl, rfl⟩
              · rw [if_neg z, if_neg z, if_neg z, if_neg z]; exact q4.2 j hj
          · refine brF c4 (fun v ev => ?_)
            rw [nI_1] at ev
            subst ev
            refine hG2 (ns - (f + 1)) _ _ (by omega) ⟨f + 1, rfl, by omega, by omega, rfl, rfl, ?_⟩
            rw [hadv, show 16 - (f - hd) = 16 - (f + 1 - hd) + 1 by omega]
            refine advF_go ⟨by omega, ?_⟩
            unfold fullF
            rw [decide_eq_true_iff]
            exact c4
      · refine brF c2 (fun x3 e3 v ev => ?_)
        rw [LMS_30, show gI (LMS y ou nl g (upd sh (o i) (-1)) pl ha nd) 30 = ou from rfl] at e3
        rw [nI_1] at ev
        subst e3 ev
        have hstep := layF_succ o tall nd0 long ns lim i
        generalize layF o tall nd0 long ns lim i = L at hstep q1 q2 q3 q4
        unfold layS at hstep
        rw [if_neg c2] at hstep
        refine hG (n - (i + 1)) _ _ _ (by omega) ⟨i + 1, hd, ou + 1, nl, _, _, ha, nd, rfl, rfl, by omega, hhd, rfl, rfl, by rw [hstep]; exact q1, by rw [hstep, q2], by rw [hstep]; exact q3, ?_⟩
        rw [hstep]
        exact relL_step (sb := -1) (pb := -1) q4 rfl rfl (fun q => rfl) (fun q hq => rfl) (Or.inl ⟨rfl, rfl⟩) q4.2
  · refine brF c ⟨vin (by omega) (by omega), fun y3 e3 y4 e4 v ev => ?_⟩
    rw [LMS_50 _ _ _ _ _ _ _ _ _ (by omega)] at e3
    rw [e3, LMS_51 _ _ _ _ _ _ _ _ _ (by omega)] at e4
    rw [nI_1] at ev
    subst e4 ev
    refine hG (ns - (j + 1)) _ _ (by omega) ⟨j + 1, _, _, rfl, by omega, rfl, rfl, fun q hq2 => ?_⟩
    unfold upd
    by_cases c2 : q = j
    · rw [if_pos c2, if_pos c2]; exact ⟨rfl, rfl⟩
    · rw [if_neg c2, if_neg c2]; exact hq q (by omega)
theorem lay_y {n r ns : Nat} {k : Nat → Nat → Int64} {K : ST → Prop} {y : ST} {tall nd0 long : Nat → Int32} {lim : Int32} (hn : n ≤ 60) (hr : r < 2) (hns : ns ≤ 16) (hy22 : y.1 22 = nI n) (hy23 : y.1 23 = nI r) (hy26 : y.1 26 = nI ns)
    (hk : ∀ b, b < n → KeyOK (k 0 b) (k 1 b) (y.2.1 36 b) (y.2.1 37 b) (y.2.1 38 b) (y.2.1 39 b)) (ht : ∀ b, b < n → y.2.1 42 b = tall b) (hl : ∀ j, j < ns → y.2.1 43 j = long j) (hlim : y.1 24 = lim) (hnd : ∀ b, b < n → ∃ t, t < 10 ∧ y.2.1 36 b / 1000 = nI t ∧ y.2.1 41 b * (100 + y.2.1 44 t) = nd0 b)
    (h : ∀ g ou nl sh pl ha nd, (∀ q, q < n → g q = nI (ordF (ltK (k r)) n q)) → ou = (layF (ordF (ltK (k r)) n) tall nd0 long ns lim n).2.1 → nl = (layF (ordF (ltK (k r)) n) tall nd0 long ns lim n).2.2.1 → RelL false (ordF (ltK (k r)) n) ns n (layF (ordF (ltK (k r)) n) tall nd0 long ns lim n) sh pl ha nd → K (LMS y ou nl g sh pl ha nd)) : wX7_lay K y := by
  unfold wX7_lay
  rw [show gI y 23 = nI r from hy23]
  refine sort_y hn hr hy22 hk (fun g hg y2 e2 y3 e3 => ?_)
  have e4 : y3 = LMS y 0 0 g (y.2.1 48) (y.2.1 49) (y.2.1 50) (y.2.1 51) := by
    rw [e3, e2, show (y.1, va_up y.2.1 47 g, y.2.2) = LMS y (y.1 30) (y.1 31) g (y.2.1 48) (y.2.1 49) (y.2.1 50) (y.2.1 51) from ?_, LMS_30, LMS_31]
    have e9 := congrArg Prod.fst (LMS_id y)
    refine Prod.ext e9 (Prod.ext ?_ rfl)
    funext p
    show (if p = 47 then g else y.2.1 p) = if p = 47 then g else if p = 48 then y.2.1 48 else if p = 49 then y.2.1 49 else if p = 50 then y.2.1 50 else if p = 51 then y.2.1 51 else y.2.1 p
    by_cases c0 : p = 47
    · rw [if_pos c0, if_pos c0]
    · rw [if_neg c0, if_neg c0]
      by_cases c1 : p = 48
      · simp [c1]
      · by_cases c2 : p = 49
        · simp [c2]
        · by_cases c3 : p = 50
          · simp [c3]
          · by_cases c4 : p = 51
            · simp [c4]
            · simp [c1, c2, c3, c4]
  rw [e4]
  exact lay_y2 hn hns hy22 hy26 (fun q hq => ⟨hg q hq, ordF_lt _ _ _ hq⟩) ht hl hlim hnd (fun ou nl sh pl ha nd a1 a2 a3 => h g ou nl sh pl ha nd hg a1 a2 a3) rfl rfl
