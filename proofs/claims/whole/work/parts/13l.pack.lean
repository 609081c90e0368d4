/-- the class's state with other crates -/
def PXS (x : ST) (cn : Int32) (fi ma ho cr : Nat → Int32) : ST := (fun k => if k = 17 then cn else x.1 k, fun p => if p = 24 then fi else if p = 25 then ma else if p = 26 then ho else if p = 29 then cr else x.2.1 p, x.2.2)
theorem PXS_id (x : ST) : x = PXS x (x.1 17) (x.2.1 24) (x.2.1 25) (x.2.1 26) (x.2.1 29) := by
  have e1 : x.1 = (PXS x (x.1 17) (x.2.1 24) (x.2.1 25) (x.2.1 26) (x.2.1 29)).1 := by
    funext k; show _ = if k = 17 then x.1 17 else x.1 k
    by_cases c0 : k = 17
    · simp [c0]
    · skip
      simp [c0]
  have e2 : x.2.1 = (PXS x (x.1 17) (x.2.1 24) (x.2.1 25) (x.2.1 26) (x.2.1 29)).2.1 := by
    funext p; show _ = if p = 24 then x.2.1 24 else if p = 25 then x.2.1 25 else if p = 26 then x.2.1 26 else if p = 29 then x.2.1 29 else x.2.1 p
    by_cases c0 : p = 24
    · simp [c0]
    · skip
      by_cases c1 : p = 25
      · simp [c1]
      · skip
        by_cases c2 : p = 26
        · simp [c2]
        · skip
          by_cases c3 : p = 29
          · simp [c3]
          · skip
            simp [c0, c1, c2, c3]
  exact Prod.ext e1 (Prod.ext e2 rfl)
theorem PXS_17 (x : ST) (cn v : Int32) (fi ma ho cr : Nat → Int32) : pI (PXS x cn fi ma ho cr) 17 v = PXS x v fi ma ho cr := by
  refine Prod.ext ?_ rfl
  funext k
  show va_up (fun k => if k = 17 then cn else x.1 k) 17 v k = if k = 17 then v else x.1 k
  unfold va_up
  by_cases c : k = 17
  · simp [c]
  · simp [c]
theorem PXS_24 (x : ST) (cn v : Int32) (fi ma ho cr : Nat → Int32) {n : Nat} (hn : n < 2 ^ 31) : pA (PXS x cn fi ma ho cr) 24 (nI n) v = PXS x cn (upd fi n v) ma ho cr := by
  rw [pA_n _ _ hn]
  refine Prod.ext rfl (Prod.ext ?_ rfl)
  funext p
  show va_up (fun p => if p = 24 then fi else if p = 25 then ma else if p = 26 then ho else if p = 29 then cr else x.2.1 p) 24 (upd fi n v) p = if p = 24 then upd fi n v else if p = 25 then ma else if p = 26 then ho else if p = 29 then cr else x.2.1 p
  unfold va_up
  by_cases c : p = 24
  · simp [c]
  · simp [c]
theorem PXS_g24 (x : ST) (cn : Int32) (fi ma ho cr : Nat → Int32) {n : Nat} (hn : n < 2 ^ 31) : gA (PXS x cn fi ma ho cr) 24 (nI n) = fi n := by rw [gA_n _ _ hn]; rfl
theorem PXS_25 (x : ST) (cn v : Int32) (fi ma ho cr : Nat → Int32) {n : Nat} (hn : n < 2 ^ 31) : pA (PXS x cn fi ma ho cr) 25 (nI n) v = PXS x cn fi (upd ma n v) ho cr := by
  rw [pA_n _ _ hn]
  refine Prod.ext rfl (Prod.ext ?_ rfl)
  funext p
  show va_up (fun p => if p = 24 then fi else if p = 25 then ma else if p = 26 then ho else if p = 29 then cr else x.2.1 p) 25 (upd ma n v) p = if p = 24 then fi else if p = 25 then upd ma n v else if p = 26 then ho else if p = 29 then cr else x.2.1 p
  unfold va_up
  by_cases c : p = 25
  · simp [c]
  · simp [c]
theorem PXS_g25 (x : ST) (cn : Int32) (fi ma ho cr : Nat → Int32) {n : Nat} (hn : n < 2 ^ 31) : gA (PXS x cn fi ma ho cr) 25 (nI n) = ma n := by rw [gA_n _ _ hn]; rfl
theorem PXS_26 (x : ST) (cn v : Int32) (fi ma ho cr : Nat → Int32) {n : Nat} (hn : n < 2 ^ 31) : pA (PXS x cn fi ma ho cr) 26 (nI n) v = PXS x cn fi ma (upd ho n v) cr := by
  rw [pA_n _ _ hn]
  refine Prod.ext rfl (Prod.ext ?_ rfl)
  funext p
  show va_up (fun p => if p = 24 then fi else if p = 25 then ma else if p = 26 then ho else if p = 29 then cr else x.2.1 p) 26 (upd ho n v) p = if p = 24 then fi else if p = 25 then ma else if p = 26 then upd ho n v else if p = 29 then cr else x.2.1 p
  unfold va_up
  by_cases c : p = 26
  · simp [c]
  · simp [c]
theorem PXS_g26 (x : ST) (cn : Int32) (fi ma ho cr : Nat → Int32) {n : Nat} (hn : n < 2 ^ 31) : gA (PXS x cn fi ma ho cr) 26 (nI n) = ho n := by rw [gA_n _ _ hn]; rfl
theorem PXS_29 (x : ST) (cn v : Int32) (fi ma ho cr : Nat → Int32) {n : Nat} (hn : n < 2 ^ 31) : pA (PXS x cn fi ma ho cr) 29 (nI n) v = PXS x cn fi ma ho (upd cr n v) := by
  rw [pA_n _ _ hn]
  refine Prod.ext rfl (Prod.ext ?_ rfl)
  funext p
  show va_up (fun p => if p = 24 then fi else if p = 25 then ma else if p = 26 then ho else if p = 29 then cr else x.2.1 p) 29 (upd cr n v) p = if p = 24 then fi else if p = 25 then ma else if p = 26 then ho else if p = 29 then upd cr n v else x.2.1 p
  unfold va_up
  by_cases c : p = 29
  · simp [c]
  · simp [c]
theorem PXS_g29 (x : ST) (cn : Int32) (fi ma ho cr : Nat → Int32) {n : Nat} (hn : n < 2 ^ 31) : gA (PXS x cn fi ma ho cr) 29 (nI n) = cr n := by rw [gA_n _ _ hn]; rfl
/-- the reference's state with other crates -/
def PMS (y : ST) (cn : Int32) (g fi ma ho cr : Nat → Int32) : ST := (fun k => if k = 32 then cn else y.1 k, fun p => if p = 47 then g else if p = 52 then fi else if p = 53 then ma else if p = 54 then ho else if p = 57 then cr else y.2.1 p, y.2.2)
theorem PMS_id (y : ST) : y = PMS y (y.1 32) (y.2.1 47) (y.2.1 52) (y.2.1 53) (y.2.1 54) (y.2.1 57) := by
  have e1 : y.1 = (PMS y (y.1 32) (y.2.1 47) (y.2.1 52) (y.2.1 53) (y.2.1 54) (y.2.1 57)).1 := by
    funext k; show _ = if k = 32 then y.1 32 else y.1 k
    by_cases c0 : k = 32
    · simp [c0]
    · skip
      simp [c0]
  have e2 : y.2.1 = (PMS y (y.1 32) (y.2.1 47) (y.2.1 52) (y.2.1 53) (y.2.1 54) (y.2.1 57)).2.1 := by
    funext p; show _ = if p = 47 then y.2.1 47 else if p = 52 then y.2.1 52 else if p = 53 then y.2.1 53 else if p = 54 then y.2.1 54 else if p = 57 then y.2.1 57 else y.2.1 p
    by_cases c0 : p = 47
    · simp [c0]
    · skip
      by_cases c1 : p = 52
      · simp [c1]
      · skip
        by_cases c2 : p = 53
        · simp [c2]
        · skip
          by_cases c3 : p = 54
          · simp [c3]
          · skip
            by_cases c4 : p = 57
            · simp [c4]
            · skip
              simp [c0, c1, c2, c3, c4]
  exact Prod.ext e1 (Prod.ext e2 rfl)
theorem PMS_32 (y : ST) (cn v : Int32) (g fi ma ho cr : Nat → Int32) : pI (PMS y cn g fi ma ho cr) 32 v = PMS y v g fi ma ho cr := by
  refine Prod.ext ?_ rfl
  funext k
  show va_up (fun k => if k = 32 then cn else y.1 k) 32 v k = if k = 32 then v else y.1 k
  unfold va_up
  by_cases c : k = 32
  · simp [c]
  · simp [c]
theorem PMS_47 (y : ST) (cn v : Int32) (g fi ma ho cr : Nat → Int32) {n : Nat} (hn : n < 2 ^ 31) : pA (PMS y cn g fi ma ho cr) 47 (nI n) v = PMS y cn (upd g n v) fi ma ho cr := by
  rw [pA_n _ _ hn]
  refine Prod.ext rfl (Prod.ext ?_ rfl)
  funext p
  show va_up (fun p => if p = 47 then g else if p = 52 then fi else if p = 53 then ma else if p = 54 then ho else if p = 57 then cr else y.2.1 p) 47 (upd g n v) p = if p = 47 then upd g n v else if p = 52 then fi else if p = 53 then ma else if p = 54 then ho else if p = 57 then cr else y.2.1 p
  unfold va_up
  by_cases c : p = 47
  · simp [c]
  · simp [c]
theorem PMS_g47 (y : ST) (cn : Int32) (g fi ma ho cr : Nat → Int32) {n : Nat} (hn : n < 2 ^ 31) : gA (PMS y cn g fi ma ho cr) 47 (nI n) = g n := by rw [gA_n _ _ hn]; rfl
theorem PMS_52 (y : ST) (cn v : Int32) (g fi ma ho cr : Nat → Int32) {n : Nat} (hn : n < 2 ^ 31) : pA (PMS y cn g fi ma ho cr) 52 (nI n) v = PMS y cn g (upd fi n v) ma ho cr := by
  rw [pA_n _ _ hn]
  refine Prod.ext rfl (Prod.ext ?_ rfl)
  funext p
  show va_up (fun p => if p = 47 then g else if p = 52 then fi else if p = 53 then ma else if p = 54 then ho else if p = 57 then cr else y.2.1 p) 52 (upd fi n v) p = if p = 47 then g else if p = 52 then upd fi n v else if p = 53 then ma else if p = 54 then ho else if p = 57 then cr else y.2.1 p
  unfold va_up
  by_cases c : p = 52
  · simp [c]
  · simp [c]
theorem PMS_g52 (y : ST) (cn : Int32) (g fi ma ho cr : Nat → Int32) {n : Nat} (hn : n < 2 ^ 31) : gA (PMS y cn g fi ma ho cr) 52 (nI n) = fi n := by rw [gA_n _ _ hn]; rfl
theorem PMS_53 (y : ST) (cn v : Int32) (g fi ma ho cr : Nat → Int32) {n : Nat} (hn : n < 2 ^ 31) : pA (PMS y cn g fi ma ho cr) 53 (nI n) v = PMS y cn g fi (upd ma n v) ho cr := by
  rw [pA_n _ _ hn]
  refine Prod.ext rfl (Prod.ext ?_ rfl)
  funext p
  show va_up (fun p => if p = 47 then g else if p = 52 then fi else if p = 53 then ma else if p = 54 then ho else if p = 57 then cr else y.2.1 p) 53 (upd ma n v) p = if p = 47 then g else if p = 52 then fi else if p = 53 then upd ma n v else if p = 54 then ho else if p = 57 then cr else y.2.1 p
  unfold va_up
  by_cases c : p = 53
  · simp [c]
  · simp [c]
theorem PMS_g53 (y : ST) (cn : Int32) (g fi ma ho cr : Nat → Int32) {n : Nat} (hn : n < 2 ^ 31) : gA (PMS y cn g fi ma ho cr) 53 (nI n) = ma n := by rw [gA_n _ _ hn]; rfl
theorem PMS_54 (y : ST) (cn v : Int32) (g fi ma ho cr : Nat → Int32) {n : Nat} (hn : n < 2 ^ 31) : pA (PMS y cn g fi ma ho cr) 54 (nI n) v = PMS y cn g fi ma (upd ho n v) cr := by
  rw [pA_n _ _ hn]
  refine Prod.ext rfl (Prod.ext ?_ rfl)
  funext p
  show va_up (fun p => if p = 47 then g else if p = 52 then fi else if p = 53 then ma else if p = 54 then ho else if p = 57 then cr else y.2.1 p) 54 (upd ho n v) p = if p = 47 then g else if p = 52 then fi else if p = 53 then ma else if p = 54 then upd ho n v else if p = 57 then cr else y.2.1 p
  unfold va_up
  by_cases c : p = 54
  · simp [c]
  · simp [c]
theorem PMS_g54 (y : ST) (cn : Int32) (g fi ma ho cr : Nat → Int32) {n : Nat} (hn : n < 2 ^ 31) : gA (PMS y cn g fi ma ho cr) 54 (nI n) = ho n := by rw [gA_n _ _ hn]; rfl
theorem PMS_57 (y : ST) (cn v : Int32) (g fi ma ho cr : Nat → Int32) {n : Nat} (hn : n < 2 ^ 31) : pA (PMS y cn g fi ma ho cr) 57 (nI n) v = PMS y cn g fi ma ho (upd cr n v) := by
  rw [pA_n _ _ hn]
  refine Prod.ext rfl (Prod.ext ?_ rfl)
  funext p
  show va_up (fun p => if p = 47 then g else if p = 52 then fi else if p = 53 then ma else if p = 54 then ho else if p = 57 then cr else y.2.1 p) 57 (upd cr n v) p = if p = 47 then g else if p = 52 then fi else if p = 53 then ma else if p = 54 then ho else if p = 57 then upd cr n v else y.2.1 p
  unfold va_up
  by_cases c : p = 57
  · simp [c]
  · simp [c]
theorem PMS_g57 (y : ST) (cn : Int32) (g fi ma ho cr : Nat → Int32) {n : Nat} (hn : n < 2 ^ 31) : gA (PMS y cn g fi ma ho cr) 57 (nI n) = cr n := by rw [gA_n _ _ hn]; rfl
/-- how far a program's rows are the packing's, when i books are packed -/
def RelP (o : Nat → Nat) (i : Nat) (P : PK) (fi ma ho cr : Nat → Int32) : Prop :=
  (∀ c, c < P.1 → fi c = P.2.2.1 c ∧ ma c = P.2.2.2.1 c ∧ ho c = P.2.2.2.2.1 c) ∧ ∀ k, k < i → cr (o k) = P.2.2.2.2.2 (o k)
theorem relP_cr {o : Nat → Nat} {i : Nat} {cr cr' pr : Nat → Int32} {v : Int32} (h : ∀ k, k < i → cr (o k) = pr (o k)) (h4 : ∀ b, cr' b = if b = o i then v else cr b) : ∀ k, k < i + 1 → cr' (o k) = upd pr (o i) v (o k) := by
  intro k hk
  rw [h4]
  unfold upd
  by_cases c : o k = o i
  · rw [if_pos c, if_pos c]
  · rw [if_neg c, if_neg c]
    rcases Nat.lt_or_ge k i with z | z
    · exact h k z
    · exact absurd (by rw [show k = i by omega]) c
theorem relP_new {o : Nat → Nat} {i : Nat} {P : PK} {fi ma ho cr fi' ma' ho' cr' : Nat → Int32} {h ld : Int32} (hr : RelP o i P fi ma ho cr) (h1 : ∀ c, fi' c = if c = P.1 then nI (o i) else fi c) (h2 : ∀ c, ma' c = if c = P.1 then 0 + 1 else ma c) (h3 : ∀ c, ho' c = if c = P.1 then h else ho c) (h4 : ∀ b, cr' b = if b = o i then nI P.1 else cr b) :
    RelP o (i + 1) (P.1 + 1, ld, upd P.2.2.1 P.1 (nI (o i)), upd P.2.2.2.1 P.1 (0 + 1), upd P.2.2.2.2.1 P.1 h, upd P.2.2.2.2.2 (o i) (nI P.1)) fi' ma' ho' cr' := by
  refine ⟨fun c hc => ?_, relP_cr hr.2 h4⟩
  rw [h1, h2, h3]
  show _ = upd P.2.2.1 P.1 (nI (o i)) c ∧ _ = upd P.2.2.2.1 P.1 (0 + 1) c ∧ _ = upd P.2.2.2.2.1 P.1 h c
  unfold upd
  by_cases z : c = P.1
  · rw [if_pos z, if_pos z, if_pos z, if_pos z, if_pos z, if_pos z]; exact ⟨rfl, rfl, rfl⟩
  · rw [if_neg z, if_neg z, if_neg z, if_neg z, if_neg z, if_neg z]
    have hc : c < P.1 + 1 := hc
    exact hr.1 c (by omega)
theorem relP_old {o : Nat → Nat} {i : Nat} {P : PK} {fi ma ho cr ma' cr' : Nat → Int32} {ld : Int32} (hr : RelP o i P fi ma ho cr) (hp : 0 < P.1) (h2 : ∀ c, ma' c = if c = P.1 - 1 then ma (P.1 - 1) + 1 else ma c) (h4 : ∀ b, cr' b = if b = o i then nI (P.1 - 1) else cr b) :
    RelP o (i + 1) (P.1, ld, P.2.2.1, upd P.2.2.2.1 (P.1 - 1) (P.2.2.2.1 (P.1 - 1) + 1), P.2.2.2.2.1, upd P.2.2.2.2.2 (o i) (nI (P.1 - 1))) fi ma' ho cr' := by
  refine ⟨fun c hc => ?_, relP_cr hr.2 h4⟩
  rw [h2]
  show _ ∧ _ = upd P.2.2.2.1 (P.1 - 1) (P.2.2.2.1 (P.1 - 1) + 1) c ∧ _
  have hc : c < P.1 := hc
  unfold upd
  by_cases z : c = P.1 - 1
  · rw [if_pos z, if_pos z, (hr.1 (P.1 - 1) (by omega)).2.1]; exact ⟨(hr.1 c hc).1, rfl, (hr.1 c hc).2.2⟩
  · rw [if_neg z, if_neg z]; exact hr.1 c hc
theorem packF_succ (o : Nat → Nat) (thick house : Nat → Int32) (hold : Int32) (i : Nat) : packF o thick house hold (i + 1) = packS o thick house hold i (packF o thick house hold i) := rfl
theorem pack_x {n r : Nat} {K : ST → Prop} {x : ST} {o : Nat → Nat} (hn : n ≤ 60) (hr : r < 2) (hx10 : x.1 10 = nI n) (hord : ∀ k, k < n → x.2.1 (9 + r) k = nI (o k) ∧ o k < n)
    (h : ∀ cn fi ma ho cr, cn = nI (packF o (x.2.1 12) (x.2.1 11) (x.1 16) n).1 → RelP o n (packF o (x.2.1 12) (x.2.1 11) (x.1 16) n) fi ma ho cr → K (PXS x cn fi ma ho cr)) : wX1_pack (nI r) K x := by
  unfold wX1_pack
  intro x1 e1
  have e3 : x1 = PXS x (nI 0) (x.2.1 24) (x.2.1 25) (x.2.1 26) (x.2.1 29) := by
    rw [e1]
    conv => lhs; rw [PXS_id x]
    rw [PXS_17]
    rfl
  rw [e3]
  clear e1 e3
  refine it2 (I := fun mm v3 v4 x2 => ∃ i c ld fi ma ho cr, v3 = ld ∧ v4 = nI i ∧ i ≤ n ∧ mm = n - i ∧ x2 = PXS x (nI c) fi ma ho cr ∧ c = (packF o (x.2.1 12) (x.2.1 11) (x.1 16) i).1 ∧ c ≤ i ∧ ld = (packF o (x.2.1 12) (x.2.1 11) (x.1 16) i).2.1 ∧ RelP o i (packF o (x.2.1 12) (x.2.1 11) (x.1 16) i) fi ma ho cr) ?_ (m := n)
    ⟨0, 0, 0, _, _, _, _, rfl, rfl, Nat.zero_le _, rfl, rfl, rfl, Nat.le_refl _, rfl, fun c hc => absurd hc (Nat.not_lt_zero c), fun k hk => absurd hk (Nat.not_lt_zero k)⟩
  rintro mm v3 v4 x2 G ⟨i, c, ld, fi, ma, ho, cr, rfl, rfl, hi, hmm, rfl, q1, q2, q3, q4⟩ hG
  unfold FX1_pack_10
  rw [show gI (PXS x (nI c) fi ma ho cr) 10 = nI n from hx10, nI_leI (by omega) (by omega)]
  by_cases c1 : n ≤ i
  · refine brT c1 (h _ _ _ _ _ ?_ ?_)
    · rw [q1, show i = n by omega]
    · rw [show i = n by omega] at q4; exact q4
  · refine brF c1 ⟨vin hr (by omega), vin (by omega) (by omega), fun b eb => ?_⟩
    obtain ⟨o1, o2⟩ := hord i (by omega)
    have eb2 : b = nI (o i) := by
      rw [eb, nI_clamp (by omega), gA_n _ _ (by omega)]
      rw [← o1]
      match r, hr with
      | 0, _ => rfl
      | 1, _ => rfl
    clear eb
    subst eb2
    have hstep := packF_succ o (x.2.1 12) (x.2.1 11) (x.1 16) i
    generalize packF o (x.2.1 12) (x.2.1 11) (x.1 16) i = L at hstep q1 q3 q4
    unfold packS at hstep
    rw [show gI (PXS x (nI c) fi ma ho cr) 17 = nI c from rfl, show (0 : Int32) = nI 0 from rfl, nI_leI (by omega) (by omega)]
    by_cases c2 : c ≤ 0
    · refine brT c2 ?_
      rw [show nI 0 = (0 : Int32) from rfl]
      refine ⟨(vin (by omega) (by omega) : vp_in (nI c) 60), fun x7 e7 => ?_⟩
      have f7 := e7.trans (PXS_24 x (nI c) (nI (o i)) fi ma ho cr (n := c) (by omega))
      clear e7
      subst f7
      refine ⟨(vin (by omega) (by omega) : vp_in (nI c) 60), fun x9 e9 => ?_⟩
      have f9 := e9.trans (PXS_25 x (nI c) 0 (upd fi c (nI (o i))) ma ho cr (n := c) (by omega))
      clear e9
      subst f9
      refine ⟨vin (by omega) (by omega), (vin (by omega) (by omega) : vp_in (nI c) 60), fun x12 e12 x13 e13 x14 e14 => ?_⟩
      have f12 := e12.trans (PXS_26 x (nI c) _ (upd fi c (nI (o i))) (upd ma c 0) ho cr (n := c) (by omega))
      clear e12
      subst f12
      have f13 := e13.trans (PXS_17 x (nI c) _ (upd fi c (nI (o i))) (upd ma c 0) _ cr)
      rw [show gI (PXS x (nI c) (upd fi c (nI (o i))) (upd ma c 0) (upd ho c (gA (PXS x (nI c) (upd fi c (nI (o i))) (upd ma c 0) ho cr) 11 (nI (o i)))) cr) 17 = nI c from rfl, nI_1, gA_n _ 11 (by omega), show (PXS x (nI c) (upd fi c (nI (o i))) (upd ma c 0) ho cr).2.1 11 (o i) = x.2.1 11 (o i) from rfl] at f13
      clear e13
      subst f13
      have f14 := e14.trans (PXS_29 x (nI (c + 1)) _ (upd fi c (nI (o i))) (upd ma c 0) (upd ho c (x.2.1 11 (o i))) cr (n := o i) (by omega))
      rw [show gI (PXS x (nI (c + 1)) (upd fi c (nI (o i))) (upd ma c 0) (upd ho c (x.2.1 11 (o i))) cr) 17 = nI (c + 1) from rfl, nI_pred] at f14
      clear e14
      subst f14
      rw [show gI (PXS x (nI (c + 1)) (upd fi c (nI (o i))) (upd ma c 0) (upd ho c (x.2.1 11 (o i))) (upd cr (o i) (nI c))) 17 = nI (c + 1) from rfl, nI_pred]
      refine ⟨vin (by omega) (by omega), fun x16 e16 v ev w ew => ?_⟩
      rw [PXS_g25 _ _ _ _ _ _ (by omega), PXS_25 _ _ _ _ _ _ _ (by omega)] at e16
      subst e16
      rw [gA_n _ 12 (by omega)] at ev
      rw [nI_1] at ew
      subst ev ew
      rw [if_neg (by rw [← q1]; omega)] at hstep
      refine hG (n - (i + 1)) _ _ _ (by omega) ⟨i + 1, c + 1, _, _, _, _, _, rfl, rfl, by omega, rfl, rfl, ?_, by omega, ?_, ?_⟩
      · rw [hstep, q1]
      · rw [hstep]; rfl
      · rw [hstep]
        rw [q1]
        refine relP_new q4 (fun q => rfl) (fun q => ?_) (fun q => rfl) (fun q => rfl)
        unfold upd
        by_cases z : q = L.1
        · rw [if_pos z, if_pos z, if_pos rfl]
        · rw [if_neg z, if_neg z, if_neg z]
    · rw [show nI 0 = (0 : Int32) from rfl]
      refine brF c2 ⟨by rw [nI_m1 (by omega)]; exact vin (by omega) (by omega), vin (by omega) (by omega), ?_⟩
      rw [nI_m1 (by omega), PXS_g26 _ _ _ _ _ _ (by omega), gA_n _ 11 (by omega), show (PXS x (nI c) fi ma ho cr).2.1 11 (o i) = x.2.1 11 (o i) from rfl]
      by_cases c3 : ho (c - 1) = x.2.1 11 (o i)
      · refine rbT c3 ?_
        rw [show gI (PXS x (nI c) fi ma ho cr) 16 = x.1 16 from rfl, gA_n _ 12 (by omega), show (PXS x (nI c) fi ma ho cr).2.1 12 (o i) = x.2.1 12 (o i) from rfl]
        by_cases c4 : x.1 16 < v3 + x.2.1 12 (o i)
        · refine brT c4 ?_
          refine ⟨(vin (by omega) (by omega) : vp_in (nI c) 60), fun x7 e7 => ?_⟩
          have f7 := e7.trans (PXS_24 x (nI c) (nI (o i)) fi ma ho cr (n := c) (by omega))
          clear e7
          subst f7
          refine ⟨(vin (by omega) (by omega) : vp_in (nI c) 60), fun x9 e9 => ?_⟩
          have f9 := e9.trans (PXS_25 x (nI c) 0 (upd fi c (nI (o i))) ma ho cr (n := c) (by omega))
          clear e9
          subst f9
          refine ⟨(vin (by omega) (by omega) : vp_in (nI c) 60), fun x12 e12 x13 e13 x14 e14 => ?_⟩
          have f12 := e12.trans (PXS_26 x (nI c) _ (upd fi c (nI (o i))) (upd ma c 0) ho cr (n := c) (by omega))
          clear e12
          subst f12
          have f13 := e13.trans (PXS_17 x (nI c) _ (upd fi c (nI (o i))) (upd ma c 0) _ cr)
          rw [show gI (PXS x (nI c) (upd fi c (nI (o i))) (upd ma c 0) (upd ho c (gA (PXS x (nI c) (upd fi c (nI (o i))) (upd ma c 0) ho cr) 11 (nI (o i)))) cr) 17 = nI c from rfl, nI_1, gA_n _ 11 (by omega), show (PXS x (nI c) (upd fi c (nI (o i))) (upd ma c 0) ho cr).2.1 11 (o i) = x.2.1 11 (o i) from rfl] at f13
          clear e13
          subst f13
          have f14 := e14.trans (PXS_29 x (nI (c + 1)) _ (upd fi c (nI (o i))) (upd ma c 0) (upd ho c (x.2.1 11 (o i))) cr (n := o i) (by omega))
          rw [show gI (PXS x (nI (c + 1)) (upd fi c (nI (o i))) (upd ma c 0) (upd ho c (x.2.1 11 (o i))) cr) 17 = nI (c + 1) from rfl, nI_pred] at f14
          clear e14
          subst f14
          rw [show gI (PXS x (nI (c + 1)) (upd fi c (nI (o i))) (upd ma c 0) (upd ho c (x.2.1 11 (o i))) (upd cr (o i) (nI c))) 17 = nI (c + 1) from rfl, nI_pred]
          refine ⟨vin (by omega) (by omega), fun x16 e16 v ev w ew => ?_⟩
          rw [PXS_g25 _ _ _ _ _ _ (by omega), PXS_25 _ _ _ _ _ _ _ (by omega)] at e16
          subst e16
          rw [gA_n _ 12 (by omega)] at ev
          rw [nI_1] at ew
          subst ev ew
          rw [if_neg (by rw [← q3]; exact fun z => z.2.2 c4)] at hstep
          refine hG (n - (i + 1)) _ _ _ (by omega) ⟨i + 1, c + 1, _, _, _, _, _, rfl, rfl, by omega, rfl, rfl, ?_, by omega, ?_, ?_⟩
          · rw [hstep, q1]
          · rw [hstep]; rfl
          · rw [hstep]
            rw [q1]
            refine relP_new q4 (fun q => rfl) (fun q => ?_) (fun q => rfl) (fun q => rfl)
            unfold upd
            by_cases z : q = L.1
            · rw [if_pos z, if_pos z, if_pos rfl]
            · rw [if_neg z, if_neg z, if_neg z]
        · refine brF c4 (fun x5 e5 => ?_)
          rw [PXS_29 _ _ _ _ _ _ _ (by omega)] at e5
          subst e5
          rw [show gI (PXS x (nI c) fi ma ho (upd cr (o i) (nI (c - 1)))) 17 = nI c from rfl, nI_m1 (by omega)]
          refine ⟨vin (by omega) (by omega), fun x6 e6 v ev w ew => ?_⟩
          rw [PXS_g25 _ _ _ _ _ _ (by omega), PXS_25 _ _ _ _ _ _ _ (by omega)] at e6
          subst e6
          rw [gA_n _ 12 (by omega)] at ev
          rw [nI_1] at ew
          subst ev ew
          rw [if_pos (by rw [← q1, ← q3]; exact ⟨by omega, by rw [← (q4.1 (c - 1) (by omega)).2.2]; exact c3, c4⟩)] at hstep
          refine hG (n - (i + 1)) _ _ _ (by omega) ⟨i + 1, c, _, _, _, _, _, rfl, rfl, by omega, rfl, rfl, ?_, by omega, ?_, ?_⟩
          · rw [hstep]; exact q1
          · rw [hstep, q3]; rfl
          · rw [hstep]
            rw [q1]
            exact relP_old q4 (by omega) (fun q => rfl) (fun q => rfl)
      · refine rbF c3 ?_
        refine ⟨(vin (by omega) (by omega) : vp_in (nI c) 60), fun x7 e7 => ?_⟩
        have f7 := e7.trans (PXS_24 x (nI c) (nI (o i)) fi ma ho cr (n := c) (by omega))
        clear e7
        subst f7
        refine ⟨(vin (by omega) (by omega) : vp_in (nI c) 60), fun x9 e9 => ?_⟩
        have f9 := e9.trans (PXS_25 x (nI c) 0 (upd fi c (nI (o i))) ma ho cr (n := c) (by omega))
        clear e9
        subst f9
        refine ⟨(vin (by omega) (by omega) : vp_in (nI c) 60), fun x12 e12 x13 e13 x14 e14 => ?_⟩
        have f12 := e12.trans (PXS_26 x (nI c) _ (upd fi c (nI (o i))) (upd ma c 0) ho cr (n := c) (by omega))
        clear e12
        subst f12
        have f13 := e13.trans (PXS_17 x (nI c) _ (upd fi c (nI (o i))) (upd ma c 0) _ cr)
        rw [show gI (PXS x (nI c) (upd fi c (nI (o i))) (upd ma c 0) (upd ho c (gA (PXS x (nI c) (upd fi c (nI (o i))) (upd ma c 0) ho cr) 11 (nI (o i)))) cr) 17 = nI c from rfl, nI_1, gA_n _ 11 (by omega), show (PXS x (nI c) (upd fi c (nI (o i))) (upd ma c 0) ho cr).2.1 11 (o i) = x.2.1 11 (o i) from rfl] at f13
        clear e13
        subst f13
        have f14 := e14.trans (PXS_29 x (nI (c + 1)) _ (upd fi c (nI (o i))) (upd ma c 0) (upd ho c (x.2.1 11 (o i))) cr (n := o i) (by omega))
        rw [show gI (PXS x (nI (c + 1)) (upd fi c (nI (o i))) (upd ma c 0) (upd ho c (x.2.1 11 (o i))) cr) 17 = nI (c + 1) from rfl, nI_pred] at f14
        clear e14
        subst f14
        rw [show gI (PXS x (nI (c + 1)) (upd fi c (nI (o i))) (upd ma c 0) (upd ho c (x.2.1 11 (o i))) (upd cr (o i) (nI c))) 17 = nI (c + 1) from rfl, nI_pred]
        refine ⟨vin (by omega) (by omega), fun x16 e16 v ev w ew => ?_⟩
        rw [PXS_g25 _ _ _ _ _ _ (by omega), PXS_25 _ _ _ _ _ _ _ (by omega)] at e16
        subst e16
        rw [gA_n _ 12 (by omega)] at ev
        rw [nI_1] at ew
        subst ev ew
        rw [if_neg (by rw [← q1]; exact fun z => c3 (by rw [(q4.1 (c - 1) (by omega)).2.2]; exact z.2.1))] at hstep
        refine hG (n - (i + 1)) _ _ _ (by omega) ⟨i + 1, c + 1, _, _, _, _, _, rfl, rfl, by omega, rfl, rfl, ?_, by omega, ?_, ?_⟩
        · rw [hstep, q1]
        · rw [hstep]; rfl
        · rw [hstep]
          rw [q1]
          refine relP_new q4 (fun q => rfl) (fun q => ?_) (fun q => rfl) (fun q => rfl)
          unfold upd
          by_cases z : q = L.1
          · rw [if_pos z, if_pos z, if_pos rfl]
          · rw [if_neg z, if_neg z, if_neg z]
theorem pack_y2 {n : Nat} {K : ST → Prop} {y : ST} {o : Nat → Nat} {g thick house : Nat → Int32} {hold : Int32} (hn : n ≤ 60) (hy22 : y.1 22 = nI n) (hord : ∀ k, k < n → g k = nI (o k) ∧ o k < n)
    (hh : ∀ b, b < n → y.2.1 40 b = house b) (hth : ∀ b, b < n → y.2.1 41 b = thick b) (hhold : y.1 25 = hold)
    (h : ∀ cn fi ma ho cr, cn = nI (packF o thick house hold n).1 → RelP o n (packF o thick house hold n) fi ma ho cr → wX7_meet K (PMS y cn g fi ma ho cr)) {fi0 ma0 ho0 cr0 : Nat → Int32} : ∃ m, it (fun (_ : Int32) (_ : Int32) (_ : ST) => False) (FX7_pack_17 K) m 0 0 (PMS y (nI 0) g fi0 ma0 ho0 cr0) := by
  refine it2 (I := fun mm v3 v4 x2 => ∃ i c ld fi ma ho cr, v3 = ld ∧ v4 = nI i ∧ i ≤ n ∧ mm = n - i ∧ x2 = PMS y (nI c) g fi ma ho cr ∧ c = (packF o thick house hold i).1 ∧ c ≤ i ∧ ld = (packF o thick house hold i).2.1 ∧ RelP o i (packF o thick house hold i) fi ma ho cr) ?_ (m := n)
    ⟨0, 0, 0, _, _, _, _, rfl, rfl, Nat.zero_le _, rfl, rfl, rfl, Nat.le_refl _, rfl, fun c hc => absurd hc (Nat.not_lt_zero c), fun k hk => absurd hk (Nat.not_lt_zero k)⟩
  rintro mm v3 v4 x2 G ⟨i, c, ld, fi, ma, ho, cr, rfl, rfl, hi, hmm, rfl, q1, q2, q3, q4⟩ hG
  unfold FX7_pack_17
  rw [show gI (PMS y (nI c) g fi ma ho cr) 22 = nI n from hy22, nI_leI (by omega) (by omega)]
  by_cases c1 : n ≤ i
  · refine brT c1 (h _ _ _ _ _ ?_ ?_)
    · rw [q1, show i = n by omega]
    · rw [show i = n by omega] at q4; exact q4
  · refine brF c1 ⟨vin (by omega) (by omega), fun b eb => ?_⟩
    obtain ⟨o1, o2⟩ := hord i (by omega)
    have eb2 : b = nI (o i) := by rw [eb, PMS_g47 _ _ _ _ _ _ _ (by omega)]; exact o1
    clear eb
    subst eb2
    have hstep := packF_succ o thick house hold i
    generalize packF o thick house hold i = L at hstep q1 q3 q4
    unfold packS at hstep
    rw [show gI (PMS y (nI c) g fi ma ho cr) 32 = nI c from rfl, show (0 : Int32) = nI 0 from rfl, nI_eq (by omega) (by omega)]
    by_cases c2 : c = 0
    · refine brT c2 ?_
      rw [show nI 0 = (0 : Int32) from rfl]
      refine ⟨(vin (by omega) (by omega) : vp_in (nI c) 60), fun x7 e7 => ?_⟩
      have f7 := e7.trans (PMS_52 y (nI c) (nI (o i)) g fi ma ho cr (n := c) (by omega))
      clear e7
      subst f7
      refine ⟨(vin (by omega) (by omega) : vp_in (nI c) 60), fun x9 e9 => ?_⟩
      have f9 := e9.trans (PMS_53 y (nI c) 0 g (upd fi c (nI (o i))) ma ho cr (n := c) (by omega))
      clear e9
      subst f9
      refine ⟨vin (by omega) (by omega), (vin (by omega) (by omega) : vp_in (nI c) 60), fun x12 e12 x13 e13 x14 e14 => ?_⟩
      have f12 := e12.trans (PMS_54 y (nI c) _ g (upd fi c (nI (o i))) (upd ma c 0) ho cr (n := c) (by omega))
      clear e12
      subst f12
      have f13 := e13.trans (PMS_32 y (nI c) _ g (upd fi c (nI (o i))) (upd ma c 0) _ cr)
      rw [show gI (PMS y (nI c) g (upd fi c (nI (o i))) (upd ma c 0) (upd ho c (gA (PMS y (nI c) g (upd fi c (nI (o i))) (upd ma c 0) ho cr) 40 (nI (o i)))) cr) 32 = nI c from rfl, nI_1, gA_n _ 40 (by omega), show (PMS y (nI c) g (upd fi c (nI (o i))) (upd ma c 0) ho cr).2.1 40 (o i) = house (o i) from hh _ o2] at f13
      clear e13
      subst f13
      have f14 := e14.trans (PMS_57 y (nI (c + 1)) _ g (upd fi c (nI (o i))) (upd ma c 0) (upd ho c (house (o i))) cr (n := o i) (by omega))
      rw [show gI (PMS y (nI (c + 1)) g (upd fi c (nI (o i))) (upd ma c 0) (upd ho c (house (o i))) cr) 32 = nI (c + 1) from rfl, nI_pred] at f14
      clear e14
      subst f14
      rw [show gI (PMS y (nI (c + 1)) g (upd fi c (nI (o i))) (upd ma c 0) (upd ho c (house (o i))) (upd cr (o i) (nI c))) 32 = nI (c + 1) from rfl, nI_pred]
      refine ⟨vin (by omega) (by omega), fun x16 e16 v ev w ew => ?_⟩
      rw [PMS_g53 _ _ _ _ _ _ _ (by omega), PMS_53 _ _ _ _ _ _ _ _ (by omega)] at e16
      subst e16
      rw [gA_n _ 41 (by omega)] at ev
      rw [show (PMS y (nI (c + 1)) g (upd fi c (nI (o i))) (upd (upd ma c 0) c (upd ma c 0 c + 1)) (upd ho c (house (o i))) (upd cr (o i) (nI c))).2.1 41 (o i) = thick (o i) from hth _ o2] at ev
      rw [nI_1] at ew
      subst ev ew
      rw [if_neg (by rw [← q1]; omega)] at hstep
      refine hG (n - (i + 1)) _ _ _ (by omega) ⟨i + 1, c + 1, _, _, _, _, _, rfl, rfl, by omega, rfl, rfl, ?_, by omega, ?_, ?_⟩
      · rw [hstep, q1]
      · rw [hstep]
      · rw [hstep]
        rw [q1]
        refine relP_new q4 (fun q => rfl) (fun q => ?_) (fun q => rfl) (fun q => rfl)
        unfold upd
        by_cases z : q = L.1
        · rw [if_pos z, if_pos z, if_pos rfl]
        · rw [if_neg z, if_neg z, if_neg z]
    · rw [show nI 0 = (0 : Int32) from rfl]
      refine brF c2 ⟨vin (by omega) (by omega), ?_⟩
      rw [show gI (PMS y (nI c) g fi ma ho cr) 25 = hold from hhold, gA_n _ 41 (by omega), show (PMS y (nI c) g fi ma ho cr).2.1 41 (o i) = thick (o i) from hth _ o2]
      by_cases c4 : hold < v3 + thick (o i)
      · refine brT c4 ?_
        refine ⟨(vin (by omega) (by omega) : vp_in (nI c) 60), fun x7 e7 => ?_⟩
        have f7 := e7.trans (PMS_52 y (nI c) (nI (o i)) g fi ma ho cr (n := c) (by omega))
        clear e7
        subst f7
        refine ⟨(vin (by omega) (by omega) : vp_in (nI c) 60), fun x9 e9 => ?_⟩
        have f9 := e9.trans (PMS_53 y (nI c) 0 g (upd fi c (nI (o i))) ma ho cr (n := c) (by omega))
        clear e9
        subst f9
        refine ⟨(vin (by omega) (by omega) : vp_in (nI c) 60), fun x12 e12 x13 e13 x14 e14 => ?_⟩
        have f12 := e12.trans (PMS_54 y (nI c) _ g (upd fi c (nI (o i))) (upd ma c 0) ho cr (n := c) (by omega))
        clear e12
        subst f12
        have f13 := e13.trans (PMS_32 y (nI c) _ g (upd fi c (nI (o i))) (upd ma c 0) _ cr)
        rw [show gI (PMS y (nI c) g (upd fi c (nI (o i))) (upd ma c 0) (upd ho c (gA (PMS y (nI c) g (upd fi c (nI (o i))) (upd ma c 0) ho cr) 40 (nI (o i)))) cr) 32 = nI c from rfl, nI_1, gA_n _ 40 (by omega), show (PMS y (nI c) g (upd fi c (nI (o i))) (upd ma c 0) ho cr).2.1 40 (o i) = house (o i) from hh _ o2] at f13
        clear e13
        subst f13
        have f14 := e14.trans (PMS_57 y (nI (c + 1)) _ g (upd fi c (nI (o i))) (upd ma c 0) (upd ho c (house (o i))) cr (n := o i) (by omega))
        rw [show gI (PMS y (nI (c + 1)) g (upd fi c (nI (o i))) (upd ma c 0) (upd ho c (house (o i))) cr) 32 = nI (c + 1) from rfl, nI_pred] at f14
        clear e14
        subst f14
        rw [show gI (PMS y (nI (c + 1)) g (upd fi c (nI (o i))) (upd ma c 0) (upd ho c (house (o i))) (upd cr (o i) (nI c))) 32 = nI (c + 1) from rfl, nI_pred]
        refine ⟨vin (by omega) (by omega), fun x16 e16 v ev w ew => ?_⟩
        rw [PMS_g53 _ _ _ _ _ _ _ (by omega), PMS_53 _ _ _ _ _ _ _ _ (by omega)] at e16
        subst e16
        rw [gA_n _ 41 (by omega)] at ev
        rw [show (PMS y (nI (c + 1)) g (upd fi c (nI (o i))) (upd (upd ma c 0) c (upd ma c 0 c + 1)) (upd ho c (house (o i))) (upd cr (o i) (nI c))).2.1 41 (o i) = thick (o i) from hth _ o2] at ev
        rw [nI_1] at ew
        subst ev ew
        rw [if_neg (by rw [← q3]; exact fun z => z.2.2 c4)] at hstep
        refine hG (n - (i + 1)) _ _ _ (by omega) ⟨i + 1, c + 1, _, _, _, _, _, rfl, rfl, by omega, rfl, rfl, ?_, by omega, ?_, ?_⟩
        · rw [hstep, q1]
        · rw [hstep]
        · rw [hstep]
          rw [q1]
          refine relP_new q4 (fun q => rfl) (fun q => ?_) (fun q => rfl) (fun q => rfl)
          unfold upd
          by_cases z : q = L.1
          · rw [if_pos z, if_pos z, if_pos rfl]
          · rw [if_neg z, if_neg z, if_neg z]
      · refine brF c4 ⟨by rw [nI_m1 (by omega)]; exact vin (by omega) (by omega), ?_⟩
        rw [nI_m1 (by omega), PMS_g54 _ _ _ _ _ _ _ (by omega), gA_n _ 40 (by omega), show (PMS y (nI c) g fi ma ho cr).2.1 40 (o i) = house (o i) from hh _ o2]
        by_cases c3 : ho (c - 1) = house (o i)
        · refine brT c3 (fun x5 e5 => ?_)
          rw [PMS_57 _ _ _ _ _ _ _ _ (by omega)] at e5
          subst e5
          rw [show gI (PMS y (nI c) g fi ma ho (upd cr (o i) (nI (c - 1)))) 32 = nI c from rfl, nI_m1 (by omega)]
          refine ⟨vin (by omega) (by omega), fun x6 e6 v ev w ew => ?_⟩
          rw [PMS_g53 _ _ _ _ _ _ _ (by omega), PMS_53 _ _ _ _ _ _ _ _ (by omega)] at e6
          subst e6
          rw [gA_n _ 41 (by omega)] at ev
          rw [show (PMS y (nI c) g fi (upd ma (c - 1) (ma (c - 1) + 1)) ho (upd cr (o i) (nI (c - 1)))).2.1 41 (o i) = thick (o i) from hth _ o2] at ev
          rw [nI_1] at ew
          subst ev ew
          rw [if_pos (by rw [← q1, ← q3]; exact ⟨by omega, by rw [← (q4.1 (c - 1) (by omega)).2.2]; exact c3, c4⟩)] at hstep
          refine hG (n - (i + 1)) _ _ _ (by omega) ⟨i + 1, c, _, _, _, _, _, rfl, rfl, by omega, rfl, rfl, ?_, by omega, ?_, ?_⟩
          · rw [hstep]; exact q1
          · rw [hstep, q3]
          · rw [hstep]
            rw [q1]
            exact relP_old q4 (by omega) (fun q => rfl) (fun q => rfl)
        · refine brF c3 ?_
          refine ⟨(vin (by omega) (by omega) : vp_in (nI c) 60), fun x7 e7 => ?_⟩
          have f7 := e7.trans (PMS_52 y (nI c) (nI (o i)) g fi ma ho cr (n := c) (by omega))
          clear e7
          subst f7
          refine ⟨(vin (by omega) (by omega) : vp_in (nI c) 60), fun x9 e9 => ?_⟩
          have f9 := e9.trans (PMS_53 y (nI c) 0 g (upd fi c (nI (o i))) ma ho cr (n := c) (by omega))
          clear e9
          subst f9
          refine ⟨(vin (by omega) (by omega) : vp_in (nI c) 60), fun x12 e12 x13 e13 x14 e14 => ?_⟩
          have f12 := e12.trans (PMS_54 y (nI c) _ g (upd fi c (nI (o i))) (upd ma c 0) ho cr (n := c) (by omega))
          clear e12
          subst f12
          have f13 := e13.trans (PMS_32 y (nI c) _ g (upd fi c (nI (o i))) (upd ma c 0) _ cr)
          rw [show gI (PMS y (nI c) g (upd fi c (nI (o i))) (upd ma c 0) (upd ho c (gA (PMS y (nI c) g (upd fi c (nI (o i))) (upd ma c 0) ho cr) 40 (nI (o i)))) cr) 32 = nI c from rfl, nI_1, gA_n _ 40 (by omega), show (PMS y (nI c) g (upd fi c (nI (o i))) (upd ma c 0) ho cr).2.1 40 (o i) = house (o i) from hh _ o2] at f13
          clear e13
          subst f13
          have f14 := e14.trans (PMS_57 y (nI (c + 1)) _ g (upd fi c (nI (o i))) (upd ma c 0) (upd ho c (house (o i))) cr (n := o i) (by omega))
          rw [show gI (PMS y (nI (c + 1)) g (upd fi c (nI (o i))) (upd ma c 0) (upd ho c (house (o i))) cr) 32 = nI (c + 1) from rfl, nI_pred] at f14
          clear e14
          subst f14
          rw [show gI (PMS y (nI (c + 1)) g (upd fi c (nI (o i))) (upd ma c 0) (upd ho c (house (o i))) (upd cr (o i) (nI c))) 32 = nI (c + 1) from rfl, nI_pred]
          refine ⟨vin (by omega) (by omega), fun x16 e16 v ev w ew => ?_⟩
          rw [PMS_g53 _ _ _ _ _ _ _ (by omega), PMS_53 _ _ _ _ _ _ _ _ (by omega)] at e16
          subst e16
          rw [gA_n _ 41 (by omega)] at ev
          rw [show (PMS y (nI (c + 1)) g (upd fi c (nI (o i))) (upd (upd ma c 0) c (upd ma c 0 c + 1)) (upd ho c (house (o i))) (upd cr (o i) (nI c))).2.1 41 (o i) = thick (o i) from hth _ o2] at ev
          rw [nI_1] at ew
          subst ev ew
          rw [if_neg (by rw [← q1]; exact fun z => c3 (by rw [(q4.1 (c - 1) (by omega)).2.2]; exact z.2.1))] at hstep
          refine hG (n - (i + 1)) _ _ _ (by omega) ⟨i + 1, c + 1, _, _, _, _, _, rfl, rfl, by omega, rfl, rfl, ?_, by omega, ?_, ?_⟩
          · rw [hstep, q1]
          · rw [hstep]
          · rw [hstep]
            rw [q1]
            refine relP_new q4 (fun q => rfl) (fun q => ?_) (fun q => rfl) (fun q => rfl)
            unfold upd
            by_cases z : q = L.1
            · rw [if_pos z, if_pos z, if_pos rfl]
            · rw [if_neg z, if_neg z, if_neg z]
