theorem layF_sh (o : Nat → Nat) (tall nds long : Nat → Int32) (ns : Nat) (limit : Int32) : ∀ i b, ((layF o tall nds long ns limit i).2.2.2.1 b = -1 ∧ (layF o tall nds long ns limit i).2.2.2.2.1 b = -1) ∨ ∃ g, g < ns ∧ (layF o tall nds long ns limit i).2.2.2.1 b = nI g
  | 0, b => Or.inl ⟨rfl, rfl⟩
  | i + 1, b => by
    have ih := layF_sh o tall nds long ns limit i b
    rw [layF_succ]
    generalize layF o tall nds long ns limit i = L at ih
    unfold layS
    by_cases c : tall (o i) ≤ limit
    · rw [if_pos c]
      generalize advF (fullF L.2.2.2.2.2.2 long (nds (o i))) ns 16 L.1 = g
      by_cases c2 : g < ns
      · rw [if_pos c2]
        show ((upd L.2.2.2.1 (o i) (nI g)) b = -1 ∧ _) ∨ ∃ q, q < ns ∧ (upd L.2.2.2.1 (o i) (nI g)) b = nI q
        by_cases z : b = o i
        · exact Or.inr ⟨g, c2, by unfold upd; rw [if_pos z]⟩
        · show ((upd L.2.2.2.1 (o i) (nI g)) b = -1 ∧ (upd L.2.2.2.2.1 (o i) _) b = -1) ∨ ∃ q, q < ns ∧ (upd L.2.2.2.1 (o i) (nI g)) b = nI q
          unfold upd; rw [if_neg z, if_neg z]; exact ih
      · rw [if_neg c2]
        show ((upd L.2.2.2.1 (o i) (-1)) b = -1 ∧ (upd L.2.2.2.2.1 (o i) (-1)) b = -1) ∨ ∃ q, q < ns ∧ (upd L.2.2.2.1 (o i) (-1)) b = nI q
        unfold upd
        by_cases z : b = o i
        · rw [if_pos z, if_pos z]; exact Or.inl ⟨rfl, rfl⟩
        · rw [if_neg z, if_neg z]; exact ih
    · rw [if_neg c]
      show ((upd L.2.2.2.1 (o i) (-1)) b = -1 ∧ (upd L.2.2.2.2.1 (o i) (-1)) b = -1) ∨ ∃ q, q < ns ∧ (upd L.2.2.2.1 (o i) (-1)) b = nI q
      unfold upd
      by_cases z : b = o i
      · rw [if_pos z, if_pos z]; exact Or.inl ⟨rfl, rfl⟩
      · rw [if_neg z, if_neg z]; exact ih
theorem packF_house (o : Nat → Nat) (thick house : Nat → Int32) (hold : Int32) (A : Int32 → Prop) : ∀ i, (∀ k, k < i → A (house (o k))) → ∀ c, c < (packF o thick house hold i).1 → A ((packF o thick house hold i).2.2.2.2.1 c)
  | 0, _, c, hc => absurd hc (Nat.not_lt_zero c)
  | i + 1, h, c, hc => by
    have ih := packF_house o thick house hold A i (fun k hk => h k (by omega))
    rw [packF_succ] at hc ⊢
    generalize packF o thick house hold i = P at ih hc
    unfold packS at hc ⊢
    by_cases z : 0 < P.1 ∧ P.2.2.2.2.1 (P.1 - 1) = house (o i) ∧ ¬ hold < P.2.1 + thick (o i)
    · rw [if_pos z] at hc ⊢
      exact ih c hc
    · rw [if_neg z] at hc ⊢
      have hc : c < P.1 + 1 := hc
      show A (upd P.2.2.2.2.1 P.1 (house (o i)) c)
      unfold upd
      by_cases q : c = P.1
      · rw [if_pos q]; exact h i (by omega)
      · rw [if_neg q]; exact ih c (by omega)
theorem packF_crate (o : Nat → Nat) (thick house : Nat → Int32) (hold : Int32) : ∀ i k, k < i → ∃ c, c < (packF o thick house hold i).1 ∧ (packF o thick house hold i).2.2.2.2.2 (o k) = nI c ∧ (packF o thick house hold i).2.2.2.2.1 c = house (o k)
  | 0, k, hk => absurd hk (Nat.not_lt_zero k)
  | i + 1, k, hk => by
    have ih := packF_crate o thick house hold i k
    rw [packF_succ]
    generalize packF o thick house hold i = P at ih
    unfold packS
    by_cases z : 0 < P.1 ∧ P.2.2.2.2.1 (P.1 - 1) = house (o i) ∧ ¬ hold < P.2.1 + thick (o i)
    · rw [if_pos z]
      show ∃ c, c < P.1 ∧ upd P.2.2.2.2.2 (o i) (nI (P.1 - 1)) (o k) = nI c ∧ P.2.2.2.2.1 c = house (o k)
      unfold upd
      by_cases q : o k = o i
      · rw [if_pos q, q]; exact ⟨P.1 - 1, by omega, rfl, z.2.1⟩
      · rw [if_neg q]
        rcases Nat.lt_or_ge k i with y | y
        · exact ih y
        · exact absurd (by rw [show k = i by omega]) q
    · rw [if_neg z]
      show ∃ c, c < P.1 + 1 ∧ upd P.2.2.2.2.2 (o i) (nI P.1) (o k) = nI c ∧ upd P.2.2.2.2.1 P.1 (house (o i)) c = house (o k)
      unfold upd
      by_cases q : o k = o i
      · rw [if_pos q, q]; exact ⟨P.1, by omega, rfl, if_pos rfl⟩
      · rw [if_neg q]
        rcases Nat.lt_or_ge k i with y | y
        · obtain ⟨c, h1, h2, h3⟩ := ih y
          exact ⟨c, by omega, h2, by rw [if_neg (by omega)]; exact h3⟩
        · exact absurd (by rw [show k = i by omega]) q
theorem ordX_lt {n r : Nat} {x : ST} {k : Nat} (h : k < n) : ordX n r x k < n := ordF_lt _ n k h
theorem ordX_onto {n r : Nat} {x : ST} {b : Nat} (h : b < n) : ∃ k, k < n ∧ ordX n r x k = b := ordF_onto _ n b h
theorem packX_le {n r : Nat} {x : ST} : (packX n r x).1 ≤ n := packF_le _ _ _ _ n
/-- each crate's house, and its way -/
theorem packX_way {n r ns m t : Nat} {x y : ST} (h : RR n r ns m t x y) : ∀ c, c < (packX n r x).1 → wX x (packX n r x).2.2.2.2.1 c ≤ 100 ∧ 1 ≤ wX x (packX n r x).2.2.2.2.1 c ∧ ∃ g, g < 5 ∧ (packX n r x).2.2.2.2.1 c = nI g ∧ x.2.1 23 g = nI (wX x (packX n r x).2.2.2.2.1 c) := by
  obtain ⟨hB, hO, hQ, hU, hS, hW, hT, hP, hZ⟩ := h
  intro c hc
  obtain ⟨g, hg, e⟩ := packF_house (ordX n r x) (x.2.1 12) (x.2.1 11) (x.1 16) (fun v => ∃ g, g < 5 ∧ v = nI g) n (fun k hk => (hB.2.2.2 _ (ordX_lt hk)).2.2.2.2.1) c hc
  have e : (packX n r x).2.2.2.2.1 c = nI g := e
  obtain ⟨-, w, w1, w2, w3⟩ := hS.2.2.2.2.2.2.2 g hg
  have e2 : wX x (packX n r x).2.2.2.2.1 c = w := by
    unfold wX
    rw [e, nI_clamp (by omega), w3, nI_clamp (by omega)]
  rw [e2]
  exact ⟨w2, w1, g, hg, e, w3⟩
/-- the class's plans: another state, the same relation, and the plans are right -/
theorem plans_x {n r ns m t : Nat} {x y : ST} {K : ST → Prop} (hR : RR n r ns m t x y) (h : ∀ x', RR n r ns m t x' y → PlanOK n r ns x' → K x') : wX6_makePlans K x := by
  obtain ⟨hB, hO, hQ, hU, hS, hW, hT, hP, hZ⟩ := id hR
  unfold wX6_makePlans
  rcases hP with hP | hP
  · refine rbT hP ?_
    rw [show gI x 0 = nI r from hU.2.1]
    refine lay_x (o := ordX n r x) hB.1 hU.1 hS.1 hB.2.1 hS.2.1 (fun k hk => ⟨hO.at hU.1 k hk, ordX_lt hk⟩) (fun b hb => (hB.2.2.2 b hb).2.2.2.2.2.1) (fun ou nl ha nd sh pl a1 a2 a3 => ?_)
    rw [show gI (LYS x ou nl ha nd sh pl) 0 = nI r from hU.2.1]
    refine pack_x (x := LYS x ou nl ha nd sh pl) (o := ordX n r x) hB.1 hU.1 hB.2.1 (fun k hk => ⟨RO.at (x := LYS x ou nl ha nd sh pl) hO hU.1 k hk, ordX_lt hk⟩) (fun cn fi ma ho cr b1 b2 => ?_)
    have b1 : cn = nI (packX n r x).1 := b1
    have b2 : RelP (ordX n r x) n (packX n r x) fi ma ho cr := b2
    refine meet_x (x := PXS (LYS x ou nl ha nd sh pl) cn fi ma ho cr) (cnt := (packX n r x).1) (w := wX x (packX n r x).2.2.2.2.1) (Nat.le_trans packX_le hB.1) b1 (fun c hc => ?_) (fun bg en c1 x5 e5 => ?_)
    · obtain ⟨p1, -, g, p2, p3, p4⟩ := packX_way hR c hc
      exact ⟨p1, g, p2, (b2.1 c hc).2.2.trans p3, p4⟩
    · subst e5
      have hPl : PlanOK n r ns (pI (MXS (PXS (LYS x ou nl ha nd sh pl) cn fi ma ho cr) (nI (bestF (wX x (packX n r x).2.2.2.2.1) (sm (wX x (packX n r x).2.2.2.2.1) (packX n r x).1) (packX n r x).1).1) (nI (bestF (wX x (packX n r x).2.2.2.2.1) (sm (wX x (packX n r x).2.2.2.2.1) (packX n r x).1) (packX n r x).1).2) bg en) 1 1) := by
        refine ⟨⟨a1, a2, fun b hb => ?_, fun j hj => a3.2 j hj⟩, ⟨b1, fun c hc => b2.1 c hc, fun b hb => ?_⟩, rfl, rfl, fun c hc => c1 c hc⟩
        · obtain ⟨k, hk, e⟩ := ordX_onto (r := r) (x := x) hb
          have z := a3.1 k hk
          rw [e] at z
          exact ⟨z.1, z.2.resolve_left (fun q => Bool.noConfusion q.2)⟩
        · obtain ⟨k, hk, e⟩ := ordX_onto (r := r) (x := x) hb
          have z := b2.2 k hk
          rw [e] at z
          exact z
      exact h _ ⟨hB, hO, hQ, hU, hS, hW, hT, Or.inr ⟨rfl, hPl⟩, hZ⟩ hPl
  · refine rbF (by rw [show gI x 1 = 1 from hP.1]; exact n10) (h x hR hP.2)
def MLayOK (n r ns : Nat) (x y : ST) : Prop := y.1 30 = (layX n r ns x).2.1 ∧ y.1 31 = (layX n r ns x).2.2.1 ∧ (∀ b, b < n → y.2.1 48 b = (layX n r ns x).2.2.2.1 b ∧ ((layX n r ns x).2.2.2.1 b = -1 ∨ y.2.1 49 b = (layX n r ns x).2.2.2.2.1 b)) ∧ (∀ j, j < ns → y.2.1 50 j = (layX n r ns x).2.2.2.2.2.1 j ∧ y.2.1 51 j = (layX n r ns x).2.2.2.2.2.2 j) ∧ ∀ q, q < n → y.2.1 47 q = nI (ordX n r x q)
theorem lay_m {n r ns m t : Nat} {x y : ST} {K : ST → Prop} (hR : RR n r ns m t x y) (h : ∀ y', RR n r ns m t x y' → MLayOK n r ns x y' → K y') : wX7_lay K y := by
  obtain ⟨hB, hO, hQ, hU, hS, hW, hT, hP, hZ⟩ := id hR
  refine lay_y (k := fun ρ => x.2.2 (6 + ρ)) (tall := x.2.1 13) (nd0 := nds x) (long := x.2.1 16) (lim := x.1 13) hB.1 hU.1 hS.1 hB.2.2.1 hU.2.2 hS.2.2.1 (fun b hb => (hB.2.2.2 b hb).2.2.2.2.2.2) (fun b hb => (hB.2.2.2 b hb).2.2.1.symm) (fun j hj => (hS.2.2.2.1 j hj).symm) hS.2.2.2.2.2.1.symm (fun b hb => ?_) (fun g ou nl sh pl ha nd a1 a2 a3 a4 => ?_)
  · obtain ⟨-, p2, -, p4, -, ⟨t0, p5, p6⟩, -⟩ := hB.2.2.2 b hb
    refine ⟨t0, p5, p4.symm.trans p6, ?_⟩
    unfold nds
    rw [p6, nI_clamp (by omega), p2, hS.2.2.2.2.1 t0 p5]
  · refine h _ hR ⟨a2, a3, fun b hb => ?_, a4.2, a1⟩
    obtain ⟨k, hk, e⟩ := ordX_onto (r := r) (x := x) hb
    have z := a4.1 k hk
    have e : ordF (ltK (x.2.2 (6 + r))) n k = b := e
    rw [e] at z
    exact ⟨z.1, z.2.imp (fun q => q.1) id⟩
def MPackOK (n r : Nat) (x y : ST) : Prop := y.1 32 = nI (packX n r x).1 ∧ (∀ c, c < (packX n r x).1 → y.2.1 52 c = (packX n r x).2.2.1 c ∧ y.2.1 53 c = (packX n r x).2.2.2.1 c ∧ y.2.1 54 c = (packX n r x).2.2.2.2.1 c) ∧ (∀ b, b < n → y.2.1 57 b = (packX n r x).2.2.2.2.2 b) ∧
  y.1 33 = nI (bestF (wX x (packX n r x).2.2.2.2.1) (sm (wX x (packX n r x).2.2.2.2.1) (packX n r x).1) (packX n r x).1).1 ∧ y.1 34 = nI (bestF (wX x (packX n r x).2.2.2.2.1) (sm (wX x (packX n r x).2.2.2.2.1) (packX n r x).1) (packX n r x).1).2 ∧
  ∀ c, c < (packX n r x).1 → y.2.1 55 c = nI (begF (wX x (packX n r x).2.2.2.2.1) (sm (wX x (packX n r x).2.2.2.2.1) (packX n r x).1) (bestF (wX x (packX n r x).2.2.2.2.1) (sm (wX x (packX n r x).2.2.2.2.1) (packX n r x).1) (packX n r x).1).1 c) ∧
    y.2.1 56 c = nI (begF (wX x (packX n r x).2.2.2.2.1) (sm (wX x (packX n r x).2.2.2.2.1) (packX n r x).1) (bestF (wX x (packX n r x).2.2.2.2.1) (sm (wX x (packX n r x).2.2.2.2.1) (packX n r x).1) (packX n r x).1).1 c + wX x (packX n r x).2.2.2.2.1 c)
theorem pack_m {n r ns m t : Nat} {x y : ST} {K : ST → Prop} (hR : RR n r ns m t x y) (h : ∀ y', RR n r ns m t x y' → MPackOK n r x y' → K y') : wX7_pack K y := by
  obtain ⟨hB, hO, hQ, hU, hS, hW, hT, hP, hZ⟩ := id hR
  unfold wX7_pack
  rw [show gI y 23 = nI r from hU.2.2]
  refine sort_y (k := fun ρ => x.2.2 (6 + ρ)) hB.1 hU.1 hB.2.2.1 (fun b hb => (hB.2.2.2 b hb).2.2.2.2.2.2) (fun g hg y2 e2 => ?_)
  have e3 : y2 = PMS (y.1, va_up y.2.1 47 g, y.2.2) (nI 0) g (y.2.1 52) (y.2.1 53) (y.2.1 54) (y.2.1 57) := by
    rw [e2]
    conv => lhs; rw [PMS_id (y.1, va_up y.2.1 47 g, y.2.2)]
    rw [PMS_32]
    rfl
  rw [e3]
  refine pack_y2 (y := (y.1, va_up y.2.1 47 g, y.2.2)) (o := ordX n r x) (thick := x.2.1 12) (house := x.2.1 11) (hold := x.1 16) hB.1 hB.2.2.1 (fun k hk => ⟨hg k hk, ordX_lt hk⟩) (fun b hb => (hB.2.2.2 b hb).1.symm) (fun b hb => (hB.2.2.2 b hb).2.1.symm) hS.2.2.2.2.2.2.1.symm (fun cn fi ma ho cr b1 b2 => ?_)
  have b1 : cn = nI (packX n r x).1 := b1
  have b2 : RelP (ordX n r x) n (packX n r x) fi ma ho cr := b2
  refine meet_m (cnt := (packX n r x).1) (w := wX x (packX n r x).2.2.2.2.1) (Nat.le_trans packX_le hB.1) b1 (fun c hc => ?_) (fun bg en c1 => ?_)
  · obtain ⟨p1, -, g2, p2, p3, p4⟩ := packX_way hR c hc
    exact ⟨p1, g2, p2, (b2.1 c hc).2.2.trans p3, (hS.2.2.2.2.2.2.2 g2 p2).1.symm.trans p4⟩
  · refine h _ hR ⟨b1, fun c hc => b2.1 c hc, fun b hb => ?_, rfl, rfl, fun c hc => c1 c hc⟩
    obtain ⟨k, hk, e⟩ := ordX_onto (r := r) (x := x) hb
    have z := b2.2 k hk
    rw [e] at z
    exact z
