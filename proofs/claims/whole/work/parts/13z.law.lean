theorem it_xy {F : (Int32 → ST → ST → Prop) → Int32 → ST → ST → Prop} (I : Nat → Int32 → ST → ST → Prop) (hs : ∀ m a x y G, I m a x y → (∀ m' a' x' y', m' < m → I m' a' x' y' → G a' x' y') → F G a x y) {m : Nat} {a : Int32} {x y : ST} (h : I m a x y) : ∃ n, it (fun (_ : Int32) (_ : ST) (_ : ST) => False) F n a x y := by
  have key : ∀ n m a x y, m < n → I m a x y → it (fun (_ : Int32) (_ : ST) (_ : ST) => False) F n a x y := by
    intro n
    induction n with
    | zero => intro m a x y hm; omega
    | succ n ih => intro m a x y hm hI; exact hs m a x y _ hI (fun m' a' x' y' hlt hI' => ih m' a' x' y' (by omega) hI')
  exact ⟨m + 1, key _ m a x y (by omega) h⟩
/-- the law's loop: every call of the class answers as the reference does, and the two states stay like one another -/
theorem law_pure {L : Nat} (hL : L ≤ 3072) (xs : Nat → Int32) : ∃ n, it (fun (_ : Int32) (_ : ST) (_ : ST) => False) (FL L xs) n 0 x0 y0 := by
  refine it_xy (I := fun mm i x y => ∃ q, q ≤ L ∧ i = nI q ∧ mm = L + 6 - q ∧ R x y) ?_ (m := L + 6) ⟨0, Nat.zero_le _, rfl, rfl, R_0⟩
  rintro mm i x y G ⟨q, hq, rfl, hmm, hR⟩ hG
  unfold FL
  by_cases c : (Int32.ofNat L) - 6 < nI q
  · exact brT c trivial
  · have hq6 : q + 6 ≤ L := by
      rw [i32_lt, show (Int32.ofNat L - 6 : Int32).toInt = (nI L - nI 6).toInt from rfl, pk_sub_toInt (by omega) (by omega), nI_toI (by omega)] at c
      omega
    have v1 : vp_in (nI q + 1) L := by rw [show nI q + 1 = nI (q + 1) from nI_add q 1]; exact vin (by omega) (by omega)
    have v2 : vp_in (nI q + 2) L := by rw [show nI q + 2 = nI (q + 2) from nI_add q 2]; exact vin (by omega) (by omega)
    have v3 : vp_in (nI q + 3) L := by rw [show nI q + 3 = nI (q + 3) from nI_add q 3]; exact vin (by omega) (by omega)
    have v4 : vp_in (nI q + 4) L := by rw [show nI q + 4 = nI (q + 4) from nI_add q 4]; exact vin (by omega) (by omega)
    have v5 : vp_in (nI q + 5) L := by rw [show nI q + 5 = nI (q + 5) from nI_add q 5]; exact vin (by omega) (by omega)
    have step : ∀ {wx wy : (Int32 → ST → Prop) → ST → Prop}, SIM wx wy → wx (fun (r : Int32) (x' : ST) => wy (fun (r' : Int32) (y' : ST) => ((r = r' → ∀ i' : Int32, i' = nI q + 6 → G i' x' y') ∧ (¬ r = r' → False))) y) x := fun {wx wy} hs =>
      hs x y (fun r r' x' y' => ((r = r' → ∀ i' : Int32, i' = nI q + 6 → G i' x' y') ∧ (¬ r = r' → False))) hR (fun v x' y' hR' => ⟨fun _ i' e => hG (L + 6 - (q + 6)) _ _ _ (by omega) ⟨q + 6, hq6, e.trans (nI_add q 6), rfl, hR'⟩, fun z => absurd rfl z⟩)
    refine brF c ⟨vin (by omega) (by omega), fun w3 e3 => ?_⟩
    exact ⟨fun _ => ⟨v1, v2, v3, v4, v5, step (s_feed _ _ _ _ _)⟩, fun _ => ⟨v1, step (s_end _)⟩, fun _ => ⟨v1, v2, v3, step (s_book _ _ _)⟩, fun _ => step (s_wrong), fun _ => ⟨v1, step (s_rule _)⟩, fun _ => ⟨v1, v2, v3, step (s_compare _ _ _)⟩, fun _ => ⟨v1, v2, step (s_ordered _ _)⟩, fun _ => step (s_quarrels), fun _ => ⟨v1, step (s_shelf _)⟩, fun _ => ⟨v1, v2, step (s_sizes _ _)⟩, fun _ => ⟨v1, v2, step (s_laid _ _)⟩, fun _ => ⟨v1, v2, step (s_shelfOf _ _)⟩, fun _ => ⟨v1, step (s_counts _)⟩, fun _ => ⟨v1, v2, step (s_way _ _)⟩, fun _ => ⟨v1, v2, step (s_crate _ _)⟩, fun _ => ⟨v1, step (s_meeting _)⟩, fun _ => ⟨v1, v2, v3, step (s_where _ _ _)⟩, fun _ => step (s_row), fun _ => ⟨v1, step (s_at _)⟩, fun _ => ⟨v1, v2, step (s_misplace _ _)⟩, fun _ => step (s_takenOut), fun _ => ⟨v1, step (s_isOut _)⟩, fun _ => ⟨v1, v2, v3, step (s_drawn _ _ _)⟩, fun _ => ⟨v1, step (s_about _)⟩, fun _ _ _ _ _ _ _ _ _ _ _ _ _ _ _ _ _ _ _ _ _ _ _ _ i2 e2 => hG (L + 6 - (q + 6)) _ _ _ (by omega) ⟨q + 6, hq6, e2.trans (nI_add q 6), rfl, hR⟩⟩
