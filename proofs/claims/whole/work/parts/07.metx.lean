set_option maxHeartbeats 4000000 in
set_option maxRecDepth 100000 in
theorem kX6_within (l : Launch) {D : va_G} {cy : Nat → ClassId} {ad : Nat → Nat} (hI : AdI ad) (a1 : Int32) (a2 : Int32) (a3 : Int32) (K : Int32 → ST → Prop) (x y : ST) (h : wX6_within a1 a2 a3 K x) : Met l yX6_within (Cond.code yX6_within cX6_within 3 (some .boolean) :: WL) ({ frames := 0, cells := 0, slots := 0, locals := 0 } : Room) (va_Pc [.int a1, .int a2, .int a3] (PW D cy ad x y)) (va_Qi (fun r z => K r z ∧ (r = 0 ∨ r = 1)) (QW D (fun z => Wd ad cy z y)) (AW ad)) 0 0 (AW ad) := by
  refine Met.ofW (cc := cX6_within) (maxL := 3) (ret := (some .boolean)) (by decide) rfl ?_
  intro p e s m args below meth c s₁ B0 hml hv
  obtain ⟨rfl, hP, hK, hN⟩ := hv
  have hr := B0.returns
  have hlocks := B0.notSynchronized
  have hts := atoms_spec (ws := (Cond.code yX6_within cX6_within 3 (some .boolean) :: WL)) B0.pre
  have B : Bd p s m ([Value.int a1, Value.int a2, Value.int a3] : List Value).toArray c cX6_within 3 RX6 D cy := ⟨B0.exec, B0.bytes, hml, findClass_of_methodNamed B0.named, fun w hw => hts w (List.mem_cons_of_mem _ hw), hK, hN⟩
  have hx := B0.exec
  have hb := B0.bytes
  have hO : AdOk ad (AW ad) := hI.self
  have hH : Hd D (AW ad) (Wd ad cy x y) s s.heap [] := ⟨hP, va_S.rf⟩
  have hl := lv_entry ([.int a1, .int a2, .int a3]) (n := 3) (Nat.le_of_ble_eq_true rfl)
  rw [lg_entry_eq]
  generalize (lg_sl ([.int a1, .int a2, .int a3]) ++ List.replicate (3 - (lg_sl ([.int a1, .int a2, .int a3])).length) Slot.unset).toArray = ls at hl ⊢
  have hl : lv_has ls 3 [(0, .int a1), (1, .int a2), (2, .int a3)] := hl
  unfold wX6_within at h
  refine lv_iload_n hx hb dX6_within_0 rfl (lv_at hl 0 rfl) ?_
  refine lv_iload_n hx hb dX6_within_1 rfl (lv_at hl 1 rfl) ?_
  refine lv_icmp_lt (tgt := 14) hx hb dX6_within_2 (by decide) (fun c1 => ?_) (fun c1 => ?_)
  · replace h := h.1 c1
    refine lv_iconst (v := 0) hx hb dX6_within_14 (by decide) ?_
    exact xret_z hx hb hr hlocks hH (Or.inl rfl) h dX6_within_15
  · replace h := h.2 c1
    refine lv_iload_n hx hb dX6_within_5 rfl (lv_at hl 0 rfl) ?_
    refine lv_iload_n hx hb dX6_within_6 rfl (lv_at hl 2 rfl) ?_
    refine lv_icmp_gt (tgt := 14) hx hb dX6_within_7 (by decide) (fun c2 => ?_) (fun c2 => ?_)
    · replace h := h.1 c2
      refine lv_iconst (v := 0) hx hb dX6_within_14 (by decide) ?_
      exact xret_z hx hb hr hlocks hH (Or.inl rfl) h dX6_within_15
    · replace h := h.2 c2
      refine lv_iconst (v := 1) hx hb dX6_within_10 (by decide) ?_
      refine lv_goto (tgt := 15) hx hb dX6_within_11 (by decide) ?_
      exact xret_z hx hb hr hlocks hH (Or.inr rfl) h dX6_within_15
set_option maxHeartbeats 4000000 in
set_option maxRecDepth 100000 in
theorem kX0_has (l : Launch) {D : va_G} {cy : Nat → ClassId} {ad : Nat → Nat} (hI : AdI ad) (a1 : Int32) (K : Int32 → ST → Prop) (x y : ST) (h : wX0_has a1 K x) : Met l yX0_has (Cond.code yX0_has cX0_has 2 (some .boolean) :: WL) ({ frames := 1, cells := 0, slots := 0, locals := 22 } : Room) (va_Pc [.ref (ad 4), .int a1] (PW D cy ad x y)) (va_Qi (fun r z => K r z ∧ (r = 0 ∨ r = 1)) (QW D (fun z => Wd ad cy z y)) (AW ad)) 0 0 (AW ad) := by
  refine Met.ofW (cc := cX0_has) (maxL := 2) (ret := (some .boolean)) (by decide) rfl ?_
  intro p e s m args below meth c s₁ B0 hml hv
  obtain ⟨rfl, hP, hK, hN⟩ := hv
  have hr := B0.returns
  have hlocks := B0.notSynchronized
  have hts := atoms_spec (ws := (Cond.code yX0_has cX0_has 2 (some .boolean) :: WL)) B0.pre
  have B : Bd p s m ([Value.ref (ad 4), Value.int a1] : List Value).toArray c cX0_has 2 RX0 D cy := ⟨B0.exec, B0.bytes, hml, findClass_of_methodNamed B0.named, fun w hw => hts w (List.mem_cons_of_mem _ hw), hK, hN⟩
  have hx := B0.exec
  have hb := B0.bytes
  have hO : AdOk ad (AW ad) := hI.self
  have hH : Hd D (AW ad) (Wd ad cy x y) s s.heap [] := ⟨hP, va_S.rf⟩
  have hl := lv_entry ([.ref (ad 4), .int a1]) (n := 2) (Nat.le_of_ble_eq_true rfl)
  rw [lg_entry_eq]
  generalize (lg_sl ([.ref (ad 4), .int a1]) ++ List.replicate (2 - (lg_sl ([.ref (ad 4), .int a1])).length) Slot.unset).toArray = ls at hl ⊢
  have hl : lv_has ls 2 [(0, .ref (ad 4)), (1, .int a1)] := hl
  unfold wX0_has at h
  refine lv_iload_n hx hb dX0_has_0 rfl (lv_at hl 1 rfl) ?_
  refine lv_iconst (v := 0) hx hb dX0_has_1 (by decide) ?_
  refine lv_aload_n hx hb dX0_has_2 rfl (lv_at hl 0 rfl) ?_
  refine gf_10 B hH wk1_85 dX0_has_3 ?_
  refine lv_iconst (v := 1) hx hb dX0_has_6 (by decide) ?_
  refine lv_isub hx hb dX0_has_7 ?_
  refine xNi (Wf := (fun z => Wd ad cy z y)) (n := 3) (As := [.int a1, .int 0, .int (((gI x 10) - 1))]) (rest := []) B hH hO (kX6_within l hO.1 a1 0 ((gI x 10) - 1) _ x y h) B.2.2.2.2.2.2.1 wk2_37 wk1_1 wk2_38 (by decide +kernel) rfl ⟨rfl, rfl⟩ ⟨Nat.le_of_ble_eq_true rfl, Nat.le_of_ble_eq_true rfl⟩ ⟨Nat.zero_le _, Nat.zero_le _⟩ hl.1 rfl (Nat.le_of_ble_eq_true rfl) dX0_has_8 (fun r1 x1 H locs h hH => ?_)
  obtain ⟨h, hz1⟩ := h
  replace hH : Hd D (AW ad) (Wd ad cy x1 y) s H locs := hH
  exact xret_z hx hb hr hlocks hH hz1 h dX0_has_11
set_option maxHeartbeats 4000000 in
set_option maxRecDepth 100000 in
theorem kX0_sign (l : Launch) {D : va_G} {cy : Nat → ClassId} {ad : Nat → Nat} (hI : AdI ad) (a1 : Int32) (a2 : Int32) (a3 : Int32) (K : Int32 → ST → Prop) (x y : ST) (h : wX0_sign a1 a2 a3 K x) : Met l yX0_sign (Cond.code yX0_sign cX0_sign 8 (some .int) :: WL) ({ frames := 0, cells := 0, slots := 0, locals := 0 } : Room) (va_Pc [.ref (ad 4), .int a1, .int a2, .int a3] (PW D cy ad x y)) (va_Qi K (QW D (fun z => Wd ad cy z y)) (AW ad)) 0 0 (AW ad) := by
  refine Met.ofW (cc := cX0_sign) (maxL := 8) (ret := (some .int)) (by decide) rfl ?_
  intro p e s m args below meth c s₁ B0 hml hv
  obtain ⟨rfl, hP, hK, hN⟩ := hv
  have hr := B0.returns
  have hlocks := B0.notSynchronized
  have hts := atoms_spec (ws := (Cond.code yX0_sign cX0_sign 8 (some .int) :: WL)) B0.pre
  have B : Bd p s m ([Value.ref (ad 4), Value.int a1, Value.int a2, Value.int a3] : List Value).toArray c cX0_sign 8 RX0 D cy := ⟨B0.exec, B0.bytes, hml, findClass_of_methodNamed B0.named, fun w hw => hts w (List.mem_cons_of_mem _ hw), hK, hN⟩
  have hx := B0.exec
  have hb := B0.bytes
  have hO : AdOk ad (AW ad) := hI.self
  have hH : Hd D (AW ad) (Wd ad cy x y) s s.heap [] := ⟨hP, va_S.rf⟩
  have hl := lv_entry ([.ref (ad 4), .int a1, .int a2, .int a3]) (n := 8) (Nat.le_of_ble_eq_true rfl)
  rw [lg_entry_eq]
  generalize (lg_sl ([.ref (ad 4), .int a1, .int a2, .int a3]) ++ List.replicate (8 - (lg_sl ([.ref (ad 4), .int a1, .int a2, .int a3])).length) Slot.unset).toArray = ls at hl ⊢
  have hl : lv_has ls 8 [(0, .ref (ad 4)), (1, .int a1), (2, .int a2), (3, .int a3)] := hl
  unfold wX0_sign at h
  refine lv_aload_n hx hb dX0_sign_0 rfl (lv_at hl 0 rfl) ?_
  refine gr_5 B hH wk1_71 dX0_sign_1 ?_
  refine lv_iload_n hx hb dX0_sign_4 rfl (lv_at hl 3 rfl) ?_
  obtain ⟨b1, h⟩ := h
  refine aar_5 B hH b1 dX0_sign_5 ?_
  refine lv_iload_n hx hb dX0_sign_6 rfl (lv_at hl 1 rfl) ?_
  obtain ⟨b2, h⟩ := h
  refine lldR B hH (vp_in2 b1) b2 dX0_sign_7 ?_
  refine lv_topl (fun v4_3 e3 => ?_)
  replace h := h v4_3 e3
  refine lv_lstore (lv' := [(4, .long v4_3), (0, .ref (ad 4)), (1, .int a1), (2, .int a2), (3, .int a3)]) hx hb dX0_sign_8 hl (by decide) rfl (fun ls hl => ?_)
  refine lv_aload_n hx hb dX0_sign_10 rfl (lv_at hl 1 rfl) ?_
  refine gr_5 B hH wk1_71 dX0_sign_11 ?_
  refine lv_iload_n hx hb dX0_sign_14 rfl (lv_at hl 4 rfl) ?_
  refine aar_5 B hH b1 dX0_sign_15 ?_
  refine lv_iload_n hx hb dX0_sign_16 rfl (lv_at hl 3 rfl) ?_
  obtain ⟨b4, h⟩ := h
  refine lldR B hH (vp_in2 b1) b4 dX0_sign_17 ?_
  refine lv_topl (fun v6_5 e5 => ?_)
  replace h := h v6_5 e5
  refine lv_lstore (lv' := [(6, .long v6_5), (4, .long v4_3), (0, .ref (ad 4)), (1, .int a1), (2, .int a2), (3, .int a3)]) hx hb dX0_sign_18 hl (by decide) rfl (fun ls hl => ?_)
  refine lv_lload hx hb dX0_sign_20 (lv_at hl 1 rfl) ?_
  refine lv_lload hx hb dX0_sign_22 (lv_at hl 0 rfl) ?_
  refine W.lcmp hx hb dX0_sign_24 ?_
  refine lv_if_eq (tgt := 42) hx hb dX0_sign_25 (by decide) (fun c6 => ?_) (fun c6 => ?_)
  · replace h := h.1 c6
    refine lv_iload_n hx hb dX0_sign_42 rfl (lv_at hl 3 rfl) ?_
    refine lv_iload_n hx hb dX0_sign_43 rfl (lv_at hl 4 rfl) ?_
    refine lv_icmp_ge (tgt := 51) hx hb dX0_sign_44 (by decide) (fun c7 => ?_) (fun c7 => ?_)
    · replace h := h.1 c7
      refine lv_iload_n hx hb dX0_sign_51 rfl (lv_at hl 3 rfl) ?_
      refine lv_iload_n hx hb dX0_sign_52 rfl (lv_at hl 4 rfl) ?_
      refine lv_icmp_ne (tgt := 60) hx hb dX0_sign_53 (by decide) (fun c8 => ?_) (fun c8 => ?_)
      · replace h := h.1 c8
        refine lv_iconst (v := 1) hx hb dX0_sign_60 (by decide) ?_
        exact xret_i hx hb hr hlocks hH h dX0_sign_61
      · replace h := h.2 c8
        refine lv_iconst (v := 0) hx hb dX0_sign_56 (by decide) ?_
        refine lv_goto (tgt := 61) hx hb dX0_sign_57 (by decide) ?_
        exact xret_i hx hb hr hlocks hH h dX0_sign_61
    · replace h := h.2 c7
      refine lv_iconst (v := (-1)) hx hb dX0_sign_47 (by decide) ?_
      refine lv_goto (tgt := 61) hx hb dX0_sign_48 (by decide) ?_
      exact xret_i hx hb hr hlocks hH h dX0_sign_61
  · replace h := h.2 c6
    refine lv_lload hx hb dX0_sign_28 (lv_at hl 1 rfl) ?_
    refine lv_lload hx hb dX0_sign_30 (lv_at hl 0 rfl) ?_
    refine W.lcmp hx hb dX0_sign_32 ?_
    refine lv_if_ge (tgt := 40) hx hb dX0_sign_33 (by decide) (fun c9 => ?_) (fun c9 => ?_)
    · replace h := h.1 c9
      refine lv_iconst (v := 1) hx hb dX0_sign_40 (by decide) ?_
      exact xret_i hx hb hr hlocks hH h dX0_sign_41
    · replace h := h.2 c9
      refine lv_iconst (v := (-1)) hx hb dX0_sign_36 (by decide) ?_
      refine lv_goto (tgt := 41) hx hb dX0_sign_37 (by decide) ?_
      exact xret_i hx hb hr hlocks hH h dX0_sign_41
set_option maxHeartbeats 4000000 in
set_option maxRecDepth 100000 in
theorem kX0_quarrelsWithEarlier (l : Launch) {D : va_G} {cy : Nat → ClassId} {ad : Nat → Nat} (hI : AdI ad) (a1 : Int32) (K : Int32 → ST → Prop) (x y : ST) (h : wX0_quarrelsWithEarlier a1 K x) : Met l yX0_quarrelsWithEarlier (Cond.code yX0_quarrelsWithEarlier cX0_quarrelsWithEarlier 4 (some .int) :: WL) ({ frames := 1, cells := 0, slots := 0, locals := 27 } : Room) (va_Pc [.ref (ad 4), .int a1] (PW D cy ad x y)) (va_Qi K (QW D (fun z => Wd ad cy z y)) (AW ad)) 0 0 (AW ad) := by
  refine Met.ofW (cc := cX0_quarrelsWithEarlier) (maxL := 4) (ret := (some .int)) (by decide) rfl ?_
  intro p e s m args below meth c s₁ B0 hml hv
  obtain ⟨rfl, hP, hK, hN⟩ := hv
  have hr := B0.returns
  have hlocks := B0.notSynchronized
  have hts := atoms_spec (ws := (Cond.code yX0_quarrelsWithEarlier cX0_quarrelsWithEarlier 4 (some .int) :: WL)) B0.pre
  have B : Bd p s m ([Value.ref (ad 4), Value.int a1] : List Value).toArray c cX0_quarrelsWithEarlier 4 RX0 D cy := ⟨B0.exec, B0.bytes, hml, findClass_of_methodNamed B0.named, fun w hw => hts w (List.mem_cons_of_mem _ hw), hK, hN⟩
  have hx := B0.exec
  have hb := B0.bytes
  have hO : AdOk ad (AW ad) := hI.self
  have hH : Hd D (AW ad) (Wd ad cy x y) s s.heap [] := ⟨hP, va_S.rf⟩
  have hl := lv_entry ([.ref (ad 4), .int a1]) (n := 4) (Nat.le_of_ble_eq_true rfl)
  rw [lg_entry_eq]
  generalize (lg_sl ([.ref (ad 4), .int a1]) ++ List.replicate (4 - (lg_sl ([.ref (ad 4), .int a1])).length) Slot.unset).toArray = ls at hl ⊢
  have hl : lv_has ls 4 [(0, .ref (ad 4)), (1, .int a1)] := hl
  unfold wX0_quarrelsWithEarlier at h
  refine lv_iconst (v := 0) hx hb dX0_quarrelsWithEarlier_0 (by decide) ?_
  refine lv_istore_n (lv' := [(2, .int 0), (0, .ref (ad 4)), (1, .int a1)]) hx hb dX0_quarrelsWithEarlier_1 rfl hl (by decide) rfl (fun ls hl => ?_)
  refine lv_iconst (v := 0) hx hb dX0_quarrelsWithEarlier_2 (by decide) ?_
  refine lv_istore_n (lv' := [(3, .int 0), (2, .int 0), (0, .ref (ad 4)), (1, .int a1)]) hx hb dX0_quarrelsWithEarlier_3 rfl hl (by decide) rfl (fun ls hl => ?_)
  obtain ⟨n_4, h⟩ := h
  have loop_4 : ∀ (n_4 : Nat) (v2_4 : Int32) (v3_4 : Int32) (x_4 : ST) (H : Heap) (locs : List Loc) (ls : Array Slot), Hd D (AW ad) (Wd ad cy x_4 y) s H locs → lv_has ls 4 [(0, .ref (ad 4)), (1, .int a1), (2, .int v2_4), (3, .int v3_4)] → it (fun (_ : Int32) (_ : Int32) (_ : ST) => False) (FX0_quarrelsWithEarlier_4 a1 K) n_4 v2_4 v3_4 x_4 → W p l e (headSpec (Cond.code yX0_quarrelsWithEarlier cX0_quarrelsWithEarlier 4 (some .int) :: WL) ({ frames := 1, cells := 0, slots := 0, locals := 27 } : Room)).room s m ([Value.ref (ad 4), Value.int a1] : List Value).toArray below meth c H locs 0 0 (MQ below (va_Qi K (QW D (fun z => Wd ad cy z y)) (AW ad)) ([Value.ref (ad 4), Value.int a1] : List Value).toArray s 0 0 (AW ad)) (F0 m 4 ls []) := by
    intro n_4
    induction n_4 with
    | zero => intro v2_4 v3_4 x_4 H locs ls hH hl h; exact False.elim h
    | succ n_4 ih4 =>
      intro v2_4 v3_4 x_4 H locs ls hH hl h
      refine lv_iload_n hx hb dX0_quarrelsWithEarlier_4 rfl (lv_at hl 3 rfl) ?_
      refine lv_iload_n hx hb dX0_quarrelsWithEarlier_5 rfl (lv_at hl 1 rfl) ?_
      refine lv_icmp_ge (tgt := 35) hx hb dX0_quarrelsWithEarlier_6 (by decide) (fun c4_1 => ?_) (fun c4_1 => ?_)
      · replace h := h.1 c4_1
        refine lv_iload_n hx hb dX0_quarrelsWithEarlier_35 rfl (lv_at hl 2 rfl) ?_
        exact xret_i hx hb hr hlocks hH h dX0_quarrelsWithEarlier_36
      · replace h := h.2 c4_1
        refine lv_aload_n hx hb dX0_quarrelsWithEarlier_9 rfl (lv_at hl 0 rfl) ?_
        refine lv_iload_n hx hb dX0_quarrelsWithEarlier_10 rfl (lv_at hl 3 rfl) ?_
        refine lv_iload_n hx hb dX0_quarrelsWithEarlier_11 rfl (lv_at hl 1 rfl) ?_
        refine lv_iconst (v := 0) hx hb dX0_quarrelsWithEarlier_12 (by decide) ?_
        refine xVi (Wf := (fun z => Wd ad cy z y)) (n := 3) (P := 4) (ci := 0) (As := [.int v3_4, .int a1, .int 0]) (rest := []) B hH hO (kX0_sign l hO.1 v3_4 a1 0 _ x_4 y h) rfl rfl wk2_96 wk2_97 wk2_98 wk1_4 wk2_99 (by decide +kernel) rfl ⟨rfl, rfl⟩ ⟨Nat.le_of_ble_eq_true rfl, Nat.le_of_ble_eq_true rfl⟩ ⟨Nat.zero_le _, Nat.zero_le _⟩ hl.1 rfl (Nat.le_of_ble_eq_true rfl) dX0_quarrelsWithEarlier_13 (fun r4_2 x4_2 H locs h hH => ?_)
        replace hH : Hd D (AW ad) (Wd ad cy x4_2 y) s H locs := hH
        refine lv_aload_n hx hb dX0_quarrelsWithEarlier_16 rfl (lv_at hl 0 rfl) ?_
        refine lv_iload_n hx hb dX0_quarrelsWithEarlier_17 rfl (lv_at hl 3 rfl) ?_
        refine lv_iload_n hx hb dX0_quarrelsWithEarlier_18 rfl (lv_at hl 1 rfl) ?_
        refine lv_iconst (v := 1) hx hb dX0_quarrelsWithEarlier_19 (by decide) ?_
        refine xVi (Wf := (fun z => Wd ad cy z y)) (n := 3) (P := 4) (ci := 0) (As := [.int v3_4, .int a1, .int 1]) (rest := [.int r4_2]) B hH hO (kX0_sign l hO.1 v3_4 a1 1 _ x4_2 y h) rfl rfl wk2_96 wk2_97 wk2_98 wk1_4 wk2_99 (by decide +kernel) rfl ⟨rfl, rfl⟩ ⟨Nat.le_of_ble_eq_true rfl, Nat.le_of_ble_eq_true rfl⟩ ⟨Nat.zero_le _, Nat.zero_le _⟩ hl.1 rfl (Nat.le_of_ble_eq_true rfl) dX0_quarrelsWithEarlier_20 (fun r4_3 x4_3 H locs h hH => ?_)
        replace hH : Hd D (AW ad) (Wd ad cy x4_3 y) s H locs := hH
        refine lv_icmp_eq (tgt := 29) hx hb dX0_quarrelsWithEarlier_23 (by decide) (fun c4_4 => ?_) (fun c4_4 => ?_)
        · replace h := h.1 c4_4
          obtain ⟨v3_4_5, e4_5⟩ : ∃ z : Int32, z = v3_4 + 1 := ⟨_, rfl⟩
          replace h := h v3_4_5 e4_5
          refine lv_iinc (v := v3_4_5) (lv' := [(3, .int v3_4_5), (0, .ref (ad 4)), (1, .int a1), (2, .int v2_4)]) hx hb dX0_quarrelsWithEarlier_29 hl (k := 3) rfl (by rw [e4_5]; first | rfl | done) (by decide) rfl (fun ls hl => ?_)
          refine lv_goto (tgt := 4) hx hb dX0_quarrelsWithEarlier_32 (by decide) ?_
          exact ih4 v2_4 v3_4_5 x4_3 _ _ _ hH (lv_sub hl [1, 2, 3, 0] rfl) h
        · replace h := h.2 c4_4
          obtain ⟨v2_4_6, e4_6⟩ : ∃ z : Int32, z = v2_4 + 1 := ⟨_, rfl⟩
          replace h := h v2_4_6 e4_6
          refine lv_iinc (v := v2_4_6) (lv' := [(2, .int v2_4_6), (0, .ref (ad 4)), (1, .int a1), (3, .int v3_4)]) hx hb dX0_quarrelsWithEarlier_26 hl (k := 2) rfl (by rw [e4_6]; first | rfl | done) (by decide) rfl (fun ls hl => ?_)
          obtain ⟨v3_4_7, e4_7⟩ : ∃ z : Int32, z = v3_4 + 1 := ⟨_, rfl⟩
          replace h := h v3_4_7 e4_7
          refine lv_iinc (v := v3_4_7) (lv' := [(3, .int v3_4_7), (2, .int v2_4_6), (0, .ref (ad 4)), (1, .int a1)]) hx hb dX0_quarrelsWithEarlier_29 hl (k := 3) rfl (by rw [e4_7]; first | rfl | done) (by decide) rfl (fun ls hl => ?_)
          refine lv_goto (tgt := 4) hx hb dX0_quarrelsWithEarlier_32 (by decide) ?_
          exact ih4 v2_4_6 v3_4_7 x4_3 _ _ _ hH (lv_sub hl [2, 3, 1, 0] rfl) h
  exact loop_4 n_4 0 0 x _ _ _ hH (lv_sub hl [2, 3, 1, 0] rfl) h
set_option maxHeartbeats 4000000 in
set_option maxRecDepth 100000 in
theorem kX2_keyBy (l : Launch) {D : va_G} {cy : Nat → ClassId} {ad : Nat → Nat} (hI : AdI ad) (a1 : Int32) (K : Int64 → ST → Prop) (x y : ST) (h : wX2_keyBy a1 K x) : Met l yX2_keyBy (Cond.code yX2_keyBy cX2_keyBy 3 (some .long) :: WL) ({ frames := 0, cells := 0, slots := 0, locals := 0 } : Room) (va_Pc [.ref (ad 3), .int a1] (PW D cy ad x y)) (va_Ql K (QW D (fun z => Wd ad cy z y)) (AW ad)) 0 0 (AW ad) := by
  refine Met.ofW (cc := cX2_keyBy) (maxL := 3) (ret := (some .long)) (by decide) rfl ?_
  intro p e s m args below meth c s₁ B0 hml hv
  obtain ⟨rfl, hP, hK, hN⟩ := hv
  have hr := B0.returns
  have hlocks := B0.notSynchronized
  have hts := atoms_spec (ws := (Cond.code yX2_keyBy cX2_keyBy 3 (some .long) :: WL)) B0.pre
  have B : Bd p s m ([Value.ref (ad 3), Value.int a1] : List Value).toArray c cX2_keyBy 3 RX2 D cy := ⟨B0.exec, B0.bytes, hml, findClass_of_methodNamed B0.named, fun w hw => hts w (List.mem_cons_of_mem _ hw), hK, hN⟩
  have hx := B0.exec
  have hb := B0.bytes
  have hO : AdOk ad (AW ad) := hI.self
  have hH : Hd D (AW ad) (Wd ad cy x y) s s.heap [] := ⟨hP, va_S.rf⟩
  have hl := lv_entry ([.ref (ad 3), .int a1]) (n := 3) (Nat.le_of_ble_eq_true rfl)
  rw [lg_entry_eq]
  generalize (lg_sl ([.ref (ad 3), .int a1]) ++ List.replicate (3 - (lg_sl ([.ref (ad 3), .int a1])).length) Slot.unset).toArray = ls at hl ⊢
  have hl : lv_has ls 3 [(0, .ref (ad 3)), (1, .int a1)] := hl
  unfold wX2_keyBy at h
  refine lv_iload_n hx hb dX2_keyBy_0 rfl (lv_at hl 1 rfl) ?_
  refine lv_if_ne (tgt := 11) hx hb dX2_keyBy_1 (by decide) (fun c1 => ?_) (fun c1 => ?_)
  · replace h := h.1 c1
    refine lv_aload_n hx hb dX2_keyBy_11 rfl (lv_at hl 0 rfl) ?_
    refine gf_6 B hH wk1_44 dX2_keyBy_12 ?_
    refine lv_iconst (v := 5) hx hb dX2_keyBy_15 (by decide) ?_
    refine lv_imul hx hb dX2_keyBy_16 ?_
    refine lv_aload_n hx hb dX2_keyBy_17 rfl (lv_at hl 0 rfl) ?_
    refine gf_7 B hH wk1_45 dX2_keyBy_18 ?_
    refine lv_iadd hx hb dX2_keyBy_21 ?_
    refine lv_topi (fun v2_2 e2 => ?_)
    replace h := h v2_2 e2
    refine lv_istore_n (lv' := [(2, .int v2_2), (0, .ref (ad 3)), (1, .int a1)]) hx hb dX2_keyBy_22 rfl hl (by decide) rfl (fun ls hl => ?_)
    refine lv_aload_n hx hb dX2_keyBy_23 rfl (lv_at hl 1 rfl) ?_
    refine gf_5 B hH wk1_42 dX2_keyBy_24 ?_
    refine lv_i2l hx hb dX2_keyBy_27 rfl ?_
    refine lv_ldc2 hx hb B.2.2.2.1 (B.2.2.2.2.1 _ wk2_90) dX2_keyBy_28 ?_
    refine lv_lmul hx hb dX2_keyBy_31 ?_
    refine lv_iload_n hx hb dX2_keyBy_32 rfl (lv_at hl 0 rfl) ?_
    refine lv_i2l hx hb dX2_keyBy_33 rfl ?_
    refine lv_ladd hx hb dX2_keyBy_34 ?_
    refine lv_ldc2 hx hb B.2.2.2.1 (B.2.2.2.2.1 _ wk2_91) dX2_keyBy_35 ?_
    refine lv_lmul hx hb dX2_keyBy_38 ?_
    refine lv_aload_n hx hb dX2_keyBy_39 rfl (lv_at hl 1 rfl) ?_
    refine gf_9 B hH wk1_47 dX2_keyBy_40 ?_
    refine lv_i2l hx hb dX2_keyBy_43 rfl ?_
    refine lv_ladd hx hb dX2_keyBy_44 ?_
    exact xret_l hx hb hr hlocks hH h dX2_keyBy_45
  · replace h := h.2 c1
    refine lv_aload_n hx hb dX2_keyBy_4 rfl (lv_at hl 0 rfl) ?_
    refine gf_8 B hH wk1_46 dX2_keyBy_5 ?_
    refine lv_goto (tgt := 22) hx hb dX2_keyBy_8 (by decide) ?_
    refine lv_topi (fun v2_3 e3 => ?_)
    replace h := h v2_3 e3
    refine lv_istore_n (lv' := [(2, .int v2_3), (0, .ref (ad 3)), (1, .int a1)]) hx hb dX2_keyBy_22 rfl hl (by decide) rfl (fun ls hl => ?_)
    refine lv_aload_n hx hb dX2_keyBy_23 rfl (lv_at hl 1 rfl) ?_
    refine gf_5 B hH wk1_42 dX2_keyBy_24 ?_
    refine lv_i2l hx hb dX2_keyBy_27 rfl ?_
    refine lv_ldc2 hx hb B.2.2.2.1 (B.2.2.2.2.1 _ wk2_90) dX2_keyBy_28 ?_
    refine lv_lmul hx hb dX2_keyBy_31 ?_
    refine lv_iload_n hx hb dX2_keyBy_32 rfl (lv_at hl 0 rfl) ?_
    refine lv_i2l hx hb dX2_keyBy_33 rfl ?_
    refine lv_ladd hx hb dX2_keyBy_34 ?_
    refine lv_ldc2 hx hb B.2.2.2.1 (B.2.2.2.2.1 _ wk2_91) dX2_keyBy_35 ?_
    refine lv_lmul hx hb dX2_keyBy_38 ?_
    refine lv_aload_n hx hb dX2_keyBy_39 rfl (lv_at hl 1 rfl) ?_
    refine gf_9 B hH wk1_47 dX2_keyBy_40 ?_
    refine lv_i2l hx hb dX2_keyBy_43 rfl ?_
    refine lv_ladd hx hb dX2_keyBy_44 ?_
    exact xret_l hx hb hr hlocks hH h dX2_keyBy_45
set_option maxHeartbeats 4000000 in
set_option maxRecDepth 100000 in
theorem kX0_putInOrder (l : Launch) {D : va_G} {cy : Nat → ClassId} {ad : Nat → Nat} (hI : AdI ad) (a1 : Int32) (a2 : Int32) (K : ST → Prop) (x y : ST) (h : wX0_putInOrder a1 a2 K x) : Met l yX0_putInOrder (Cond.code yX0_putInOrder cX0_putInOrder 4 none :: WL) ({ frames := 1, cells := 0, slots := 0, locals := 27 } : Room) (va_Pc [.ref (ad 4), .int a1, .int a2] (PW D cy ad x y)) (va_Qv K (QW D (fun z => Wd ad cy z y)) (AW ad)) 0 0 (AW ad) := by
  refine Met.ofW (cc := cX0_putInOrder) (maxL := 4) (ret := none) (by decide) rfl ?_
  intro p e s m args below meth c s₁ B0 hml hv
  obtain ⟨rfl, hP, hK, hN⟩ := hv
  have hr := B0.returns
  have hlocks := B0.notSynchronized
  have hts := atoms_spec (ws := (Cond.code yX0_putInOrder cX0_putInOrder 4 none :: WL)) B0.pre
  have B : Bd p s m ([Value.ref (ad 4), Value.int a1, Value.int a2] : List Value).toArray c cX0_putInOrder 4 RX0 D cy := ⟨B0.exec, B0.bytes, hml, findClass_of_methodNamed B0.named, fun w hw => hts w (List.mem_cons_of_mem _ hw), hK, hN⟩
  have hx := B0.exec
  have hb := B0.bytes
  have hO : AdOk ad (AW ad) := hI.self
  have hH : Hd D (AW ad) (Wd ad cy x y) s s.heap [] := ⟨hP, va_S.rf⟩
  have hl := lv_entry ([.ref (ad 4), .int a1, .int a2]) (n := 4) (Nat.le_of_ble_eq_true rfl)
  rw [lg_entry_eq]
  generalize (lg_sl ([.ref (ad 4), .int a1, .int a2]) ++ List.replicate (4 - (lg_sl ([.ref (ad 4), .int a1, .int a2])).length) Slot.unset).toArray = ls at hl ⊢
  have hl : lv_has ls 4 [(0, .ref (ad 4)), (1, .int a1), (2, .int a2)] := hl
  unfold wX0_putInOrder at h
  refine lv_iload_n hx hb dX0_putInOrder_0 rfl (lv_at hl 1 rfl) ?_
  refine lv_istore_n (lv' := [(3, .int a1), (0, .ref (ad 4)), (1, .int a1), (2, .int a2)]) hx hb dX0_putInOrder_1 rfl hl (by decide) rfl (fun ls hl => ?_)
  obtain ⟨n_2, h⟩ := h
  have loop_2 : ∀ (n_2 : Nat) (v3_2 : Int32) (x_2 : ST) (H : Heap) (locs : List Loc) (ls : Array Slot), Hd D (AW ad) (Wd ad cy x_2 y) s H locs → lv_has ls 4 [(0, .ref (ad 4)), (1, .int a1), (2, .int a2), (3, .int v3_2)] → it (fun (_ : Int32) (_ : ST) => False) (FX0_putInOrder_2 a1 a2 K) n_2 v3_2 x_2 → W p l e (headSpec (Cond.code yX0_putInOrder cX0_putInOrder 4 none :: WL) ({ frames := 1, cells := 0, slots := 0, locals := 27 } : Room)).room s m ([Value.ref (ad 4), Value.int a1, Value.int a2] : List Value).toArray below meth c H locs 0 0 (MQ below (va_Qv K (QW D (fun z => Wd ad cy z y)) (AW ad)) ([Value.ref (ad 4), Value.int a1, Value.int a2] : List Value).toArray s 0 0 (AW ad)) (F0 m 2 ls []) := by
    intro n_2
    induction n_2 with
    | zero => intro v3_2 x_2 H locs ls hH hl h; exact False.elim h
    | succ n_2 ih2 =>
      intro v3_2 x_2 H locs ls hH hl h
      refine lv_iload_n hx hb dX0_putInOrder_2 rfl (lv_at hl 3 rfl) ?_
      refine lv_if_le (tgt := 49) hx hb dX0_putInOrder_3 (by decide) (fun c2_1 => ?_) (fun c2_1 => ?_)
      · replace h := h.1 c2_1
        refine lv_aload_n hx hb dX0_putInOrder_49 rfl (lv_at hl 0 rfl) ?_
        refine gr_8 B hH wk1_72 dX0_putInOrder_50 ?_
        refine lv_iload_n hx hb dX0_putInOrder_53 rfl (lv_at hl 2 rfl) ?_
        obtain ⟨b2_2, h⟩ := h
        refine aar_8 B hH b2_2 dX0_putInOrder_54 ?_
        refine lv_iload_n hx hb dX0_putInOrder_55 rfl (lv_at hl 3 rfl) ?_
        refine lv_iload_n hx hb dX0_putInOrder_56 rfl (lv_at hl 1 rfl) ?_
        obtain ⟨b2_3, h⟩ := h
        refine astR B hH hO (vp_in2 b2_2) b2_3 dX0_putInOrder_57 (fun x2_4 e2_4 H locs hH => ?_)
        replace h := h x2_4 e2_4
        exact xret_v hx hb hr hlocks hH h dX0_putInOrder_58
      · replace h := h.2 c2_1
        refine lv_aload_n hx hb dX0_putInOrder_6 rfl (lv_at hl 0 rfl) ?_
        refine lv_iload_n hx hb dX0_putInOrder_7 rfl (lv_at hl 1 rfl) ?_
        refine lv_aload_n hx hb dX0_putInOrder_8 rfl (lv_at hl 0 rfl) ?_
        refine gr_8 B hH wk1_72 dX0_putInOrder_9 ?_
        refine lv_iload_n hx hb dX0_putInOrder_12 rfl (lv_at hl 2 rfl) ?_
        obtain ⟨b2_5, h⟩ := h
        refine aar_8 B hH b2_5 dX0_putInOrder_13 ?_
        refine lv_iload_n hx hb dX0_putInOrder_14 rfl (lv_at hl 3 rfl) ?_
        refine lv_iconst (v := 1) hx hb dX0_putInOrder_15 (by decide) ?_
        refine lv_isub hx hb dX0_putInOrder_16 ?_
        obtain ⟨b2_6, h⟩ := h
        refine aldR B hH (vp_in2 b2_5) b2_6 dX0_putInOrder_17 ?_
        refine lv_iload_n hx hb dX0_putInOrder_18 rfl (lv_at hl 2 rfl) ?_
        refine xVi (Wf := (fun z => Wd ad cy z y)) (n := 3) (P := 4) (ci := 0) (As := [.int a1, .int (gA x_2 (9 + a2.toNatClampNeg) (v3_2 - 1)), .int a2]) (rest := []) B hH hO (kX0_sign l hO.1 a1 (gA x_2 (9 + a2.toNatClampNeg) (v3_2 - 1)) a2 _ x_2 y h) rfl rfl wk2_96 wk2_97 wk2_98 wk1_4 wk2_99 (by decide +kernel) rfl ⟨rfl, rfl⟩ ⟨Nat.le_of_ble_eq_true rfl, Nat.le_of_ble_eq_true rfl⟩ ⟨Nat.zero_le _, Nat.zero_le _⟩ hl.1 rfl (Nat.le_of_ble_eq_true rfl) dX0_putInOrder_19 (fun r2_7 x2_7 H locs h hH => ?_)
        replace hH : Hd D (AW ad) (Wd ad cy x2_7 y) s H locs := hH
        refine lv_if_ge (tgt := 49) hx hb dX0_putInOrder_22 (by decide) (fun c2_8 => ?_) (fun c2_8 => ?_)
        · replace h := h.1 c2_8
          refine lv_aload_n hx hb dX0_putInOrder_49 rfl (lv_at hl 0 rfl) ?_
          refine gr_8 B hH wk1_72 dX0_putInOrder_50 ?_
          refine lv_iload_n hx hb dX0_putInOrder_53 rfl (lv_at hl 2 rfl) ?_
          refine aar_8 B hH b2_5 dX0_putInOrder_54 ?_
          refine lv_iload_n hx hb dX0_putInOrder_55 rfl (lv_at hl 3 rfl) ?_
          refine lv_iload_n hx hb dX0_putInOrder_56 rfl (lv_at hl 1 rfl) ?_
          obtain ⟨b2_9, h⟩ := h
          refine astR B hH hO (vp_in2 b2_5) b2_9 dX0_putInOrder_57 (fun x2_10 e2_10 H locs hH => ?_)
          replace h := h x2_10 e2_10
          exact xret_v hx hb hr hlocks hH h dX0_putInOrder_58
        · replace h := h.2 c2_8
          refine lv_aload_n hx hb dX0_putInOrder_25 rfl (lv_at hl 0 rfl) ?_
          refine gr_8 B hH wk1_72 dX0_putInOrder_26 ?_
          refine lv_iload_n hx hb dX0_putInOrder_29 rfl (lv_at hl 2 rfl) ?_
          refine aar_8 B hH b2_5 dX0_putInOrder_30 ?_
          refine lv_iload_n hx hb dX0_putInOrder_31 rfl (lv_at hl 3 rfl) ?_
          refine lv_aload_n hx hb dX0_putInOrder_32 rfl (lv_at hl 0 rfl) ?_
          refine gr_8 B hH wk1_72 dX0_putInOrder_33 ?_
          refine lv_iload_n hx hb dX0_putInOrder_36 rfl (lv_at hl 2 rfl) ?_
          refine aar_8 B hH b2_5 dX0_putInOrder_37 ?_
          refine lv_iload_n hx hb dX0_putInOrder_38 rfl (lv_at hl 3 rfl) ?_
          refine lv_iconst (v := 1) hx hb dX0_putInOrder_39 (by decide) ?_
          refine lv_isub hx hb dX0_putInOrder_40 ?_
          refine aldR B hH (vp_in2 b2_5) b2_6 dX0_putInOrder_41 ?_
          obtain ⟨b2_11, h⟩ := h
          refine astR B hH hO (vp_in2 b2_5) b2_11 dX0_putInOrder_42 (fun x2_12 e2_12 H locs hH => ?_)
          replace h := h x2_12 e2_12
          obtain ⟨v3_2_13, e2_13⟩ : ∃ z : Int32, z = v3_2 + (-1) := ⟨_, rfl⟩
          replace h := h v3_2_13 e2_13
          refine lv_iinc (v := v3_2_13) (lv' := [(3, .int v3_2_13), (0, .ref (ad 4)), (1, .int a1), (2, .int a2)]) hx hb dX0_putInOrder_43 hl (k := 3) rfl (by rw [e2_13]; first | rfl | done) (by decide) rfl (fun ls hl => ?_)
          refine lv_goto (tgt := 2) hx hb dX0_putInOrder_46 (by decide) ?_
          exact ih2 v3_2_13 x2_12 _ _ _ hH (lv_sub hl [1, 2, 3, 0] rfl) h
  exact loop_2 n_2 a1 x _ _ _ hH (lv_sub hl [1, 2, 3, 0] rfl) h
set_option maxHeartbeats 4000000 in
set_option maxRecDepth 100000 in
theorem kX0_add (l : Launch) {D : va_G} {cy : Nat → ClassId} {ad : Nat → Nat} (hI : AdI ad) (a2 : Int32) (a3 : Int32) (a4 : Int32) (K : Int32 → ST → Prop) (x y : ST) (h : wX0_add a2 a3 a4 K x) : Met l yX0_add (Cond.code yX0_add cX0_add 7 (some .int) :: WL) ({ frames := 2, cells := 0, slots := 0, locals := 50 } : Room) (va_Pc [.ref (ad 4), .ref (ad 3), .int a2, .int a3, .int a4] (PW D cy ad x y)) (va_Qi K (QW D (fun z => Wd ad cy z y)) (AW ad)) 0 0 (AW ad) := by
  refine Met.ofW (cc := cX0_add) (maxL := 7) (ret := (some .int)) (by decide) rfl ?_
  intro p e s m args below meth c s₁ B0 hml hv
  obtain ⟨rfl, hP, hK, hN⟩ := hv
  have hr := B0.returns
  have hlocks := B0.notSynchronized
  have hts := atoms_spec (ws := (Cond.code yX0_add cX0_add 7 (some .int) :: WL)) B0.pre
  have B : Bd p s m ([Value.ref (ad 4), Value.ref (ad 3), Value.int a2, Value.int a3, Value.int a4] : List Value).toArray c cX0_add 7 RX0 D cy := ⟨B0.exec, B0.bytes, hml, findClass_of_methodNamed B0.named, fun w hw => hts w (List.mem_cons_of_mem _ hw), hK, hN⟩
  have hx := B0.exec
  have hb := B0.bytes
  have hO : AdOk ad (AW ad) := hI.self
  have hH : Hd D (AW ad) (Wd ad cy x y) s s.heap [] := ⟨hP, va_S.rf⟩
  have hl := lv_entry ([.ref (ad 4), .ref (ad 3), .int a2, .int a3, .int a4]) (n := 7) (Nat.le_of_ble_eq_true rfl)
  rw [lg_entry_eq]
  generalize (lg_sl ([.ref (ad 4), .ref (ad 3), .int a2, .int a3, .int a4]) ++ List.replicate (7 - (lg_sl ([.ref (ad 4), .ref (ad 3), .int a2, .int a3, .int a4])).length) Slot.unset).toArray = ls at hl ⊢
  have hl : lv_has ls 7 [(0, .ref (ad 4)), (1, .ref (ad 3)), (2, .int a2), (3, .int a3), (4, .int a4)] := hl
  unfold wX0_add at h
  refine lv_aload_n hx hb dX0_add_0 rfl (lv_at hl 0 rfl) ?_
  refine gf_10 B hH wk1_85 dX0_add_1 ?_
  refine lv_bipush (v := 60) hx hb dX0_add_4 (by decide) ?_
  refine lv_icmp_lt (tgt := 11) hx hb dX0_add_6 (by decide) (fun c1 => ?_) (fun c1 => ?_)
  · replace h := h.1 c1
    refine lv_aload_n hx hb dX0_add_11 rfl (lv_at hl 0 rfl) ?_
    refine gf_10 B hH wk1_85 dX0_add_12 ?_
    refine lv_topi (fun v5_2 e2 => ?_)
    replace h := h v5_2 e2
    refine lv_istore (lv' := [(5, .int v5_2), (0, .ref (ad 4)), (1, .ref (ad 3)), (2, .int a2), (3, .int a3), (4, .int a4)]) hx hb dX0_add_15 hl (by decide) rfl (fun ls hl => ?_)
    refine lv_aload_n hx hb dX0_add_17 rfl (lv_at hl 1 rfl) ?_
    refine gr_11 B hH wk1_76 dX0_add_18 ?_
    refine lv_iload hx hb dX0_add_21 (lv_at hl 0 rfl) ?_
    refine lv_iload_n hx hb dX0_add_23 rfl (lv_at hl 3 rfl) ?_
    obtain ⟨b3, h⟩ := h
    refine ast_11 B hH hO b3 dX0_add_24 (fun x4 e4 H locs hH => ?_)
    replace h := h x4 e4
    refine lv_aload_n hx hb dX0_add_25 rfl (lv_at hl 1 rfl) ?_
    refine gr_12 B hH wk1_78 dX0_add_26 ?_
    refine lv_iload hx hb dX0_add_29 (lv_at hl 0 rfl) ?_
    refine lv_iload_n hx hb dX0_add_31 rfl (lv_at hl 4 rfl) ?_
    refine ast_12 B hH hO b3 dX0_add_32 (fun x5 e5 H locs hH => ?_)
    replace h := h x5 e5
    refine lv_aload_n hx hb dX0_add_33 rfl (lv_at hl 1 rfl) ?_
    refine gr_13 B hH wk1_81 dX0_add_34 ?_
    refine lv_iload hx hb dX0_add_37 (lv_at hl 0 rfl) ?_
    refine lv_iload hx hb dX0_add_39 (lv_at hl 5 rfl) ?_
    refine ast_13 B hH hO b3 dX0_add_41 (fun x6 e6 H locs hH => ?_)
    replace h := h x6 e6
    refine lv_aload_n hx hb dX0_add_42 rfl (lv_at hl 1 rfl) ?_
    refine gr_14 B hH wk1_83 dX0_add_43 ?_
    refine lv_iload hx hb dX0_add_46 (lv_at hl 0 rfl) ?_
    refine lv_aload_n hx hb dX0_add_48 rfl (lv_at hl 2 rfl) ?_
    refine gf_5 B hH wk1_43 dX0_add_49 ?_
    refine lv_sipush (v := 1000) hx hb dX0_add_52 (by decide) ?_
    refine lv_idiv hx hb dX0_add_55 (by decide) ?_
    refine ast_14 B hH hO b3 dX0_add_56 (fun x7 e7 H locs hH => ?_)
    replace h := h x7 e7
    refine lv_iconst (v := 0) hx hb dX0_add_57 (by decide) ?_
    refine lv_istore (lv' := [(6, .int 0), (5, .int v5_2), (0, .ref (ad 4)), (1, .ref (ad 3)), (2, .int a2), (3, .int a3), (4, .int a4)]) hx hb dX0_add_58 hl (by decide) rfl (fun ls hl => ?_)
    obtain ⟨n_60, h⟩ := h
    have loop_60 : ∀ (f5_60 : Int32) (n_60 : Nat) (v6_60 : Int32) (x_60 : ST) (H : Heap) (locs : List Loc) (ls : Array Slot), Hd D (AW ad) (Wd ad cy x_60 y) s H locs → lv_has ls 7 [(0, .ref (ad 4)), (1, .ref (ad 3)), (5, .int f5_60), (6, .int v6_60)] → it (fun (_ : Int32) (_ : ST) => False) (FX0_add_60 K f5_60) n_60 v6_60 x_60 → W p l e (headSpec (Cond.code yX0_add cX0_add 7 (some .int) :: WL) ({ frames := 2, cells := 0, slots := 0, locals := 50 } : Room)).room s m ([Value.ref (ad 4), Value.ref (ad 3), Value.int a2, Value.int a3, Value.int a4] : List Value).toArray below meth c H locs 0 0 (MQ below (va_Qi K (QW D (fun z => Wd ad cy z y)) (AW ad)) ([Value.ref (ad 4), Value.ref (ad 3), Value.int a2, Value.int a3, Value.int a4] : List Value).toArray s 0 0 (AW ad)) (F0 m 60 ls []) := by
      intro f5_60 n_60
      induction n_60 with
      | zero => intro v6_60 x_60 H locs ls hH hl h; exact False.elim h
      | succ n_60 ih60 =>
        intro v6_60 x_60 H locs ls hH hl h
        refine lv_iload hx hb dX0_add_60 (lv_at hl 3 rfl) ?_
        refine lv_iconst (v := 2) hx hb dX0_add_62 (by decide) ?_
        refine lv_icmp_ge (tgt := 96) hx hb dX0_add_63 (by decide) (fun c60_1 => ?_) (fun c60_1 => ?_)
        · replace h := h.1 c60_1
          refine lv_aload_n hx hb dX0_add_96 rfl (lv_at hl 0 rfl) ?_
          refine lv_dup hx hb dX0_add_97 rfl ?_
          refine gf_11 B hH wk1_89 dX0_add_98 ?_
          refine lv_aload_n hx hb dX0_add_101 rfl (lv_at hl 0 rfl) ?_
          refine lv_iload hx hb dX0_add_102 (lv_at hl 2 rfl) ?_
          refine xVi (Wf := (fun z => Wd ad cy z y)) (n := 1) (P := 4) (ci := 0) (As := [.int f5_60]) (rest := [.int (gI x_60 11), .ref (ad 4)]) B hH hO (kX0_quarrelsWithEarlier l hO.1 f5_60 _ x_60 y h) rfl rfl wk2_100 wk2_102 wkp_4 wk1_4 wk2_103 (by decide +kernel) rfl ⟨rfl, rfl⟩ ⟨Nat.le_of_ble_eq_true rfl, Nat.le_of_ble_eq_true rfl⟩ ⟨Nat.zero_le _, Nat.zero_le _⟩ hl.1 rfl (Nat.le_of_ble_eq_true rfl) dX0_add_104 (fun r60_2 x60_2 H locs h hH => ?_)
          replace hH : Hd D (AW ad) (Wd ad cy x60_2 y) s H locs := hH
          refine lv_iadd hx hb dX0_add_107 ?_
          refine pf_11 B hH hO wk1_89 dX0_add_108 (fun x60_3 e60_3 H locs hH => ?_)
          replace h := h x60_3 e60_3
          refine lv_aload_n hx hb dX0_add_111 rfl (lv_at hl 0 rfl) ?_
          refine lv_dup hx hb dX0_add_112 rfl ?_
          refine gf_10 B hH wk1_85 dX0_add_113 ?_
          refine lv_iconst (v := 1) hx hb dX0_add_116 (by decide) ?_
          refine lv_iadd hx hb dX0_add_117 ?_
          refine pf_10 B hH hO wk1_85 dX0_add_118 (fun x60_4 e60_4 H locs hH => ?_)
          replace h := h x60_4 e60_4
          refine lv_iload hx hb dX0_add_121 (lv_at hl 2 rfl) ?_
          exact xret_i hx hb hr hlocks hH h dX0_add_123
        · replace h := h.2 c60_1
          refine lv_aload_n hx hb dX0_add_66 rfl (lv_at hl 0 rfl) ?_
          refine gr_5 B hH wk1_71 dX0_add_67 ?_
          refine lv_iload hx hb dX0_add_70 (lv_at hl 3 rfl) ?_
          obtain ⟨b60_5, h⟩ := h
          refine aar_5 B hH b60_5 dX0_add_72 ?_
          refine lv_iload hx hb dX0_add_73 (lv_at hl 2 rfl) ?_
          refine lv_aload_n hx hb dX0_add_75 rfl (lv_at hl 1 rfl) ?_
          refine lv_iload hx hb dX0_add_76 (lv_at hl 3 rfl) ?_
          refine xVl (Wf := (fun z => Wd ad cy z y)) (n := 1) (P := 3) (ci := 2) (As := [.int v6_60]) (rest := [.int f5_60, .ref (ad (6 + v6_60.toNatClampNeg))]) B hH hO (kX2_keyBy l hO.1 v6_60 _ x_60 y h) rfl rfl wk2_86 wk2_87 wk2_88 wk1_3 wk2_89 (by decide +kernel) rfl ⟨rfl, rfl⟩ ⟨Nat.le_of_ble_eq_true rfl, Nat.le_of_ble_eq_true rfl⟩ ⟨Nat.zero_le _, Nat.zero_le _⟩ hl.1 rfl (Nat.le_of_ble_eq_true rfl) dX0_add_78 (fun r60_6 x60_6 H locs h hH => ?_)
          replace hH : Hd D (AW ad) (Wd ad cy x60_6 y) s H locs := hH
          obtain ⟨b60_7, h⟩ := h
          refine lstR B hH hO (vp_in2 b60_5) b60_7 dX0_add_81 (fun x60_8 e60_8 H locs hH => ?_)
          replace h := h x60_8 e60_8
          refine lv_aload_n hx hb dX0_add_82 rfl (lv_at hl 0 rfl) ?_
          refine lv_iload hx hb dX0_add_83 (lv_at hl 2 rfl) ?_
          refine lv_iload hx hb dX0_add_85 (lv_at hl 3 rfl) ?_
          refine xVv (Wf := (fun z => Wd ad cy z y)) (n := 2) (P := 4) (ci := 0) (As := [.int f5_60, .int v6_60]) (rest := []) B hH hO (kX0_putInOrder l hO.1 f5_60 v6_60 _ x60_8 y h) rfl rfl wk2_92 wk2_94 wkp_3 wk1_4 wk2_95 (by decide +kernel) rfl ⟨rfl, rfl⟩ ⟨Nat.le_of_ble_eq_true rfl, Nat.le_of_ble_eq_true rfl⟩ ⟨Nat.zero_le _, Nat.zero_le _⟩ hl.1 rfl (Nat.le_of_ble_eq_true rfl) dX0_add_87 (fun x60_9 H locs h hH => ?_)
          replace hH : Hd D (AW ad) (Wd ad cy x60_9 y) s H locs := hH
          obtain ⟨v6_60_10, e60_10⟩ : ∃ z : Int32, z = v6_60 + 1 := ⟨_, rfl⟩
          replace h := h v6_60_10 e60_10
          refine lv_iinc (v := v6_60_10) (lv' := [(6, .int v6_60_10), (0, .ref (ad 4)), (1, .ref (ad 3)), (5, .int f5_60)]) hx hb dX0_add_90 hl (k := 3) rfl (by rw [e60_10]; first | rfl | done) (by decide) rfl (fun ls hl => ?_)
          refine lv_goto (tgt := 60) hx hb dX0_add_93 (by decide) ?_
          exact ih60 v6_60_10 x60_9 _ _ _ hH (lv_sub hl [1, 2, 3, 0] rfl) h
    exact loop_60 v5_2 n_60 0 x7 _ _ _ hH (lv_sub hl [2, 3, 1, 0] rfl) h
  · replace h := h.2 c1
    refine lv_iconst (v := (-1)) hx hb dX0_add_9 (by decide) ?_
    exact xret_i hx hb hr hlocks hH h dX0_add_10
set_option maxHeartbeats 4000000 in
set_option maxRecDepth 100000 in
theorem kX1_pack (l : Launch) {D : va_G} {cy : Nat → ClassId} {ad : Nat → Nat} (hI : AdI ad) (a2 : Int32) (K : ST → Prop) (x y : ST) (h : wX1_pack a2 K x) : Met l yX1_pack (Cond.code yX1_pack cX1_pack 7 none :: WL) ({ frames := 0, cells := 0, slots := 0, locals := 0 } : Room) (va_Pc [.ref (ad 22), .ref (ad 4), .int a2] (PW D cy ad x y)) (va_Qv K (QW D (fun z => Wd ad cy z y)) (AW ad)) 0 0 (AW ad) := by
  refine Met.ofW (cc := cX1_pack) (maxL := 7) (ret := none) (by decide) rfl ?_
  intro p e s m args below meth c s₁ B0 hml hv
  obtain ⟨rfl, hP, hK, hN⟩ := hv
  have hr := B0.returns
  have hlocks := B0.notSynchronized
  have hts := atoms_spec (ws := (Cond.code yX1_pack cX1_pack 7 none :: WL)) B0.pre
  have B : Bd p s m ([Value.ref (ad 22), Value.ref (ad 4), Value.int a2] : List Value).toArray c cX1_pack 7 RX1 D cy := ⟨B0.exec, B0.bytes, hml, findClass_of_methodNamed B0.named, fun w hw => hts w (List.mem_cons_of_mem _ hw), hK, hN⟩
  have hx := B0.exec
  have hb := B0.bytes
  have hO : AdOk ad (AW ad) := hI.self
  have hH : Hd D (AW ad) (Wd ad cy x y) s s.heap [] := ⟨hP, va_S.rf⟩
  have hl := lv_entry ([.ref (ad 22), .ref (ad 4), .int a2]) (n := 7) (Nat.le_of_ble_eq_true rfl)
  rw [lg_entry_eq]
  generalize (lg_sl ([.ref (ad 22), .ref (ad 4), .int a2]) ++ List.replicate (7 - (lg_sl ([.ref (ad 22), .ref (ad 4), .int a2])).length) Slot.unset).toArray = ls at hl ⊢
  have hl : lv_has ls 7 [(0, .ref (ad 22)), (1, .ref (ad 4)), (2, .int a2)] := hl
  unfold wX1_pack at h
  refine lv_aload_n hx hb dX1_pack_0 rfl (lv_at hl 0 rfl) ?_
  refine lv_iconst (v := 0) hx hb dX1_pack_1 (by decide) ?_
  refine pf_17 B hH hO wk1_177 dX1_pack_2 (fun x1 e1 H locs hH => ?_)
  replace h := h x1 e1
  refine lv_iconst (v := 0) hx hb dX1_pack_5 (by decide) ?_
  refine lv_istore_n (lv' := [(3, .int 0), (0, .ref (ad 22)), (1, .ref (ad 4)), (2, .int a2)]) hx hb dX1_pack_6 rfl hl (by decide) rfl (fun ls hl => ?_)
  refine lv_iconst (v := 0) hx hb dX1_pack_7 (by decide) ?_
  refine lv_istore (lv' := [(4, .int 0), (3, .int 0), (0, .ref (ad 22)), (1, .ref (ad 4)), (2, .int a2)]) hx hb dX1_pack_8 hl (by decide) rfl (fun ls hl => ?_)
  obtain ⟨n_10, h⟩ := h
  have loop_10 : ∀ (n_10 : Nat) (v3_10 : Int32) (v4_10 : Int32) (x_10 : ST) (H : Heap) (locs : List Loc) (ls : Array Slot), Hd D (AW ad) (Wd ad cy x_10 y) s H locs → lv_has ls 7 [(0, .ref (ad 22)), (1, .ref (ad 4)), (2, .int a2), (3, .int v3_10), (4, .int v4_10)] → it (fun (_ : Int32) (_ : Int32) (_ : ST) => False) (FX1_pack_10 a2 K) n_10 v3_10 v4_10 x_10 → W p l e (headSpec (Cond.code yX1_pack cX1_pack 7 none :: WL) ({ frames := 0, cells := 0, slots := 0, locals := 0 } : Room)).room s m ([Value.ref (ad 22), Value.ref (ad 4), Value.int a2] : List Value).toArray below meth c H locs 0 0 (MQ below (va_Qv K (QW D (fun z => Wd ad cy z y)) (AW ad)) ([Value.ref (ad 22), Value.ref (ad 4), Value.int a2] : List Value).toArray s 0 0 (AW ad)) (F0 m 10 ls []) := by
    intro n_10
    induction n_10 with
    | zero => intro v3_10 v4_10 x_10 H locs ls hH hl h; exact False.elim h
    | succ n_10 ih10 =>
      intro v3_10 v4_10 x_10 H locs ls hH hl h
      refine lv_iload hx hb dX1_pack_10 (lv_at hl 4 rfl) ?_
      refine lv_aload_n hx hb dX1_pack_12 rfl (lv_at hl 1 rfl) ?_
      refine gf_10 B hH wk1_86 dX1_pack_13 ?_
      refine lv_icmp_ge (tgt := 179) hx hb dX1_pack_16 (by decide) (fun c10_1 => ?_) (fun c10_1 => ?_)
      · replace h := h.1 c10_1
        exact xret_v hx hb hr hlocks hH h dX1_pack_179
      · replace h := h.2 c10_1
        refine lv_aload_n hx hb dX1_pack_19 rfl (lv_at hl 1 rfl) ?_
        refine gr_8 B hH wk1_73 dX1_pack_20 ?_
        refine lv_iload_n hx hb dX1_pack_23 rfl (lv_at hl 2 rfl) ?_
        obtain ⟨b10_2, h⟩ := h
        refine aar_8 B hH b10_2 dX1_pack_24 ?_
        refine lv_iload hx hb dX1_pack_25 (lv_at hl 4 rfl) ?_
        obtain ⟨b10_3, h⟩ := h
        refine aldR B hH (vp_in2 b10_2) b10_3 dX1_pack_27 ?_
        refine lv_topi (fun v5_10_4 e10_4 => ?_)
        replace h := h v5_10_4 e10_4
        refine lv_istore (lv' := [(5, .int v5_10_4), (0, .ref (ad 22)), (1, .ref (ad 4)), (2, .int a2), (3, .int v3_10), (4, .int v4_10)]) hx hb dX1_pack_28 hl (by decide) rfl (fun ls hl => ?_)
        refine lv_aload_n hx hb dX1_pack_30 rfl (lv_at hl 1 rfl) ?_
        refine gf_17 B hH wk1_177 dX1_pack_31 ?_
        refine lv_if_le (tgt := 78) hx hb dX1_pack_34 (by decide) (fun c10_5 => ?_) (fun c10_5 => ?_)
        · replace h := h.1 c10_5
          refine lv_iconst (v := 0) hx hb dX1_pack_78 (by decide) ?_
          refine lv_istore (lv' := [(6, .int 0), (5, .int v5_10_4), (0, .ref (ad 22)), (1, .ref (ad 4)), (2, .int a2), (3, .int v3_10), (4, .int v4_10)]) hx hb dX1_pack_79 hl (by decide) rfl (fun ls hl => ?_)
          refine lv_iload hx hb dX1_pack_81 (lv_at hl 0 rfl) ?_
          refine lv_if_ne (tgt := 135) hx hb dX1_pack_83 (by decide) (fun cq => absurd (by decide) cq) (fun _ => ?_)
          refine lv_aload_n hx hb dX1_pack_86 rfl (lv_at hl 2 rfl) ?_
          refine gr_24 B hH wk1_163 dX1_pack_87 ?_
          refine lv_aload_n hx hb dX1_pack_90 rfl (lv_at hl 2 rfl) ?_
          refine gf_17 B hH wk1_177 dX1_pack_91 ?_
          refine lv_iload hx hb dX1_pack_94 (lv_at hl 1 rfl) ?_
          obtain ⟨b10_6, h⟩ := h
          refine ast_24 B hH hO b10_6 dX1_pack_96 (fun x10_7 e10_7 H locs hH => ?_)
          replace h := h x10_7 e10_7
          refine lv_aload_n hx hb dX1_pack_97 rfl (lv_at hl 2 rfl) ?_
          refine gr_25 B hH wk1_165 dX1_pack_98 ?_
          refine lv_aload_n hx hb dX1_pack_101 rfl (lv_at hl 2 rfl) ?_
          refine gf_17 B hH wk1_177 dX1_pack_102 ?_
          refine lv_iconst (v := 0) hx hb dX1_pack_105 (by decide) ?_
          obtain ⟨b10_8, h⟩ := h
          refine ast_25 B hH hO b10_8 dX1_pack_106 (fun x10_9 e10_9 H locs hH => ?_)
          replace h := h x10_9 e10_9
          refine lv_aload_n hx hb dX1_pack_107 rfl (lv_at hl 2 rfl) ?_
          refine gr_26 B hH wk1_167 dX1_pack_108 ?_
          refine lv_aload_n hx hb dX1_pack_111 rfl (lv_at hl 2 rfl) ?_
          refine gf_17 B hH wk1_177 dX1_pack_112 ?_
          refine lv_aload_n hx hb dX1_pack_115 rfl (lv_at hl 3 rfl) ?_
          refine gr_11 B hH wk1_77 dX1_pack_116 ?_
          refine lv_iload hx hb dX1_pack_119 (lv_at hl 1 rfl) ?_
          obtain ⟨b10_10, h⟩ := h
          refine ald_11 B hH b10_10 dX1_pack_121 ?_
          obtain ⟨b10_11, h⟩ := h
          refine ast_26 B hH hO b10_11 dX1_pack_122 (fun x10_12 e10_12 H locs hH => ?_)
          replace h := h x10_12 e10_12
          refine lv_iconst (v := 0) hx hb dX1_pack_123 (by decide) ?_
          refine lv_istore_n (lv' := [(3, .int 0), (6, .int 0), (5, .int v5_10_4), (0, .ref (ad 22)), (1, .ref (ad 4)), (2, .int a2), (4, .int v4_10)]) hx hb dX1_pack_124 rfl hl (by decide) rfl (fun ls hl => ?_)
          refine lv_aload_n hx hb dX1_pack_125 rfl (lv_at hl 3 rfl) ?_
          refine lv_dup hx hb dX1_pack_126 rfl ?_
          refine gf_17 B hH wk1_177 dX1_pack_127 ?_
          refine lv_iconst (v := 1) hx hb dX1_pack_130 (by decide) ?_
          refine lv_iadd hx hb dX1_pack_131 ?_
          refine pf_17 B hH hO wk1_177 dX1_pack_132 (fun x10_13 e10_13 H locs hH => ?_)
          replace h := h x10_13 e10_13
          refine lv_aload_n hx hb dX1_pack_135 rfl (lv_at hl 3 rfl) ?_
          refine gr_29 B hH wk1_173 dX1_pack_136 ?_
          refine lv_iload hx hb dX1_pack_139 (lv_at hl 2 rfl) ?_
          refine lv_aload_n hx hb dX1_pack_141 rfl (lv_at hl 3 rfl) ?_
          refine gf_17 B hH wk1_177 dX1_pack_142 ?_
          refine lv_iconst (v := 1) hx hb dX1_pack_145 (by decide) ?_
          refine lv_isub hx hb dX1_pack_146 ?_
          refine ast_29 B hH hO b10_10 dX1_pack_147 (fun x10_14 e10_14 H locs hH => ?_)
          replace h := h x10_14 e10_14
          refine lv_aload_n hx hb dX1_pack_148 rfl (lv_at hl 3 rfl) ?_
          refine gr_25 B hH wk1_165 dX1_pack_149 ?_
          refine lv_aload_n hx hb dX1_pack_152 rfl (lv_at hl 3 rfl) ?_
          refine gf_17 B hH wk1_177 dX1_pack_153 ?_
          refine lv_iconst (v := 1) hx hb dX1_pack_156 (by decide) ?_
          refine lv_isub hx hb dX1_pack_157 ?_
          refine lv_dup2_11 hx hb dX1_pack_158 rfl rfl ?_
          obtain ⟨b10_15, h⟩ := h
          refine ald_25 B hH b10_15 dX1_pack_159 ?_
          refine lv_iconst (v := 1) hx hb dX1_pack_160 (by decide) ?_
          refine lv_iadd hx hb dX1_pack_161 ?_
          refine ast_25 B hH hO b10_15 dX1_pack_162 (fun x10_16 e10_16 H locs hH => ?_)
          replace h := h x10_16 e10_16
          refine lv_iload_n hx hb dX1_pack_163 rfl (lv_at hl 0 rfl) ?_
          refine lv_aload_n hx hb dX1_pack_164 rfl (lv_at hl 4 rfl) ?_
          refine gr_12 B hH wk1_79 dX1_pack_165 ?_
          refine lv_iload hx hb dX1_pack_168 (lv_at hl 2 rfl) ?_
          refine ald_12 B hH b10_10 dX1_pack_170 ?_
          refine lv_iadd hx hb dX1_pack_171 ?_
          refine lv_topi (fun v3_10_17 e10_17 => ?_)
          replace h := h v3_10_17 e10_17
          refine lv_istore_n (lv' := [(3, .int v3_10_17), (6, .int 0), (5, .int v5_10_4), (0, .ref (ad 22)), (1, .ref (ad 4)), (2, .int a2), (4, .int v4_10)]) hx hb dX1_pack_172 rfl hl (by decide) rfl (fun ls hl => ?_)
          obtain ⟨v4_10_18, e10_18⟩ : ∃ z : Int32, z = v4_10 + 1 := ⟨_, rfl⟩
          replace h := h v4_10_18 e10_18
          refine lv_iinc (v := v4_10_18) (lv' := [(4, .int v4_10_18), (3, .int v3_10_17), (6, .int 0), (5, .int v5_10_4), (0, .ref (ad 22)), (1, .ref (ad 4)), (2, .int a2)]) hx hb dX1_pack_173 hl (k := 6) rfl (by rw [e10_18]; first | rfl | done) (by decide) rfl (fun ls hl => ?_)
          refine lv_goto (tgt := 10) hx hb dX1_pack_176 (by decide) ?_
          exact ih10 v3_10_17 v4_10_18 x10_16 _ _ _ hH (lv_sub hl [4, 5, 6, 1, 0] rfl) h
        · replace h := h.2 c10_5
          refine lv_aload_n hx hb dX1_pack_37 rfl (lv_at hl 1 rfl) ?_
          refine gr_26 B hH wk1_167 dX1_pack_38 ?_
          refine lv_aload_n hx hb dX1_pack_41 rfl (lv_at hl 1 rfl) ?_
          refine gf_17 B hH wk1_177 dX1_pack_42 ?_
          refine lv_iconst (v := 1) hx hb dX1_pack_45 (by decide) ?_
          refine lv_isub hx hb dX1_pack_46 ?_
          obtain ⟨b10_19, h⟩ := h
          refine ald_26 B hH b10_19 dX1_pack_47 ?_
          refine lv_aload_n hx hb dX1_pack_48 rfl (lv_at hl 2 rfl) ?_
          refine gr_11 B hH wk1_77 dX1_pack_49 ?_
          refine lv_iload hx hb dX1_pack_52 (lv_at hl 0 rfl) ?_
          obtain ⟨b10_20, h⟩ := h
          refine ald_11 B hH b10_20 dX1_pack_54 ?_
          refine lv_icmp_ne (tgt := 78) hx hb dX1_pack_55 (by decide) (fun c10_21 => ?_) (fun c10_21 => ?_)
          · replace h := h.1 c10_21
            refine lv_iconst (v := 0) hx hb dX1_pack_78 (by decide) ?_
            refine lv_istore (lv' := [(6, .int 0), (5, .int v5_10_4), (0, .ref (ad 22)), (1, .ref (ad 4)), (2, .int a2), (3, .int v3_10), (4, .int v4_10)]) hx hb dX1_pack_79 hl (by decide) rfl (fun ls hl => ?_)
            refine lv_iload hx hb dX1_pack_81 (lv_at hl 0 rfl) ?_
            refine lv_if_ne (tgt := 135) hx hb dX1_pack_83 (by decide) (fun cq => absurd (by decide) cq) (fun _ => ?_)
            refine lv_aload_n hx hb dX1_pack_86 rfl (lv_at hl 2 rfl) ?_
            refine gr_24 B hH wk1_163 dX1_pack_87 ?_
            refine lv_aload_n hx hb dX1_pack_90 rfl (lv_at hl 2 rfl) ?_
            refine gf_17 B hH wk1_177 dX1_pack_91 ?_
            refine lv_iload hx hb dX1_pack_94 (lv_at hl 1 rfl) ?_
            obtain ⟨b10_22, h⟩ := h
            refine ast_24 B hH hO b10_22 dX1_pack_96 (fun x10_23 e10_23 H locs hH => ?_)
            replace h := h x10_23 e10_23
            refine lv_aload_n hx hb dX1_pack_97 rfl (lv_at hl 2 rfl) ?_
            refine gr_25 B hH wk1_165 dX1_pack_98 ?_
            refine lv_aload_n hx hb dX1_pack_101 rfl (lv_at hl 2 rfl) ?_
            refine gf_17 B hH wk1_177 dX1_pack_102 ?_
            refine lv_iconst (v := 0) hx hb dX1_pack_105 (by decide) ?_
            obtain ⟨b10_24, h⟩ := h
            refine ast_25 B hH hO b10_24 dX1_pack_106 (fun x10_25 e10_25 H locs hH => ?_)
            replace h := h x10_25 e10_25
            refine lv_aload_n hx hb dX1_pack_107 rfl (lv_at hl 2 rfl) ?_
            refine gr_26 B hH wk1_167 dX1_pack_108 ?_
            refine lv_aload_n hx hb dX1_pack_111 rfl (lv_at hl 2 rfl) ?_
            refine gf_17 B hH wk1_177 dX1_pack_112 ?_
            refine lv_aload_n hx hb dX1_pack_115 rfl (lv_at hl 3 rfl) ?_
            refine gr_11 B hH wk1_77 dX1_pack_116 ?_
            refine lv_iload hx hb dX1_pack_119 (lv_at hl 1 rfl) ?_
            refine ald_11 B hH b10_20 dX1_pack_121 ?_
            obtain ⟨b10_26, h⟩ := h
            refine ast_26 B hH hO b10_26 dX1_pack_122 (fun x10_27 e10_27 H locs hH => ?_)
            replace h := h x10_27 e10_27
            refine lv_iconst (v := 0) hx hb dX1_pack_123 (by decide) ?_
            refine lv_istore_n (lv' := [(3, .int 0), (6, .int 0), (5, .int v5_10_4), (0, .ref (ad 22)), (1, .ref (ad 4)), (2, .int a2), (4, .int v4_10)]) hx hb dX1_pack_124 rfl hl (by decide) rfl (fun ls hl => ?_)
            refine lv_aload_n hx hb dX1_pack_125 rfl (lv_at hl 3 rfl) ?_
            refine lv_dup hx hb dX1_pack_126 rfl ?_
            refine gf_17 B hH wk1_177 dX1_pack_127 ?_
            refine lv_iconst (v := 1) hx hb dX1_pack_130 (by decide) ?_
            refine lv_iadd hx hb dX1_pack_131 ?_
            refine pf_17 B hH hO wk1_177 dX1_pack_132 (fun x10_28 e10_28 H locs hH => ?_)
            replace h := h x10_28 e10_28
            refine lv_aload_n hx hb dX1_pack_135 rfl (lv_at hl 3 rfl) ?_
            refine gr_29 B hH wk1_173 dX1_pack_136 ?_
            refine lv_iload hx hb dX1_pack_139 (lv_at hl 2 rfl) ?_
            refine lv_aload_n hx hb dX1_pack_141 rfl (lv_at hl 3 rfl) ?_
            refine gf_17 B hH wk1_177 dX1_pack_142 ?_
            refine lv_iconst (v := 1) hx hb dX1_pack_145 (by decide) ?_
            refine lv_isub hx hb dX1_pack_146 ?_
            refine ast_29 B hH hO b10_20 dX1_pack_147 (fun x10_29 e10_29 H locs hH => ?_)
            replace h := h x10_29 e10_29
            refine lv_aload_n hx hb dX1_pack_148 rfl (lv_at hl 3 rfl) ?_
            refine gr_25 B hH wk1_165 dX1_pack_149 ?_
            refine lv_aload_n hx hb dX1_pack_152 rfl (lv_at hl 3 rfl) ?_
            refine gf_17 B hH wk1_177 dX1_pack_153 ?_
            refine lv_iconst (v := 1) hx hb dX1_pack_156 (by decide) ?_
            refine lv_isub hx hb dX1_pack_157 ?_
            refine lv_dup2_11 hx hb dX1_pack_158 rfl rfl ?_
            obtain ⟨b10_30, h⟩ := h
            refine ald_25 B hH b10_30 dX1_pack_159 ?_
            refine lv_iconst (v := 1) hx hb dX1_pack_160 (by decide) ?_
            refine lv_iadd hx hb dX1_pack_161 ?_
            refine ast_25 B hH hO b10_30 dX1_pack_162 (fun x10_31 e10_31 H locs hH => ?_)
            replace h := h x10_31 e10_31
            refine lv_iload_n hx hb dX1_pack_163 rfl (lv_at hl 0 rfl) ?_
            refine lv_aload_n hx hb dX1_pack_164 rfl (lv_at hl 4 rfl) ?_
            refine gr_12 B hH wk1_79 dX1_pack_165 ?_
            refine lv_iload hx hb dX1_pack_168 (lv_at hl 2 rfl) ?_
            refine ald_12 B hH b10_20 dX1_pack_170 ?_
            refine lv_iadd hx hb dX1_pack_171 ?_
            refine lv_topi (fun v3_10_32 e10_32 => ?_)
            replace h := h v3_10_32 e10_32
            refine lv_istore_n (lv' := [(3, .int v3_10_32), (6, .int 0), (5, .int v5_10_4), (0, .ref (ad 22)), (1, .ref (ad 4)), (2, .int a2), (4, .int v4_10)]) hx hb dX1_pack_172 rfl hl (by decide) rfl (fun ls hl => ?_)
            obtain ⟨v4_10_33, e10_33⟩ : ∃ z : Int32, z = v4_10 + 1 := ⟨_, rfl⟩
            replace h := h v4_10_33 e10_33
            refine lv_iinc (v := v4_10_33) (lv' := [(4, .int v4_10_33), (3, .int v3_10_32), (6, .int 0), (5, .int v5_10_4), (0, .ref (ad 22)), (1, .ref (ad 4)), (2, .int a2)]) hx hb dX1_pack_173 hl (k := 6) rfl (by rw [e10_33]; first | rfl | done) (by decide) rfl (fun ls hl => ?_)
            refine lv_goto (tgt := 10) hx hb dX1_pack_176 (by decide) ?_
            exact ih10 v3_10_32 v4_10_33 x10_31 _ _ _ hH (lv_sub hl [4, 5, 6, 1, 0] rfl) h
          · replace h := h.2 c10_21
            refine lv_iload_n hx hb dX1_pack_58 rfl (lv_at hl 4 rfl) ?_
            refine lv_aload_n hx hb dX1_pack_59 rfl (lv_at hl 2 rfl) ?_
            refine gr_12 B hH wk1_79 dX1_pack_60 ?_
            refine lv_iload hx hb dX1_pack_63 (lv_at hl 0 rfl) ?_
            refine ald_12 B hH b10_20 dX1_pack_65 ?_
            refine lv_iadd hx hb dX1_pack_66 ?_
            refine lv_aload_n hx hb dX1_pack_67 rfl (lv_at hl 1 rfl) ?_
            refine gf_16 B hH wk1_175 dX1_pack_68 ?_
            refine lv_icmp_gt (tgt := 78) hx hb dX1_pack_71 (by decide) (fun c10_34 => ?_) (fun c10_34 => ?_)
            · replace h := h.1 c10_34
              refine lv_iconst (v := 0) hx hb dX1_pack_78 (by decide) ?_
              refine lv_istore (lv' := [(6, .int 0), (5, .int v5_10_4), (0, .ref (ad 22)), (1, .ref (ad 4)), (2, .int a2), (3, .int v3_10), (4, .int v4_10)]) hx hb dX1_pack_79 hl (by decide) rfl (fun ls hl => ?_)
              refine lv_iload hx hb dX1_pack_81 (lv_at hl 0 rfl) ?_
              refine lv_if_ne (tgt := 135) hx hb dX1_pack_83 (by decide) (fun cq => absurd (by decide) cq) (fun _ => ?_)
              refine lv_aload_n hx hb dX1_pack_86 rfl (lv_at hl 2 rfl) ?_
              refine gr_24 B hH wk1_163 dX1_pack_87 ?_
              refine lv_aload_n hx hb dX1_pack_90 rfl (lv_at hl 2 rfl) ?_
              refine gf_17 B hH wk1_177 dX1_pack_91 ?_
              refine lv_iload hx hb dX1_pack_94 (lv_at hl 1 rfl) ?_
              obtain ⟨b10_35, h⟩ := h
              refine ast_24 B hH hO b10_35 dX1_pack_96 (fun x10_36 e10_36 H locs hH => ?_)
              replace h := h x10_36 e10_36
              refine lv_aload_n hx hb dX1_pack_97 rfl (lv_at hl 2 rfl) ?_
              refine gr_25 B hH wk1_165 dX1_pack_98 ?_
              refine lv_aload_n hx hb dX1_pack_101 rfl (lv_at hl 2 rfl) ?_
              refine gf_17 B hH wk1_177 dX1_pack_102 ?_
              refine lv_iconst (v := 0) hx hb dX1_pack_105 (by decide) ?_
              obtain ⟨b10_37, h⟩ := h
              refine ast_25 B hH hO b10_37 dX1_pack_106 (fun x10_38 e10_38 H locs hH => ?_)
              replace h := h x10_38 e10_38
              refine lv_aload_n hx hb dX1_pack_107 rfl (lv_at hl 2 rfl) ?_
              refine gr_26 B hH wk1_167 dX1_pack_108 ?_
              refine lv_aload_n hx hb dX1_pack_111 rfl (lv_at hl 2 rfl) ?_
              refine gf_17 B hH wk1_177 dX1_pack_112 ?_
              refine lv_aload_n hx hb dX1_pack_115 rfl (lv_at hl 3 rfl) ?_
              refine gr_11 B hH wk1_77 dX1_pack_116 ?_
              refine lv_iload hx hb dX1_pack_119 (lv_at hl 1 rfl) ?_
              refine ald_11 B hH b10_20 dX1_pack_121 ?_
              obtain ⟨b10_39, h⟩ := h
              refine ast_26 B hH hO b10_39 dX1_pack_122 (fun x10_40 e10_40 H locs hH => ?_)
              replace h := h x10_40 e10_40
              refine lv_iconst (v := 0) hx hb dX1_pack_123 (by decide) ?_
              refine lv_istore_n (lv' := [(3, .int 0), (6, .int 0), (5, .int v5_10_4), (0, .ref (ad 22)), (1, .ref (ad 4)), (2, .int a2), (4, .int v4_10)]) hx hb dX1_pack_124 rfl hl (by decide) rfl (fun ls hl => ?_)
              refine lv_aload_n hx hb dX1_pack_125 rfl (lv_at hl 3 rfl) ?_
              refine lv_dup hx hb dX1_pack_126 rfl ?_
              refine gf_17 B hH wk1_177 dX1_pack_127 ?_
              refine lv_iconst (v := 1) hx hb dX1_pack_130 (by decide) ?_
              refine lv_iadd hx hb dX1_pack_131 ?_
              refine pf_17 B hH hO wk1_177 dX1_pack_132 (fun x10_41 e10_41 H locs hH => ?_)
              replace h := h x10_41 e10_41
              refine lv_aload_n hx hb dX1_pack_135 rfl (lv_at hl 3 rfl) ?_
              refine gr_29 B hH wk1_173 dX1_pack_136 ?_
              refine lv_iload hx hb dX1_pack_139 (lv_at hl 2 rfl) ?_
              refine lv_aload_n hx hb dX1_pack_141 rfl (lv_at hl 3 rfl) ?_
              refine gf_17 B hH wk1_177 dX1_pack_142 ?_
              refine lv_iconst (v := 1) hx hb dX1_pack_145 (by decide) ?_
              refine lv_isub hx hb dX1_pack_146 ?_
              refine ast_29 B hH hO b10_20 dX1_pack_147 (fun x10_42 e10_42 H locs hH => ?_)
              replace h := h x10_42 e10_42
              refine lv_aload_n hx hb dX1_pack_148 rfl (lv_at hl 3 rfl) ?_
              refine gr_25 B hH wk1_165 dX1_pack_149 ?_
              refine lv_aload_n hx hb dX1_pack_152 rfl (lv_at hl 3 rfl) ?_
              refine gf_17 B hH wk1_177 dX1_pack_153 ?_
              refine lv_iconst (v := 1) hx hb dX1_pack_156 (by decide) ?_
              refine lv_isub hx hb dX1_pack_157 ?_
              refine lv_dup2_11 hx hb dX1_pack_158 rfl rfl ?_
              obtain ⟨b10_43, h⟩ := h
              refine ald_25 B hH b10_43 dX1_pack_159 ?_
              refine lv_iconst (v := 1) hx hb dX1_pack_160 (by decide) ?_
              refine lv_iadd hx hb dX1_pack_161 ?_
              refine ast_25 B hH hO b10_43 dX1_pack_162 (fun x10_44 e10_44 H locs hH => ?_)
              replace h := h x10_44 e10_44
              refine lv_iload_n hx hb dX1_pack_163 rfl (lv_at hl 0 rfl) ?_
              refine lv_aload_n hx hb dX1_pack_164 rfl (lv_at hl 4 rfl) ?_
              refine gr_12 B hH wk1_79 dX1_pack_165 ?_
              refine lv_iload hx hb dX1_pack_168 (lv_at hl 2 rfl) ?_
              refine ald_12 B hH b10_20 dX1_pack_170 ?_
              refine lv_iadd hx hb dX1_pack_171 ?_
              refine lv_topi (fun v3_10_45 e10_45 => ?_)
              replace h := h v3_10_45 e10_45
              refine lv_istore_n (lv' := [(3, .int v3_10_45), (6, .int 0), (5, .int v5_10_4), (0, .ref (ad 22)), (1, .ref (ad 4)), (2, .int a2), (4, .int v4_10)]) hx hb dX1_pack_172 rfl hl (by decide) rfl (fun ls hl => ?_)
              obtain ⟨v4_10_46, e10_46⟩ : ∃ z : Int32, z = v4_10 + 1 := ⟨_, rfl⟩
              replace h := h v4_10_46 e10_46
              refine lv_iinc (v := v4_10_46) (lv' := [(4, .int v4_10_46), (3, .int v3_10_45), (6, .int 0), (5, .int v5_10_4), (0, .ref (ad 22)), (1, .ref (ad 4)), (2, .int a2)]) hx hb dX1_pack_173 hl (k := 6) rfl (by rw [e10_46]; first | rfl | done) (by decide) rfl (fun ls hl => ?_)
              refine lv_goto (tgt := 10) hx hb dX1_pack_176 (by decide) ?_
              exact ih10 v3_10_45 v4_10_46 x10_44 _ _ _ hH (lv_sub hl [4, 5, 6, 1, 0] rfl) h
            · replace h := h.2 c10_34
              refine lv_iconst (v := 1) hx hb dX1_pack_74 (by decide) ?_
              refine lv_goto (tgt := 79) hx hb dX1_pack_75 (by decide) ?_
              refine lv_istore (lv' := [(6, .int 1), (5, .int v5_10_4), (0, .ref (ad 22)), (1, .ref (ad 4)), (2, .int a2), (3, .int v3_10), (4, .int v4_10)]) hx hb dX1_pack_79 hl (by decide) rfl (fun ls hl => ?_)
              refine lv_iload hx hb dX1_pack_81 (lv_at hl 0 rfl) ?_
              refine lv_if_ne (tgt := 135) hx hb dX1_pack_83 (by decide) (fun _ => ?_) (fun cq => absurd cq (by decide))
              refine lv_aload_n hx hb dX1_pack_135 rfl (lv_at hl 2 rfl) ?_
              refine gr_29 B hH wk1_173 dX1_pack_136 ?_
              refine lv_iload hx hb dX1_pack_139 (lv_at hl 1 rfl) ?_
              refine lv_aload_n hx hb dX1_pack_141 rfl (lv_at hl 2 rfl) ?_
              refine gf_17 B hH wk1_177 dX1_pack_142 ?_
              refine lv_iconst (v := 1) hx hb dX1_pack_145 (by decide) ?_
              refine lv_isub hx hb dX1_pack_146 ?_
              refine ast_29 B hH hO b10_20 dX1_pack_147 (fun x10_47 e10_47 H locs hH => ?_)
              replace h := h x10_47 e10_47
              refine lv_aload_n hx hb dX1_pack_148 rfl (lv_at hl 2 rfl) ?_
              refine gr_25 B hH wk1_165 dX1_pack_149 ?_
              refine lv_aload_n hx hb dX1_pack_152 rfl (lv_at hl 2 rfl) ?_
              refine gf_17 B hH wk1_177 dX1_pack_153 ?_
              refine lv_iconst (v := 1) hx hb dX1_pack_156 (by decide) ?_
              refine lv_isub hx hb dX1_pack_157 ?_
              refine lv_dup2_11 hx hb dX1_pack_158 rfl rfl ?_
              obtain ⟨b10_48, h⟩ := h
              refine ald_25 B hH b10_48 dX1_pack_159 ?_
              refine lv_iconst (v := 1) hx hb dX1_pack_160 (by decide) ?_
              refine lv_iadd hx hb dX1_pack_161 ?_
              refine ast_25 B hH hO b10_48 dX1_pack_162 (fun x10_49 e10_49 H locs hH => ?_)
              replace h := h x10_49 e10_49
              refine lv_iload_n hx hb dX1_pack_163 rfl (lv_at hl 5 rfl) ?_
              refine lv_aload_n hx hb dX1_pack_164 rfl (lv_at hl 3 rfl) ?_
              refine gr_12 B hH wk1_79 dX1_pack_165 ?_
              refine lv_iload hx hb dX1_pack_168 (lv_at hl 1 rfl) ?_
              refine ald_12 B hH b10_20 dX1_pack_170 ?_
              refine lv_iadd hx hb dX1_pack_171 ?_
              refine lv_topi (fun v3_10_50 e10_50 => ?_)
              replace h := h v3_10_50 e10_50
              refine lv_istore_n (lv' := [(3, .int v3_10_50), (6, .int 1), (5, .int v5_10_4), (0, .ref (ad 22)), (1, .ref (ad 4)), (2, .int a2), (4, .int v4_10)]) hx hb dX1_pack_172 rfl hl (by decide) rfl (fun ls hl => ?_)
              obtain ⟨v4_10_51, e10_51⟩ : ∃ z : Int32, z = v4_10 + 1 := ⟨_, rfl⟩
              replace h := h v4_10_51 e10_51
              refine lv_iinc (v := v4_10_51) (lv' := [(4, .int v4_10_51), (3, .int v3_10_50), (6, .int 1), (5, .int v5_10_4), (0, .ref (ad 22)), (1, .ref (ad 4)), (2, .int a2)]) hx hb dX1_pack_173 hl (k := 6) rfl (by rw [e10_51]; first | rfl | done) (by decide) rfl (fun ls hl => ?_)
              refine lv_goto (tgt := 10) hx hb dX1_pack_176 (by decide) ?_
              exact ih10 v3_10_50 v4_10_51 x10_49 _ _ _ hH (lv_sub hl [4, 5, 6, 1, 0] rfl) h
  exact loop_10 n_10 0 0 x1 _ _ _ hH (lv_sub hl [2, 3, 4, 1, 0] rfl) h
set_option maxHeartbeats 4000000 in
set_option maxRecDepth 100000 in
theorem kX1_carryFrom (l : Launch) {D : va_G} {cy : Nat → ClassId} {ad : Nat → Nat} (hI : AdI ad) (a1 : Int32) (a2 : Int32) (K : Int32 → ST → Prop) (x y : ST) (h : wX1_carryFrom a1 a2 K x) : Met l yX1_carryFrom (Cond.code yX1_carryFrom cX1_carryFrom 3 (some .int) :: WL) ({ frames := 0, cells := 0, slots := 0, locals := 0 } : Room) (va_Pc [.ref (ad 22), .int a1, .int a2] (PW D cy ad x y)) (va_Qi K (QW D (fun z => Wd ad cy z y)) (AW ad)) 0 0 (AW ad) := by
  refine Met.ofW (cc := cX1_carryFrom) (maxL := 3) (ret := (some .int)) (by decide) rfl ?_
  intro p e s m args below meth c s₁ B0 hml hv
  obtain ⟨rfl, hP, hK, hN⟩ := hv
  have hr := B0.returns
  have hlocks := B0.notSynchronized
  have hts := atoms_spec (ws := (Cond.code yX1_carryFrom cX1_carryFrom 3 (some .int) :: WL)) B0.pre
  have B : Bd p s m ([Value.ref (ad 22), Value.int a1, Value.int a2] : List Value).toArray c cX1_carryFrom 3 RX1 D cy := ⟨B0.exec, B0.bytes, hml, findClass_of_methodNamed B0.named, fun w hw => hts w (List.mem_cons_of_mem _ hw), hK, hN⟩
  have hx := B0.exec
  have hb := B0.bytes
  have hO : AdOk ad (AW ad) := hI.self
  have hH : Hd D (AW ad) (Wd ad cy x y) s s.heap [] := ⟨hP, va_S.rf⟩
  have hl := lv_entry ([.ref (ad 22), .int a1, .int a2]) (n := 3) (Nat.le_of_ble_eq_true rfl)
  rw [lg_entry_eq]
  generalize (lg_sl ([.ref (ad 22), .int a1, .int a2]) ++ List.replicate (3 - (lg_sl ([.ref (ad 22), .int a1, .int a2])).length) Slot.unset).toArray = ls at hl ⊢
  have hl : lv_has ls 3 [(0, .ref (ad 22)), (1, .int a1), (2, .int a2)] := hl
  unfold wX1_carryFrom at h
  refine lv_aload_n hx hb dX1_carryFrom_0 rfl (lv_at hl 0 rfl) ?_
  refine gr_27 B hH wk1_169 dX1_carryFrom_1 ?_
  refine lv_iload_n hx hb dX1_carryFrom_4 rfl (lv_at hl 2 rfl) ?_
  refine lv_iload_n hx hb dX1_carryFrom_5 rfl (lv_at hl 1 rfl) ?_
  obtain ⟨b1, h⟩ := h
  refine ast_27 B hH hO b1 dX1_carryFrom_6 (fun x2 e2 H locs hH => ?_)
  replace h := h x2 e2
  refine lv_aload_n hx hb dX1_carryFrom_7 rfl (lv_at hl 0 rfl) ?_
  refine gr_28 B hH wk1_171 dX1_carryFrom_8 ?_
  refine lv_iload_n hx hb dX1_carryFrom_11 rfl (lv_at hl 2 rfl) ?_
  refine lv_iload_n hx hb dX1_carryFrom_12 rfl (lv_at hl 1 rfl) ?_
  refine lv_aload_n hx hb dX1_carryFrom_13 rfl (lv_at hl 0 rfl) ?_
  refine gr_23 B hH wk1_161 dX1_carryFrom_14 ?_
  refine lv_aload_n hx hb dX1_carryFrom_17 rfl (lv_at hl 0 rfl) ?_
  refine gr_26 B hH wk1_167 dX1_carryFrom_18 ?_
  refine lv_iload_n hx hb dX1_carryFrom_21 rfl (lv_at hl 2 rfl) ?_
  refine ald_26 B hH b1 dX1_carryFrom_22 ?_
  obtain ⟨b3, h⟩ := h
  refine ald_23 B hH b3 dX1_carryFrom_23 ?_
  refine lv_iadd hx hb dX1_carryFrom_24 ?_
  refine ast_28 B hH hO b1 dX1_carryFrom_25 (fun x4 e4 H locs hH => ?_)
  replace h := h x4 e4
  refine lv_aload_n hx hb dX1_carryFrom_26 rfl (lv_at hl 0 rfl) ?_
  refine gr_28 B hH wk1_171 dX1_carryFrom_27 ?_
  refine lv_iload_n hx hb dX1_carryFrom_30 rfl (lv_at hl 2 rfl) ?_
  refine ald_28 B hH b1 dX1_carryFrom_31 ?_
  exact xret_i hx hb hr hlocks hH h dX1_carryFrom_32
set_option maxHeartbeats 4000000 in
set_option maxRecDepth 100000 in
theorem kX1_setMinutes (l : Launch) {D : va_G} {cy : Nat → ClassId} {ad : Nat → Nat} (hI : AdI ad) (K : ST → Prop) (x y : ST) (h : wX1_setMinutes K x) : Met l yX1_setMinutes (Cond.code yX1_setMinutes cX1_setMinutes 3 none :: WL) ({ frames := 1, cells := 0, slots := 0, locals := 22 } : Room) (va_Pc [.ref (ad 22)] (PW D cy ad x y)) (va_Qv K (QW D (fun z => Wd ad cy z y)) (AW ad)) 0 0 (AW ad) := by
  refine Met.ofW (cc := cX1_setMinutes) (maxL := 3) (ret := none) (by decide) rfl ?_
  intro p e s m args below meth c s₁ B0 hml hv
  obtain ⟨rfl, hP, hK, hN⟩ := hv
  have hr := B0.returns
  have hlocks := B0.notSynchronized
  have hts := atoms_spec (ws := (Cond.code yX1_setMinutes cX1_setMinutes 3 none :: WL)) B0.pre
  have B : Bd p s m ([Value.ref (ad 22)] : List Value).toArray c cX1_setMinutes 3 RX1 D cy := ⟨B0.exec, B0.bytes, hml, findClass_of_methodNamed B0.named, fun w hw => hts w (List.mem_cons_of_mem _ hw), hK, hN⟩
  have hx := B0.exec
  have hb := B0.bytes
  have hO : AdOk ad (AW ad) := hI.self
  have hH : Hd D (AW ad) (Wd ad cy x y) s s.heap [] := ⟨hP, va_S.rf⟩
  have hl := lv_entry ([.ref (ad 22)]) (n := 3) (Nat.le_of_ble_eq_true rfl)
  rw [lg_entry_eq]
  generalize (lg_sl ([.ref (ad 22)]) ++ List.replicate (3 - (lg_sl ([.ref (ad 22)])).length) Slot.unset).toArray = ls at hl ⊢
  have hl : lv_has ls 3 [(0, .ref (ad 22))] := hl
  unfold wX1_setMinutes at h
  refine lv_iconst (v := 0) hx hb dX1_setMinutes_0 (by decide) ?_
  refine lv_istore_n (lv' := [(1, .int 0), (0, .ref (ad 22))]) hx hb dX1_setMinutes_1 rfl hl (by decide) rfl (fun ls hl => ?_)
  refine lv_iconst (v := 0) hx hb dX1_setMinutes_2 (by decide) ?_
  refine lv_istore_n (lv' := [(2, .int 0), (1, .int 0), (0, .ref (ad 22))]) hx hb dX1_setMinutes_3 rfl hl (by decide) rfl (fun ls hl => ?_)
  obtain ⟨n_4, h⟩ := h
  have loop_4 : ∀ (n_4 : Nat) (v1_4 : Int32) (v2_4 : Int32) (x_4 : ST) (H : Heap) (locs : List Loc) (ls : Array Slot), Hd D (AW ad) (Wd ad cy x_4 y) s H locs → lv_has ls 3 [(0, .ref (ad 22)), (1, .int v1_4), (2, .int v2_4)] → it (fun (_ : Int32) (_ : Int32) (_ : ST) => False) (FX1_setMinutes_4 K) n_4 v1_4 v2_4 x_4 → W p l e (headSpec (Cond.code yX1_setMinutes cX1_setMinutes 3 none :: WL) ({ frames := 1, cells := 0, slots := 0, locals := 22 } : Room)).room s m ([Value.ref (ad 22)] : List Value).toArray below meth c H locs 0 0 (MQ below (va_Qv K (QW D (fun z => Wd ad cy z y)) (AW ad)) ([Value.ref (ad 22)] : List Value).toArray s 0 0 (AW ad)) (F0 m 4 ls []) := by
    intro n_4
    induction n_4 with
    | zero => intro v1_4 v2_4 x_4 H locs ls hH hl h; exact False.elim h
    | succ n_4 ih4 =>
      intro v1_4 v2_4 x_4 H locs ls hH hl h
      refine lv_iload_n hx hb dX1_setMinutes_4 rfl (lv_at hl 2 rfl) ?_
      refine lv_aload_n hx hb dX1_setMinutes_5 rfl (lv_at hl 0 rfl) ?_
      refine gf_18 B hH wk1_179 dX1_setMinutes_6 ?_
      refine lv_icmp_ge (tgt := 25) hx hb dX1_setMinutes_9 (by decide) (fun c4_1 => ?_) (fun c4_1 => ?_)
      · replace h := h.1 c4_1
        refine lv_iconst (v := 0) hx hb dX1_setMinutes_25 (by decide) ?_
        refine lv_istore_n (lv' := [(1, .int 0), (0, .ref (ad 22)), (2, .int v2_4)]) hx hb dX1_setMinutes_26 rfl hl (by decide) rfl (fun ls hl => ?_)
        refine lv_aload_n hx hb dX1_setMinutes_27 rfl (lv_at hl 1 rfl) ?_
        refine gf_17 B hH wk1_177 dX1_setMinutes_28 ?_
        refine lv_iconst (v := 1) hx hb dX1_setMinutes_31 (by decide) ?_
        refine lv_isub hx hb dX1_setMinutes_32 ?_
        refine lv_topi (fun v2_4_2 e4_2 => ?_)
        replace h := h v2_4_2 e4_2
        refine lv_istore_n (lv' := [(2, .int v2_4_2), (1, .int 0), (0, .ref (ad 22))]) hx hb dX1_setMinutes_33 rfl hl (by decide) rfl (fun ls hl => ?_)
        obtain ⟨n_34, h⟩ := h
        have loop_34 : ∀ (n_34 : Nat) (v1_34 : Int32) (v2_34 : Int32) (x_34 : ST) (H : Heap) (locs : List Loc) (ls : Array Slot), Hd D (AW ad) (Wd ad cy x_34 y) s H locs → lv_has ls 3 [(0, .ref (ad 22)), (1, .int v1_34), (2, .int v2_34)] → it (fun (_ : Int32) (_ : Int32) (_ : ST) => False) (FX1_setMinutes_34 K) n_34 v1_34 v2_34 x_34 → W p l e (headSpec (Cond.code yX1_setMinutes cX1_setMinutes 3 none :: WL) ({ frames := 1, cells := 0, slots := 0, locals := 22 } : Room)).room s m ([Value.ref (ad 22)] : List Value).toArray below meth c H locs 0 0 (MQ below (va_Qv K (QW D (fun z => Wd ad cy z y)) (AW ad)) ([Value.ref (ad 22)] : List Value).toArray s 0 0 (AW ad)) (F0 m 34 ls []) := by
          intro n_34
          induction n_34 with
          | zero => intro v1_34 v2_34 x_34 H locs ls hH hl h; exact False.elim h
          | succ n_34 ih34 =>
            intro v1_34 v2_34 x_34 H locs ls hH hl h
            refine lv_iload_n hx hb dX1_setMinutes_34 rfl (lv_at hl 2 rfl) ?_
            refine lv_aload_n hx hb dX1_setMinutes_35 rfl (lv_at hl 0 rfl) ?_
            refine gf_18 B hH wk1_179 dX1_setMinutes_36 ?_
            refine lv_icmp_lt (tgt := 55) hx hb dX1_setMinutes_39 (by decide) (fun c34_1 => ?_) (fun c34_1 => ?_)
            · replace h := h.1 c34_1
              exact xret_v hx hb hr hlocks hH h dX1_setMinutes_55
            · replace h := h.2 c34_1
              refine lv_aload_n hx hb dX1_setMinutes_42 rfl (lv_at hl 0 rfl) ?_
              refine lv_iload_n hx hb dX1_setMinutes_43 rfl (lv_at hl 1 rfl) ?_
              refine lv_iload_n hx hb dX1_setMinutes_44 rfl (lv_at hl 2 rfl) ?_
              refine xVi (Wf := (fun z => Wd ad cy z y)) (n := 2) (P := 22) (ci := 1) (As := [.int v1_34, .int v2_34]) (rest := []) B hH hO (kX1_carryFrom l hO.1 v1_34 v2_34 _ x_34 y h) rfl rfl wk2_184 wk2_186 wkp_9 wk1_6 wk2_187 (by decide +kernel) rfl ⟨rfl, rfl⟩ ⟨Nat.le_of_ble_eq_true rfl, Nat.le_of_ble_eq_true rfl⟩ ⟨Nat.zero_le _, Nat.zero_le _⟩ hl.1 rfl (Nat.le_of_ble_eq_true rfl) dX1_setMinutes_45 (fun r34_2 x34_2 H locs h hH => ?_)
              replace hH : Hd D (AW ad) (Wd ad cy x34_2 y) s H locs := hH
              refine lv_istore_n (lv' := [(1, .int r34_2), (0, .ref (ad 22)), (2, .int v2_34)]) hx hb dX1_setMinutes_48 rfl hl (by decide) rfl (fun ls hl => ?_)
              obtain ⟨v2_34_3, e34_3⟩ : ∃ z : Int32, z = v2_34 + (-1) := ⟨_, rfl⟩
              replace h := h v2_34_3 e34_3
              refine lv_iinc (v := v2_34_3) (lv' := [(2, .int v2_34_3), (1, .int r34_2), (0, .ref (ad 22))]) hx hb dX1_setMinutes_49 hl (k := 2) rfl (by rw [e34_3]; first | rfl | done) (by decide) rfl (fun ls hl => ?_)
              refine lv_goto (tgt := 34) hx hb dX1_setMinutes_52 (by decide) ?_
              exact ih34 r34_2 v2_34_3 x34_2 _ _ _ hH (lv_sub hl [2, 1, 0] rfl) h
        exact loop_34 n_34 0 v2_4_2 x_4 _ _ _ hH (lv_sub hl [2, 1, 0] rfl) h
      · replace h := h.2 c4_1
        refine lv_aload_n hx hb dX1_setMinutes_12 rfl (lv_at hl 0 rfl) ?_
        refine lv_iload_n hx hb dX1_setMinutes_13 rfl (lv_at hl 1 rfl) ?_
        refine lv_iload_n hx hb dX1_setMinutes_14 rfl (lv_at hl 2 rfl) ?_
        refine xVi (Wf := (fun z => Wd ad cy z y)) (n := 2) (P := 22) (ci := 1) (As := [.int v1_4, .int v2_4]) (rest := []) B hH hO (kX1_carryFrom l hO.1 v1_4 v2_4 _ x_4 y h) rfl rfl wk2_184 wk2_186 wkp_9 wk1_6 wk2_187 (by decide +kernel) rfl ⟨rfl, rfl⟩ ⟨Nat.le_of_ble_eq_true rfl, Nat.le_of_ble_eq_true rfl⟩ ⟨Nat.zero_le _, Nat.zero_le _⟩ hl.1 rfl (Nat.le_of_ble_eq_true rfl) dX1_setMinutes_15 (fun r4_3 x4_3 H locs h hH => ?_)
        replace hH : Hd D (AW ad) (Wd ad cy x4_3 y) s H locs := hH
        refine lv_istore_n (lv' := [(1, .int r4_3), (0, .ref (ad 22)), (2, .int v2_4)]) hx hb dX1_setMinutes_18 rfl hl (by decide) rfl (fun ls hl => ?_)
        obtain ⟨v2_4_4, e4_4⟩ : ∃ z : Int32, z = v2_4 + 1 := ⟨_, rfl⟩
        replace h := h v2_4_4 e4_4
        refine lv_iinc (v := v2_4_4) (lv' := [(2, .int v2_4_4), (1, .int r4_3), (0, .ref (ad 22))]) hx hb dX1_setMinutes_19 hl (k := 2) rfl (by rw [e4_4]; first | rfl | done) (by decide) rfl (fun ls hl => ?_)
        refine lv_goto (tgt := 4) hx hb dX1_setMinutes_22 (by decide) ?_
        exact ih4 r4_3 v2_4_4 x4_3 _ _ _ hH (lv_sub hl [2, 1, 0] rfl) h
  exact loop_4 n_4 0 0 x _ _ _ hH (lv_sub hl [2, 1, 0] rfl) h
set_option maxHeartbeats 4000000 in
set_option maxRecDepth 100000 in
theorem kX1_meet (l : Launch) {D : va_G} {cy : Nat → ClassId} {ad : Nat → Nat} (hI : AdI ad) (K : ST → Prop) (x y : ST) (h : wX1_meet K x) : Met l yX1_meet (Cond.code yX1_meet cX1_meet 5 none :: WL) ({ frames := 2, cells := 0, slots := 0, locals := 44 } : Room) (va_Pc [.ref (ad 22)] (PW D cy ad x y)) (va_Qv K (QW D (fun z => Wd ad cy z y)) (AW ad)) 0 0 (AW ad) := by
  refine Met.ofW (cc := cX1_meet) (maxL := 5) (ret := none) (by decide) rfl ?_
  intro p e s m args below meth c s₁ B0 hml hv
  obtain ⟨rfl, hP, hK, hN⟩ := hv
  have hr := B0.returns
  have hlocks := B0.notSynchronized
  have hts := atoms_spec (ws := (Cond.code yX1_meet cX1_meet 5 none :: WL)) B0.pre
  have B : Bd p s m ([Value.ref (ad 22)] : List Value).toArray c cX1_meet 5 RX1 D cy := ⟨B0.exec, B0.bytes, hml, findClass_of_methodNamed B0.named, fun w hw => hts w (List.mem_cons_of_mem _ hw), hK, hN⟩
  have hx := B0.exec
  have hb := B0.bytes
  have hO : AdOk ad (AW ad) := hI.self
  have hH : Hd D (AW ad) (Wd ad cy x y) s s.heap [] := ⟨hP, va_S.rf⟩
  have hl := lv_entry ([.ref (ad 22)]) (n := 5) (Nat.le_of_ble_eq_true rfl)
  rw [lg_entry_eq]
  generalize (lg_sl ([.ref (ad 22)]) ++ List.replicate (5 - (lg_sl ([.ref (ad 22)])).length) Slot.unset).toArray = ls at hl ⊢
  have hl : lv_has ls 5 [(0, .ref (ad 22))] := hl
  unfold wX1_meet at h
  refine lv_iconst (v := 0) hx hb dX1_meet_0 (by decide) ?_
  refine lv_istore_n (lv' := [(1, .int 0), (0, .ref (ad 22))]) hx hb dX1_meet_1 rfl hl (by decide) rfl (fun ls hl => ?_)
  refine lv_iconst (v := 0) hx hb dX1_meet_2 (by decide) ?_
  refine lv_istore_n (lv' := [(2, .int 0), (1, .int 0), (0, .ref (ad 22))]) hx hb dX1_meet_3 rfl hl (by decide) rfl (fun ls hl => ?_)
  obtain ⟨n_4, h⟩ := h
  have loop_4 : ∀ (n_4 : Nat) (v1_4 : Int32) (v2_4 : Int32) (x_4 : ST) (H : Heap) (locs : List Loc) (ls : Array Slot), Hd D (AW ad) (Wd ad cy x_4 y) s H locs → lv_has ls 5 [(0, .ref (ad 22)), (1, .int v1_4), (2, .int v2_4)] → it (fun (_ : Int32) (_ : Int32) (_ : ST) => False) (FX1_meet_4 K) n_4 v1_4 v2_4 x_4 → W p l e (headSpec (Cond.code yX1_meet cX1_meet 5 none :: WL) ({ frames := 2, cells := 0, slots := 0, locals := 44 } : Room)).room s m ([Value.ref (ad 22)] : List Value).toArray below meth c H locs 0 0 (MQ below (va_Qv K (QW D (fun z => Wd ad cy z y)) (AW ad)) ([Value.ref (ad 22)] : List Value).toArray s 0 0 (AW ad)) (F0 m 4 ls []) := by
    intro n_4
    induction n_4 with
    | zero => intro v1_4 v2_4 x_4 H locs ls hH hl h; exact False.elim h
    | succ n_4 ih4 =>
      intro v1_4 v2_4 x_4 H locs ls hH hl h
      refine lv_iload_n hx hb dX1_meet_4 rfl (lv_at hl 2 rfl) ?_
      refine lv_aload_n hx hb dX1_meet_5 rfl (lv_at hl 0 rfl) ?_
      refine gf_17 B hH wk1_177 dX1_meet_6 ?_
      refine lv_icmp_ge (tgt := 32) hx hb dX1_meet_9 (by decide) (fun c4_1 => ?_) (fun c4_1 => ?_)
      · replace h := h.1 c4_1
        refine lv_aload_n hx hb dX1_meet_32 rfl (lv_at hl 0 rfl) ?_
        refine lv_iconst (v := 0) hx hb dX1_meet_33 (by decide) ?_
        refine pf_18 B hH hO wk1_179 dX1_meet_34 (fun x4_2 e4_2 H locs hH => ?_)
        replace h := h x4_2 e4_2
        refine lv_aload_n hx hb dX1_meet_37 rfl (lv_at hl 0 rfl) ?_
        refine lv_iload_n hx hb dX1_meet_38 rfl (lv_at hl 1 rfl) ?_
        refine pf_19 B hH hO wk1_181 dX1_meet_39 (fun x4_3 e4_3 H locs hH => ?_)
        replace h := h x4_3 e4_3
        refine lv_iconst (v := 0) hx hb dX1_meet_42 (by decide) ?_
        refine lv_istore_n (lv' := [(2, .int 0), (0, .ref (ad 22)), (1, .int v1_4)]) hx hb dX1_meet_43 rfl hl (by decide) rfl (fun ls hl => ?_)
        refine lv_iconst (v := 0) hx hb dX1_meet_44 (by decide) ?_
        refine lv_istore_n (lv' := [(3, .int 0), (2, .int 0), (0, .ref (ad 22)), (1, .int v1_4)]) hx hb dX1_meet_45 rfl hl (by decide) rfl (fun ls hl => ?_)
        obtain ⟨n_46, h⟩ := h
        have loop_46 : ∀ (f1_46 : Int32) (n_46 : Nat) (v2_46 : Int32) (v3_46 : Int32) (x_46 : ST) (H : Heap) (locs : List Loc) (ls : Array Slot), Hd D (AW ad) (Wd ad cy x_46 y) s H locs → lv_has ls 5 [(0, .ref (ad 22)), (1, .int f1_46), (2, .int v2_46), (3, .int v3_46)] → it (fun (_ : Int32) (_ : Int32) (_ : ST) => False) (FX1_meet_46 K f1_46) n_46 v2_46 v3_46 x_46 → W p l e (headSpec (Cond.code yX1_meet cX1_meet 5 none :: WL) ({ frames := 2, cells := 0, slots := 0, locals := 44 } : Room)).room s m ([Value.ref (ad 22)] : List Value).toArray below meth c H locs 0 0 (MQ below (va_Qv K (QW D (fun z => Wd ad cy z y)) (AW ad)) ([Value.ref (ad 22)] : List Value).toArray s 0 0 (AW ad)) (F0 m 46 ls []) := by
          intro f1_46 n_46
          induction n_46 with
          | zero => intro v2_46 v3_46 x_46 H locs ls hH hl h; exact False.elim h
          | succ n_46 ih46 =>
            intro v2_46 v3_46 x_46 H locs ls hH hl h
            refine lv_iload_n hx hb dX1_meet_46 rfl (lv_at hl 3 rfl) ?_
            refine lv_aload_n hx hb dX1_meet_47 rfl (lv_at hl 0 rfl) ?_
            refine gf_17 B hH wk1_177 dX1_meet_48 ?_
            refine lv_icmp_ge (tgt := 105) hx hb dX1_meet_51 (by decide) (fun c46_1 => ?_) (fun c46_1 => ?_)
            · replace h := h.1 c46_1
              refine lv_aload_n hx hb dX1_meet_105 rfl (lv_at hl 0 rfl) ?_
              refine xVv (Wf := (fun z => Wd ad cy z y)) (n := 0) (P := 22) (ci := 1) (As := []) (rest := []) B hH hO (kX1_setMinutes l hO.1 _ x_46 y h) rfl rfl wk2_180 wk2_182 wkp_8 wk1_6 wk2_183 (by decide +kernel) rfl ⟨rfl, rfl⟩ ⟨Nat.le_of_ble_eq_true rfl, Nat.le_of_ble_eq_true rfl⟩ ⟨Nat.zero_le _, Nat.zero_le _⟩ hl.1 rfl (Nat.le_of_ble_eq_true rfl) dX1_meet_106 (fun x46_2 H locs h hH => ?_)
              replace hH : Hd D (AW ad) (Wd ad cy x46_2 y) s H locs := hH
              exact xret_v hx hb hr hlocks hH h dX1_meet_109
            · replace h := h.2 c46_1
              refine lv_iload_n hx hb dX1_meet_54 rfl (lv_at hl 2 rfl) ?_
              refine lv_aload_n hx hb dX1_meet_55 rfl (lv_at hl 0 rfl) ?_
              refine gr_23 B hH wk1_161 dX1_meet_56 ?_
              refine lv_aload_n hx hb dX1_meet_59 rfl (lv_at hl 0 rfl) ?_
              refine gr_26 B hH wk1_167 dX1_meet_60 ?_
              refine lv_iload_n hx hb dX1_meet_63 rfl (lv_at hl 3 rfl) ?_
              obtain ⟨b46_3, h⟩ := h
              refine ald_26 B hH b46_3 dX1_meet_64 ?_
              obtain ⟨b46_4, h⟩ := h
              refine ald_23 B hH b46_4 dX1_meet_65 ?_
              refine lv_iadd hx hb dX1_meet_66 ?_
              refine lv_topi (fun v2_46_5 e46_5 => ?_)
              replace h := h v2_46_5 e46_5
              refine lv_istore_n (lv' := [(2, .int v2_46_5), (0, .ref (ad 22)), (1, .int f1_46), (3, .int v3_46)]) hx hb dX1_meet_67 rfl hl (by decide) rfl (fun ls hl => ?_)
              refine lv_iload_n hx hb dX1_meet_68 rfl (lv_at hl 0 rfl) ?_
              refine lv_iload_n hx hb dX1_meet_69 rfl (lv_at hl 2 rfl) ?_
              refine lv_iload_n hx hb dX1_meet_70 rfl (lv_at hl 0 rfl) ?_
              refine lv_isub hx hb dX1_meet_71 ?_
              refine va_mmax hx hb (B.2.2.1.trans hl.1.symm) B.2.2.2.1 (B.2.2.2.2.1 _ wk2_177) (B.2.2.2.2.1 _ wk2_178) (B.2.2.2.2.1 _ wk1_9) (B.2.2.2.2.1 _ wk2_179) (Nat.le_of_ble_eq_true rfl) (Nat.le_of_ble_eq_true rfl) (Nat.zero_le _) (Nat.zero_le _) dX1_meet_72 ?_
              refine lv_topi (fun v4_46_6 e46_6 => ?_)
              replace h := h v4_46_6 e46_6
              refine lv_istore (lv' := [(4, .int v4_46_6), (2, .int v2_46_5), (0, .ref (ad 22)), (1, .int f1_46), (3, .int v3_46)]) hx hb dX1_meet_75 hl (by decide) rfl (fun ls hl => ?_)
              refine lv_iload hx hb dX1_meet_77 (lv_at hl 0 rfl) ?_
              refine lv_aload_n hx hb dX1_meet_79 rfl (lv_at hl 2 rfl) ?_
              refine gf_19 B hH wk1_181 dX1_meet_80 ?_
              refine lv_icmp_ge (tgt := 99) hx hb dX1_meet_83 (by decide) (fun c46_7 => ?_) (fun c46_7 => ?_)
              · replace h := h.1 c46_7
                obtain ⟨v3_46_8, e46_8⟩ : ∃ z : Int32, z = v3_46 + 1 := ⟨_, rfl⟩
                replace h := h v3_46_8 e46_8
                refine lv_iinc (v := v3_46_8) (lv' := [(3, .int v3_46_8), (4, .int v4_46_6), (2, .int v2_46_5), (0, .ref (ad 22)), (1, .int f1_46)]) hx hb dX1_meet_99 hl (k := 4) rfl (by rw [e46_8]; first | rfl | done) (by decide) rfl (fun ls hl => ?_)
                refine lv_goto (tgt := 46) hx hb dX1_meet_102 (by decide) ?_
                exact ih46 v2_46_5 v3_46_8 x_46 _ _ _ hH (lv_sub hl [3, 4, 2, 0] rfl) h
              · replace h := h.2 c46_7
                refine lv_aload_n hx hb dX1_meet_86 rfl (lv_at hl 2 rfl) ?_
                refine lv_iload_n hx hb dX1_meet_87 rfl (lv_at hl 4 rfl) ?_
                refine lv_iconst (v := 1) hx hb dX1_meet_88 (by decide) ?_
                refine lv_iadd hx hb dX1_meet_89 ?_
                refine pf_18 B hH hO wk1_179 dX1_meet_90 (fun x46_9 e46_9 H locs hH => ?_)
                replace h := h x46_9 e46_9
                refine lv_aload_n hx hb dX1_meet_93 rfl (lv_at hl 2 rfl) ?_
                refine lv_iload hx hb dX1_meet_94 (lv_at hl 0 rfl) ?_
                refine pf_19 B hH hO wk1_181 dX1_meet_96 (fun x46_10 e46_10 H locs hH => ?_)
                replace h := h x46_10 e46_10
                obtain ⟨v3_46_11, e46_11⟩ : ∃ z : Int32, z = v3_46 + 1 := ⟨_, rfl⟩
                replace h := h v3_46_11 e46_11
                refine lv_iinc (v := v3_46_11) (lv' := [(3, .int v3_46_11), (4, .int v4_46_6), (2, .int v2_46_5), (0, .ref (ad 22)), (1, .int f1_46)]) hx hb dX1_meet_99 hl (k := 4) rfl (by rw [e46_11]; first | rfl | done) (by decide) rfl (fun ls hl => ?_)
                refine lv_goto (tgt := 46) hx hb dX1_meet_102 (by decide) ?_
                exact ih46 v2_46_5 v3_46_11 x46_10 _ _ _ hH (lv_sub hl [3, 4, 2, 0] rfl) h
        exact loop_46 v1_4 n_46 0 0 x4_3 _ _ _ hH (lv_sub hl [2, 3, 1, 0] rfl) h
      · replace h := h.2 c4_1
        refine lv_iload_n hx hb dX1_meet_12 rfl (lv_at hl 1 rfl) ?_
        refine lv_aload_n hx hb dX1_meet_13 rfl (lv_at hl 0 rfl) ?_
        refine gr_23 B hH wk1_161 dX1_meet_14 ?_
        refine lv_aload_n hx hb dX1_meet_17 rfl (lv_at hl 0 rfl) ?_
        refine gr_26 B hH wk1_167 dX1_meet_18 ?_
        refine lv_iload_n hx hb dX1_meet_21 rfl (lv_at hl 2 rfl) ?_
        obtain ⟨b4_4, h⟩ := h
        refine ald_26 B hH b4_4 dX1_meet_22 ?_
        obtain ⟨b4_5, h⟩ := h
        refine ald_23 B hH b4_5 dX1_meet_23 ?_
        refine lv_iadd hx hb dX1_meet_24 ?_
        refine lv_topi (fun v1_4_6 e4_6 => ?_)
        replace h := h v1_4_6 e4_6
        refine lv_istore_n (lv' := [(1, .int v1_4_6), (0, .ref (ad 22)), (2, .int v2_4)]) hx hb dX1_meet_25 rfl hl (by decide) rfl (fun ls hl => ?_)
        obtain ⟨v2_4_7, e4_7⟩ : ∃ z : Int32, z = v2_4 + 1 := ⟨_, rfl⟩
        replace h := h v2_4_7 e4_7
        refine lv_iinc (v := v2_4_7) (lv' := [(2, .int v2_4_7), (1, .int v1_4_6), (0, .ref (ad 22))]) hx hb dX1_meet_26 hl (k := 2) rfl (by rw [e4_7]; first | rfl | done) (by decide) rfl (fun ls hl => ?_)
        refine lv_goto (tgt := 4) hx hb dX1_meet_29 (by decide) ?_
        exact ih4 v1_4_6 v2_4_7 x_4 _ _ _ hH (lv_sub hl [2, 1, 0] rfl) h
  exact loop_4 n_4 0 0 x _ _ _ hH (lv_sub hl [2, 1, 0] rfl) h
set_option maxHeartbeats 4000000 in
set_option maxRecDepth 100000 in
theorem kX1_stageOf (l : Launch) {D : va_G} {cy : Nat → ClassId} {ad : Nat → Nat} (hI : AdI ad) (a1 : Int32) (a2 : Int32) (K : Int32 → ST → Prop) (x y : ST) (h : wX1_stageOf a1 a2 K x) : Met l yX1_stageOf (Cond.code yX1_stageOf cX1_stageOf 4 (some .int) :: WL) ({ frames := 0, cells := 0, slots := 0, locals := 0 } : Room) (va_Pc [.ref (ad 22), .int a1, .int a2] (PW D cy ad x y)) (va_Qi K (QW D (fun z => Wd ad cy z y)) (AW ad)) 0 0 (AW ad) := by
  refine Met.ofW (cc := cX1_stageOf) (maxL := 4) (ret := (some .int)) (by decide) rfl ?_
  intro p e s m args below meth c s₁ B0 hml hv
  obtain ⟨rfl, hP, hK, hN⟩ := hv
  have hr := B0.returns
  have hlocks := B0.notSynchronized
  have hts := atoms_spec (ws := (Cond.code yX1_stageOf cX1_stageOf 4 (some .int) :: WL)) B0.pre
  have B : Bd p s m ([Value.ref (ad 22), Value.int a1, Value.int a2] : List Value).toArray c cX1_stageOf 4 RX1 D cy := ⟨B0.exec, B0.bytes, hml, findClass_of_methodNamed B0.named, fun w hw => hts w (List.mem_cons_of_mem _ hw), hK, hN⟩
  have hx := B0.exec
  have hb := B0.bytes
  have hO : AdOk ad (AW ad) := hI.self
  have hH : Hd D (AW ad) (Wd ad cy x y) s s.heap [] := ⟨hP, va_S.rf⟩
  have hl := lv_entry ([.ref (ad 22), .int a1, .int a2]) (n := 4) (Nat.le_of_ble_eq_true rfl)
  rw [lg_entry_eq]
  generalize (lg_sl ([.ref (ad 22), .int a1, .int a2]) ++ List.replicate (4 - (lg_sl ([.ref (ad 22), .int a1, .int a2])).length) Slot.unset).toArray = ls at hl ⊢
  have hl : lv_has ls 4 [(0, .ref (ad 22)), (1, .int a1), (2, .int a2)] := hl
  unfold wX1_stageOf at h
  refine lv_aload_n hx hb dX1_stageOf_0 rfl (lv_at hl 0 rfl) ?_
  refine gr_29 B hH wk1_173 dX1_stageOf_1 ?_
  refine lv_iload_n hx hb dX1_stageOf_4 rfl (lv_at hl 1 rfl) ?_
  obtain ⟨b1, h⟩ := h
  refine ald_29 B hH b1 dX1_stageOf_5 ?_
  refine lv_topi (fun v3_2 e2 => ?_)
  replace h := h v3_2 e2
  refine lv_istore_n (lv' := [(3, .int v3_2), (0, .ref (ad 22)), (1, .int a1), (2, .int a2)]) hx hb dX1_stageOf_6 rfl hl (by decide) rfl (fun ls hl => ?_)
  refine lv_iload_n hx hb dX1_stageOf_7 rfl (lv_at hl 3 rfl) ?_
  refine lv_aload_n hx hb dX1_stageOf_8 rfl (lv_at hl 1 rfl) ?_
  refine gr_27 B hH wk1_169 dX1_stageOf_9 ?_
  refine lv_iload_n hx hb dX1_stageOf_12 rfl (lv_at hl 0 rfl) ?_
  obtain ⟨b3, h⟩ := h
  refine ald_27 B hH b3 dX1_stageOf_13 ?_
  refine lv_icmp_ge (tgt := 19) hx hb dX1_stageOf_14 (by decide) (fun c4 => ?_) (fun c4 => ?_)
  · replace h := h.1 c4
    refine lv_iload_n hx hb dX1_stageOf_19 rfl (lv_at hl 3 rfl) ?_
    refine lv_aload_n hx hb dX1_stageOf_20 rfl (lv_at hl 1 rfl) ?_
    refine gr_28 B hH wk1_171 dX1_stageOf_21 ?_
    refine lv_iload_n hx hb dX1_stageOf_24 rfl (lv_at hl 0 rfl) ?_
    refine ald_28 B hH b3 dX1_stageOf_25 ?_
    refine lv_icmp_ge (tgt := 33) hx hb dX1_stageOf_26 (by decide) (fun c5 => ?_) (fun c5 => ?_)
    · replace h := h.1 c5
      refine lv_iconst (v := 2) hx hb dX1_stageOf_33 (by decide) ?_
      exact xret_i hx hb hr hlocks hH h dX1_stageOf_34
    · replace h := h.2 c5
      refine lv_iconst (v := 1) hx hb dX1_stageOf_29 (by decide) ?_
      refine lv_goto (tgt := 34) hx hb dX1_stageOf_30 (by decide) ?_
      exact xret_i hx hb hr hlocks hH h dX1_stageOf_34
  · replace h := h.2 c4
    refine lv_iconst (v := 0) hx hb dX1_stageOf_17 (by decide) ?_
    exact xret_i hx hb hr hlocks hH h dX1_stageOf_18
set_option maxHeartbeats 4000000 in
set_option maxRecDepth 100000 in
theorem kX1_readerHas (l : Launch) {D : va_G} {cy : Nat → ClassId} {ad : Nat → Nat} (hI : AdI ad) (a1 : Int32) (a2 : Int32) (K : Int32 → ST → Prop) (x y : ST) (h : wX1_readerHas a1 a2 K x) : Met l yX1_readerHas (Cond.code yX1_readerHas cX1_readerHas 5 (some .int) :: WL) ({ frames := 0, cells := 0, slots := 0, locals := 0 } : Room) (va_Pc [.ref (ad 22), .int a1, .int a2] (PW D cy ad x y)) (va_Qi K (QW D (fun z => Wd ad cy z y)) (AW ad)) 0 0 (AW ad) := by
  refine Met.ofW (cc := cX1_readerHas) (maxL := 5) (ret := (some .int)) (by decide) rfl ?_
  intro p e s m args below meth c s₁ B0 hml hv
  obtain ⟨rfl, hP, hK, hN⟩ := hv
  have hr := B0.returns
  have hlocks := B0.notSynchronized
  have hts := atoms_spec (ws := (Cond.code yX1_readerHas cX1_readerHas 5 (some .int) :: WL)) B0.pre
  have B : Bd p s m ([Value.ref (ad 22), Value.int a1, Value.int a2] : List Value).toArray c cX1_readerHas 5 RX1 D cy := ⟨B0.exec, B0.bytes, hml, findClass_of_methodNamed B0.named, fun w hw => hts w (List.mem_cons_of_mem _ hw), hK, hN⟩
  have hx := B0.exec
  have hb := B0.bytes
  have hO : AdOk ad (AW ad) := hI.self
  have hH : Hd D (AW ad) (Wd ad cy x y) s s.heap [] := ⟨hP, va_S.rf⟩
  have hl := lv_entry ([.ref (ad 22), .int a1, .int a2]) (n := 5) (Nat.le_of_ble_eq_true rfl)
  rw [lg_entry_eq]
  generalize (lg_sl ([.ref (ad 22), .int a1, .int a2]) ++ List.replicate (5 - (lg_sl ([.ref (ad 22), .int a1, .int a2])).length) Slot.unset).toArray = ls at hl ⊢
  have hl : lv_has ls 5 [(0, .ref (ad 22)), (1, .int a1), (2, .int a2)] := hl
  unfold wX1_readerHas at h
  refine lv_aload_n hx hb dX1_readerHas_0 rfl (lv_at hl 0 rfl) ?_
  refine gr_29 B hH wk1_173 dX1_readerHas_1 ?_
  refine lv_iload_n hx hb dX1_readerHas_4 rfl (lv_at hl 1 rfl) ?_
  obtain ⟨b1, h⟩ := h
  refine ald_29 B hH b1 dX1_readerHas_5 ?_
  refine lv_topi (fun v3_2 e2 => ?_)
  replace h := h v3_2 e2
  refine lv_istore_n (lv' := [(3, .int v3_2), (0, .ref (ad 22)), (1, .int a1), (2, .int a2)]) hx hb dX1_readerHas_6 rfl hl (by decide) rfl (fun ls hl => ?_)
  refine lv_iload_n hx hb dX1_readerHas_7 rfl (lv_at hl 3 rfl) ?_
  refine lv_aload_n hx hb dX1_readerHas_8 rfl (lv_at hl 1 rfl) ?_
  refine gr_28 B hH wk1_171 dX1_readerHas_9 ?_
  refine lv_iload_n hx hb dX1_readerHas_12 rfl (lv_at hl 0 rfl) ?_
  obtain ⟨b3, h⟩ := h
  refine ald_28 B hH b3 dX1_readerHas_13 ?_
  refine lv_icmp_lt (tgt := 19) hx hb dX1_readerHas_14 (by decide) (fun c4 => ?_) (fun c4 => ?_)
  · replace h := h.1 c4
    refine lv_iload_n hx hb dX1_readerHas_19 rfl (lv_at hl 3 rfl) ?_
    refine lv_aload_n hx hb dX1_readerHas_20 rfl (lv_at hl 1 rfl) ?_
    refine gr_23 B hH wk1_161 dX1_readerHas_21 ?_
    refine lv_aload_n hx hb dX1_readerHas_24 rfl (lv_at hl 1 rfl) ?_
    refine gr_26 B hH wk1_167 dX1_readerHas_25 ?_
    refine lv_iload_n hx hb dX1_readerHas_28 rfl (lv_at hl 0 rfl) ?_
    refine ald_26 B hH b3 dX1_readerHas_29 ?_
    obtain ⟨b5, h⟩ := h
    refine ald_23 B hH b5 dX1_readerHas_30 ?_
    refine lv_iadd hx hb dX1_readerHas_31 ?_
    refine lv_topi (fun v4_6 e6 => ?_)
    replace h := h v4_6 e6
    refine lv_istore (lv' := [(4, .int v4_6), (3, .int v3_2), (0, .ref (ad 22)), (1, .int a1), (2, .int a2)]) hx hb dX1_readerHas_32 hl (by decide) rfl (fun ls hl => ?_)
    refine lv_iload hx hb dX1_readerHas_34 (lv_at hl 0 rfl) ?_
    refine lv_aload_n hx hb dX1_readerHas_36 rfl (lv_at hl 2 rfl) ?_
    refine gr_27 B hH wk1_169 dX1_readerHas_37 ?_
    refine lv_iload_n hx hb dX1_readerHas_40 rfl (lv_at hl 1 rfl) ?_
    refine ald_27 B hH b3 dX1_readerHas_41 ?_
    refine lv_icmp_gt (tgt := 50) hx hb dX1_readerHas_42 (by decide) (fun c7 => ?_) (fun c7 => ?_)
    · replace h := h.1 c7
      refine lv_aload_n hx hb dX1_readerHas_50 rfl (lv_at hl 2 rfl) ?_
      refine gr_28 B hH wk1_171 dX1_readerHas_51 ?_
      refine lv_iload_n hx hb dX1_readerHas_54 rfl (lv_at hl 1 rfl) ?_
      refine ald_28 B hH b3 dX1_readerHas_55 ?_
      exact xret_i hx hb hr hlocks hH h dX1_readerHas_56
    · replace h := h.2 c7
      refine lv_iload hx hb dX1_readerHas_45 (lv_at hl 0 rfl) ?_
      refine lv_goto (tgt := 56) hx hb dX1_readerHas_47 (by decide) ?_
      exact xret_i hx hb hr hlocks hH h dX1_readerHas_56
  · replace h := h.2 c4
    refine lv_iload_n hx hb dX1_readerHas_17 rfl (lv_at hl 3 rfl) ?_
    exact xret_i hx hb hr hlocks hH h dX1_readerHas_18
set_option maxHeartbeats 4000000 in
set_option maxRecDepth 100000 in
theorem kX5_byteAt (l : Launch) {D : va_G} {cy : Nat → ClassId} {ad : Nat → Nat} (hI : AdI ad) (a1 : Int32) (K : Int32 → ST → Prop) (x y : ST) (h : wX5_byteAt a1 K x) : Met l yX5_byteAt (Cond.code yX5_byteAt cX5_byteAt 2 (some .int) :: WL) ({ frames := 1, cells := 0, slots := 0, locals := 22 } : Room) (va_Pc [.ref (ad 1), .int a1] (PW D cy ad x y)) (va_Qi K (QW D (fun z => Wd ad cy z y)) (AW ad)) 0 0 (AW ad) := by
  refine Met.ofW (cc := cX5_byteAt) (maxL := 2) (ret := (some .int)) (by decide) rfl ?_
  intro p e s m args below meth c s₁ B0 hml hv
  obtain ⟨rfl, hP, hK, hN⟩ := hv
  have hr := B0.returns
  have hlocks := B0.notSynchronized
  have hts := atoms_spec (ws := (Cond.code yX5_byteAt cX5_byteAt 2 (some .int) :: WL)) B0.pre
  have B : Bd p s m ([Value.ref (ad 1), Value.int a1] : List Value).toArray c cX5_byteAt 2 RX5 D cy := ⟨B0.exec, B0.bytes, hml, findClass_of_methodNamed B0.named, fun w hw => hts w (List.mem_cons_of_mem _ hw), hK, hN⟩
  have hx := B0.exec
  have hb := B0.bytes
  have hO : AdOk ad (AW ad) := hI.self
  have hH : Hd D (AW ad) (Wd ad cy x y) s s.heap [] := ⟨hP, va_S.rf⟩
  have hl := lv_entry ([.ref (ad 1), .int a1]) (n := 2) (Nat.le_of_ble_eq_true rfl)
  rw [lg_entry_eq]
  generalize (lg_sl ([.ref (ad 1), .int a1]) ++ List.replicate (2 - (lg_sl ([.ref (ad 1), .int a1])).length) Slot.unset).toArray = ls at hl ⊢
  have hl : lv_has ls 2 [(0, .ref (ad 1)), (1, .int a1)] := hl
  unfold wX5_byteAt at h
  refine lv_iload_n hx hb dX5_byteAt_0 rfl (lv_at hl 1 rfl) ?_
  refine lv_iconst (v := 0) hx hb dX5_byteAt_1 (by decide) ?_
  refine lv_aload_n hx hb dX5_byteAt_2 rfl (lv_at hl 0 rfl) ?_
  refine gf_3 B hH wk1_25 dX5_byteAt_3 ?_
  refine lv_iconst (v := 1) hx hb dX5_byteAt_6 (by decide) ?_
  refine lv_isub hx hb dX5_byteAt_7 ?_
  refine xNi (Wf := (fun z => Wd ad cy z y)) (n := 3) (As := [.int a1, .int 0, .int (((gI x 3) - 1))]) (rest := []) B hH hO (kX6_within l hO.1 a1 0 ((gI x 3) - 1) _ x y h) B.2.2.2.2.2.2.2.2 wk2_37 wk1_1 wk2_38 (by decide +kernel) rfl ⟨rfl, rfl⟩ ⟨Nat.le_of_ble_eq_true rfl, Nat.le_of_ble_eq_true rfl⟩ ⟨Nat.zero_le _, Nat.zero_le _⟩ hl.1 rfl (Nat.le_of_ble_eq_true rfl) dX5_byteAt_8 (fun r1 x1 H locs h hH => ?_)
  obtain ⟨h, hz1⟩ := h
  replace hH : Hd D (AW ad) (Wd ad cy x1 y) s H locs := hH
  refine lv_if_eq (tgt := 23) hx hb dX5_byteAt_11 (by decide) (fun c2 => ?_) (fun c2 => ?_)
  · replace h := h.1 c2
    refine lv_iconst (v := (-1)) hx hb dX5_byteAt_23 (by decide) ?_
    exact xret_i hx hb hr hlocks hH h dX5_byteAt_24
  · replace h := h.2 c2
    refine lv_aload_n hx hb dX5_byteAt_14 rfl (lv_at hl 0 rfl) ?_
    refine gr_2 B hH wk1_24 dX5_byteAt_15 ?_
    refine lv_iload_n hx hb dX5_byteAt_18 rfl (lv_at hl 1 rfl) ?_
    obtain ⟨b3, h⟩ := h
    refine ald_2 B hH b3 dX5_byteAt_19 ?_
    refine lv_goto (tgt := 24) hx hb dX5_byteAt_20 (by decide) ?_
    exact xret_i hx hb hr hlocks hH h dX5_byteAt_24
set_option maxHeartbeats 4000000 in
set_option maxRecDepth 100000 in
theorem kX5_digitAt (l : Launch) {D : va_G} {cy : Nat → ClassId} {ad : Nat → Nat} (hI : AdI ad) (a1 : Int32) (K : Int32 → ST → Prop) (x y : ST) (h : wX5_digitAt a1 K x) : Met l yX5_digitAt (Cond.code yX5_digitAt cX5_digitAt 2 (some .boolean) :: WL) ({ frames := 2, cells := 0, slots := 0, locals := 43 } : Room) (va_Pc [.ref (ad 1), .int a1] (PW D cy ad x y)) (va_Qi (fun r z => K r z ∧ (r = 0 ∨ r = 1)) (QW D (fun z => Wd ad cy z y)) (AW ad)) 0 0 (AW ad) := by
  refine Met.ofW (cc := cX5_digitAt) (maxL := 2) (ret := (some .boolean)) (by decide) rfl ?_
  intro p e s m args below meth c s₁ B0 hml hv
  obtain ⟨rfl, hP, hK, hN⟩ := hv
  have hr := B0.returns
  have hlocks := B0.notSynchronized
  have hts := atoms_spec (ws := (Cond.code yX5_digitAt cX5_digitAt 2 (some .boolean) :: WL)) B0.pre
  have B : Bd p s m ([Value.ref (ad 1), Value.int a1] : List Value).toArray c cX5_digitAt 2 RX5 D cy := ⟨B0.exec, B0.bytes, hml, findClass_of_methodNamed B0.named, fun w hw => hts w (List.mem_cons_of_mem _ hw), hK, hN⟩
  have hx := B0.exec
  have hb := B0.bytes
  have hO : AdOk ad (AW ad) := hI.self
  have hH : Hd D (AW ad) (Wd ad cy x y) s s.heap [] := ⟨hP, va_S.rf⟩
  have hl := lv_entry ([.ref (ad 1), .int a1]) (n := 2) (Nat.le_of_ble_eq_true rfl)
  rw [lg_entry_eq]
  generalize (lg_sl ([.ref (ad 1), .int a1]) ++ List.replicate (2 - (lg_sl ([.ref (ad 1), .int a1])).length) Slot.unset).toArray = ls at hl ⊢
  have hl : lv_has ls 2 [(0, .ref (ad 1)), (1, .int a1)] := hl
  unfold wX5_digitAt at h
  refine lv_aload_n hx hb dX5_digitAt_0 rfl (lv_at hl 0 rfl) ?_
  refine lv_iload_n hx hb dX5_digitAt_1 rfl (lv_at hl 1 rfl) ?_
  refine xVi (Wf := (fun z => Wd ad cy z y)) (n := 1) (P := 1) (ci := 5) (As := [.int a1]) (rest := []) B hH hO (kX5_byteAt l hO.1 a1 _ x y h) rfl rfl wk2_54 wk2_55 wk2_56 wk1_2 wk2_57 (by decide +kernel) rfl ⟨rfl, rfl⟩ ⟨Nat.le_of_ble_eq_true rfl, Nat.le_of_ble_eq_true rfl⟩ ⟨Nat.zero_le _, Nat.zero_le _⟩ hl.1 rfl (Nat.le_of_ble_eq_true rfl) dX5_digitAt_2 (fun r1 x1 H locs h hH => ?_)
  replace hH : Hd D (AW ad) (Wd ad cy x1 y) s H locs := hH
  refine lv_bipush (v := 48) hx hb dX5_digitAt_5 (by decide) ?_
  refine lv_bipush (v := 57) hx hb dX5_digitAt_7 (by decide) ?_
  refine xNi (Wf := (fun z => Wd ad cy z y)) (n := 3) (As := [.int r1, .int 48, .int 57]) (rest := []) B hH hO (kX6_within l hO.1 r1 48 57 _ x1 y h) B.2.2.2.2.2.2.2.2 wk2_37 wk1_1 wk2_38 (by decide +kernel) rfl ⟨rfl, rfl⟩ ⟨Nat.le_of_ble_eq_true rfl, Nat.le_of_ble_eq_true rfl⟩ ⟨Nat.zero_le _, Nat.zero_le _⟩ hl.1 rfl (Nat.le_of_ble_eq_true rfl) dX5_digitAt_9 (fun r2 x2 H locs h hH => ?_)
  obtain ⟨h, hz2⟩ := h
  replace hH : Hd D (AW ad) (Wd ad cy x2 y) s H locs := hH
  exact xret_z hx hb hr hlocks hH hz2 h dX5_digitAt_12
set_option maxHeartbeats 4000000 in
set_option maxRecDepth 100000 in
theorem kX2_pastDigits (l : Launch) {D : va_G} {cy : Nat → ClassId} {ad : Nat → Nat} (hI : AdI ad) (a2 : Int32) (K : Int32 → ST → Prop) (x y : ST) (h : wX2_pastDigits a2 K x) : Met l yX2_pastDigits (Cond.code yX2_pastDigits cX2_pastDigits 3 (some .int) :: WL) ({ frames := 3, cells := 0, slots := 0, locals := 64 } : Room) (va_Pc [.ref (ad 1), .int a2] (PW D cy ad x y)) (va_Qi K (QW D (fun z => Wd ad cy z y)) (AW ad)) 0 0 (AW ad) := by
  refine Met.ofW (cc := cX2_pastDigits) (maxL := 3) (ret := (some .int)) (by decide) rfl ?_
  intro p e s m args below meth c s₁ B0 hml hv
  obtain ⟨rfl, hP, hK, hN⟩ := hv
  have hr := B0.returns
  have hlocks := B0.notSynchronized
  have hts := atoms_spec (ws := (Cond.code yX2_pastDigits cX2_pastDigits 3 (some .int) :: WL)) B0.pre
  have B : Bd p s m ([Value.ref (ad 1), Value.int a2] : List Value).toArray c cX2_pastDigits 3 RX2 D cy := ⟨B0.exec, B0.bytes, hml, findClass_of_methodNamed B0.named, fun w hw => hts w (List.mem_cons_of_mem _ hw), hK, hN⟩
  have hx := B0.exec
  have hb := B0.bytes
  have hO : AdOk ad (AW ad) := hI.self
  have hH : Hd D (AW ad) (Wd ad cy x y) s s.heap [] := ⟨hP, va_S.rf⟩
  have hl := lv_entry ([.ref (ad 1), .int a2]) (n := 3) (Nat.le_of_ble_eq_true rfl)
  rw [lg_entry_eq]
  generalize (lg_sl ([.ref (ad 1), .int a2]) ++ List.replicate (3 - (lg_sl ([.ref (ad 1), .int a2])).length) Slot.unset).toArray = ls at hl ⊢
  have hl : lv_has ls 3 [(0, .ref (ad 1)), (1, .int a2)] := hl
  unfold wX2_pastDigits at h
  refine lv_iload_n hx hb dX2_pastDigits_0 rfl (lv_at hl 1 rfl) ?_
  refine lv_istore_n (lv' := [(2, .int a2), (0, .ref (ad 1)), (1, .int a2)]) hx hb dX2_pastDigits_1 rfl hl (by decide) rfl (fun ls hl => ?_)
  obtain ⟨n_2, h⟩ := h
  have loop_2 : ∀ (n_2 : Nat) (v2_2 : Int32) (x_2 : ST) (H : Heap) (locs : List Loc) (ls : Array Slot), Hd D (AW ad) (Wd ad cy x_2 y) s H locs → lv_has ls 3 [(0, .ref (ad 1)), (1, .int a2), (2, .int v2_2)] → it (fun (_ : Int32) (_ : ST) => False) (FX2_pastDigits_2 a2 K) n_2 v2_2 x_2 → W p l e (headSpec (Cond.code yX2_pastDigits cX2_pastDigits 3 (some .int) :: WL) ({ frames := 3, cells := 0, slots := 0, locals := 64 } : Room)).room s m ([Value.ref (ad 1), Value.int a2] : List Value).toArray below meth c H locs 0 0 (MQ below (va_Qi K (QW D (fun z => Wd ad cy z y)) (AW ad)) ([Value.ref (ad 1), Value.int a2] : List Value).toArray s 0 0 (AW ad)) (F0 m 2 ls []) := by
    intro n_2
    induction n_2 with
    | zero => intro v2_2 x_2 H locs ls hH hl h; exact False.elim h
    | succ n_2 ih2 =>
      intro v2_2 x_2 H locs ls hH hl h
      refine lv_iload_n hx hb dX2_pastDigits_2 rfl (lv_at hl 2 rfl) ?_
      refine lv_iload_n hx hb dX2_pastDigits_3 rfl (lv_at hl 1 rfl) ?_
      refine lv_iconst (v := 4) hx hb dX2_pastDigits_4 (by decide) ?_
      refine lv_iadd hx hb dX2_pastDigits_5 ?_
      refine lv_icmp_ge (tgt := 23) hx hb dX2_pastDigits_6 (by decide) (fun c2_1 => ?_) (fun c2_1 => ?_)
      · replace h := h.1 c2_1
        refine lv_iload_n hx hb dX2_pastDigits_23 rfl (lv_at hl 2 rfl) ?_
        exact xret_i hx hb hr hlocks hH h dX2_pastDigits_24
      · replace h := h.2 c2_1
        refine lv_aload_n hx hb dX2_pastDigits_9 rfl (lv_at hl 0 rfl) ?_
        refine lv_iload_n hx hb dX2_pastDigits_10 rfl (lv_at hl 2 rfl) ?_
        refine xVi (Wf := (fun z => Wd ad cy z y)) (n := 1) (P := 1) (ci := 5) (As := [.int v2_2]) (rest := []) B hH hO (kX5_digitAt l hO.1 v2_2 _ x_2 y h) rfl rfl wk2_50 wk2_51 wk2_52 wk1_2 wk2_53 (by decide +kernel) rfl ⟨rfl, rfl⟩ ⟨Nat.le_of_ble_eq_true rfl, Nat.le_of_ble_eq_true rfl⟩ ⟨Nat.zero_le _, Nat.zero_le _⟩ hl.1 rfl (Nat.le_of_ble_eq_true rfl) dX2_pastDigits_11 (fun r2_2 x2_2 H locs h hH => ?_)
        obtain ⟨h, hz2_2⟩ := h
        replace hH : Hd D (AW ad) (Wd ad cy x2_2 y) s H locs := hH
        refine lv_if_eq (tgt := 23) hx hb dX2_pastDigits_14 (by decide) (fun c2_3 => ?_) (fun c2_3 => ?_)
        · replace h := h.1 c2_3
          refine lv_iload_n hx hb dX2_pastDigits_23 rfl (lv_at hl 2 rfl) ?_
          exact xret_i hx hb hr hlocks hH h dX2_pastDigits_24
        · replace h := h.2 c2_3
          obtain ⟨v2_2_4, e2_4⟩ : ∃ z : Int32, z = v2_2 + 1 := ⟨_, rfl⟩
          replace h := h v2_2_4 e2_4
          refine lv_iinc (v := v2_2_4) (lv' := [(2, .int v2_2_4), (0, .ref (ad 1)), (1, .int a2)]) hx hb dX2_pastDigits_17 hl (k := 2) rfl (by rw [e2_4]; first | rfl | done) (by decide) rfl (fun ls hl => ?_)
          refine lv_goto (tgt := 2) hx hb dX2_pastDigits_20 (by decide) ?_
          exact ih2 v2_2_4 x2_2 _ _ _ hH (lv_sub hl [1, 2, 0] rfl) h
  exact loop_2 n_2 a2 x _ _ _ hH (lv_sub hl [1, 2, 0] rfl) h
set_option maxHeartbeats 4000000 in
set_option maxRecDepth 100000 in
theorem kX2_valueOf (l : Launch) {D : va_G} {cy : Nat → ClassId} {ad : Nat → Nat} (hI : AdI ad) (a2 : Int32) (a3 : Int32) (K : Int32 → ST → Prop) (x y : ST) (h : wX2_valueOf a2 a3 K x) : Met l yX2_valueOf (Cond.code yX2_valueOf cX2_valueOf 5 (some .int) :: WL) ({ frames := 2, cells := 0, slots := 0, locals := 43 } : Room) (va_Pc [.ref (ad 1), .int a2, .int a3] (PW D cy ad x y)) (va_Qi K (QW D (fun z => Wd ad cy z y)) (AW ad)) 0 0 (AW ad) := by
  refine Met.ofW (cc := cX2_valueOf) (maxL := 5) (ret := (some .int)) (by decide) rfl ?_
  intro p e s m args below meth c s₁ B0 hml hv
  obtain ⟨rfl, hP, hK, hN⟩ := hv
  have hr := B0.returns
  have hlocks := B0.notSynchronized
  have hts := atoms_spec (ws := (Cond.code yX2_valueOf cX2_valueOf 5 (some .int) :: WL)) B0.pre
  have B : Bd p s m ([Value.ref (ad 1), Value.int a2, Value.int a3] : List Value).toArray c cX2_valueOf 5 RX2 D cy := ⟨B0.exec, B0.bytes, hml, findClass_of_methodNamed B0.named, fun w hw => hts w (List.mem_cons_of_mem _ hw), hK, hN⟩
  have hx := B0.exec
  have hb := B0.bytes
  have hO : AdOk ad (AW ad) := hI.self
  have hH : Hd D (AW ad) (Wd ad cy x y) s s.heap [] := ⟨hP, va_S.rf⟩
  have hl := lv_entry ([.ref (ad 1), .int a2, .int a3]) (n := 5) (Nat.le_of_ble_eq_true rfl)
  rw [lg_entry_eq]
  generalize (lg_sl ([.ref (ad 1), .int a2, .int a3]) ++ List.replicate (5 - (lg_sl ([.ref (ad 1), .int a2, .int a3])).length) Slot.unset).toArray = ls at hl ⊢
  have hl : lv_has ls 5 [(0, .ref (ad 1)), (1, .int a2), (2, .int a3)] := hl
  unfold wX2_valueOf at h
  refine lv_iconst (v := 0) hx hb dX2_valueOf_0 (by decide) ?_
  refine lv_istore_n (lv' := [(3, .int 0), (0, .ref (ad 1)), (1, .int a2), (2, .int a3)]) hx hb dX2_valueOf_1 rfl hl (by decide) rfl (fun ls hl => ?_)
  refine lv_iload_n hx hb dX2_valueOf_2 rfl (lv_at hl 2 rfl) ?_
  refine lv_istore (lv' := [(4, .int a2), (3, .int 0), (0, .ref (ad 1)), (1, .int a2), (2, .int a3)]) hx hb dX2_valueOf_3 hl (by decide) rfl (fun ls hl => ?_)
  obtain ⟨n_5, h⟩ := h
  have loop_5 : ∀ (n_5 : Nat) (v3_5 : Int32) (v4_5 : Int32) (x_5 : ST) (H : Heap) (locs : List Loc) (ls : Array Slot), Hd D (AW ad) (Wd ad cy x_5 y) s H locs → lv_has ls 5 [(0, .ref (ad 1)), (2, .int a3), (3, .int v3_5), (4, .int v4_5)] → it (fun (_ : Int32) (_ : Int32) (_ : ST) => False) (FX2_valueOf_5 a3 K) n_5 v3_5 v4_5 x_5 → W p l e (headSpec (Cond.code yX2_valueOf cX2_valueOf 5 (some .int) :: WL) ({ frames := 2, cells := 0, slots := 0, locals := 43 } : Room)).room s m ([Value.ref (ad 1), Value.int a2, Value.int a3] : List Value).toArray below meth c H locs 0 0 (MQ below (va_Qi K (QW D (fun z => Wd ad cy z y)) (AW ad)) ([Value.ref (ad 1), Value.int a2, Value.int a3] : List Value).toArray s 0 0 (AW ad)) (F0 m 5 ls []) := by
    intro n_5
    induction n_5 with
    | zero => intro v3_5 v4_5 x_5 H locs ls hH hl h; exact False.elim h
    | succ n_5 ih5 =>
      intro v3_5 v4_5 x_5 H locs ls hH hl h
      refine lv_iload hx hb dX2_valueOf_5 (lv_at hl 3 rfl) ?_
      refine lv_iload_n hx hb dX2_valueOf_7 rfl (lv_at hl 1 rfl) ?_
      refine lv_icmp_ge (tgt := 32) hx hb dX2_valueOf_8 (by decide) (fun c5_1 => ?_) (fun c5_1 => ?_)
      · replace h := h.1 c5_1
        refine lv_iload_n hx hb dX2_valueOf_32 rfl (lv_at hl 2 rfl) ?_
        exact xret_i hx hb hr hlocks hH h dX2_valueOf_33
      · replace h := h.2 c5_1
        refine lv_iload_n hx hb dX2_valueOf_11 rfl (lv_at hl 2 rfl) ?_
        refine lv_bipush (v := 10) hx hb dX2_valueOf_12 (by decide) ?_
        refine lv_imul hx hb dX2_valueOf_14 ?_
        refine lv_aload_n hx hb dX2_valueOf_15 rfl (lv_at hl 0 rfl) ?_
        refine lv_iload hx hb dX2_valueOf_16 (lv_at hl 3 rfl) ?_
        refine xVi (Wf := (fun z => Wd ad cy z y)) (n := 1) (P := 1) (ci := 5) (As := [.int v4_5]) (rest := [.int ((v3_5 * 10))]) B hH hO (kX5_byteAt l hO.1 v4_5 _ x_5 y h) rfl rfl wk2_62 wk2_55 wk2_56 wk1_2 wk2_57 (by decide +kernel) rfl ⟨rfl, rfl⟩ ⟨Nat.le_of_ble_eq_true rfl, Nat.le_of_ble_eq_true rfl⟩ ⟨Nat.zero_le _, Nat.zero_le _⟩ hl.1 rfl (Nat.le_of_ble_eq_true rfl) dX2_valueOf_18 (fun r5_2 x5_2 H locs h hH => ?_)
        replace hH : Hd D (AW ad) (Wd ad cy x5_2 y) s H locs := hH
        refine lv_iadd hx hb dX2_valueOf_21 ?_
        refine lv_bipush (v := 48) hx hb dX2_valueOf_22 (by decide) ?_
        refine lv_isub hx hb dX2_valueOf_24 ?_
        refine lv_topi (fun v3_5_3 e5_3 => ?_)
        replace h := h v3_5_3 e5_3
        refine lv_istore_n (lv' := [(3, .int v3_5_3), (0, .ref (ad 1)), (2, .int a3), (4, .int v4_5)]) hx hb dX2_valueOf_25 rfl hl (by decide) rfl (fun ls hl => ?_)
        obtain ⟨v4_5_4, e5_4⟩ : ∃ z : Int32, z = v4_5 + 1 := ⟨_, rfl⟩
        replace h := h v4_5_4 e5_4
        refine lv_iinc (v := v4_5_4) (lv' := [(4, .int v4_5_4), (3, .int v3_5_3), (0, .ref (ad 1)), (2, .int a3)]) hx hb dX2_valueOf_26 hl (k := 3) rfl (by rw [e5_4]; first | rfl | done) (by decide) rfl (fun ls hl => ?_)
        refine lv_goto (tgt := 5) hx hb dX2_valueOf_29 (by decide) ?_
        exact ih5 v3_5_3 v4_5_4 x5_2 _ _ _ hH (lv_sub hl [2, 3, 1, 0] rfl) h
  exact loop_5 n_5 0 a2 x _ _ _ hH (lv_sub hl [2, 4, 1, 0] rfl) h
set_option maxHeartbeats 4000000 in
set_option maxRecDepth 100000 in
theorem kX5_letterAt (l : Launch) {D : va_G} {cy : Nat → ClassId} {ad : Nat → Nat} (hI : AdI ad) (a1 : Int32) (K : Int32 → ST → Prop) (x y : ST) (h : wX5_letterAt a1 K x) : Met l yX5_letterAt (Cond.code yX5_letterAt cX5_letterAt 2 (some .boolean) :: WL) ({ frames := 2, cells := 0, slots := 0, locals := 43 } : Room) (va_Pc [.ref (ad 1), .int a1] (PW D cy ad x y)) (va_Qi (fun r z => K r z ∧ (r = 0 ∨ r = 1)) (QW D (fun z => Wd ad cy z y)) (AW ad)) 0 0 (AW ad) := by
  refine Met.ofW (cc := cX5_letterAt) (maxL := 2) (ret := (some .boolean)) (by decide) rfl ?_
  intro p e s m args below meth c s₁ B0 hml hv
  obtain ⟨rfl, hP, hK, hN⟩ := hv
  have hr := B0.returns
  have hlocks := B0.notSynchronized
  have hts := atoms_spec (ws := (Cond.code yX5_letterAt cX5_letterAt 2 (some .boolean) :: WL)) B0.pre
  have B : Bd p s m ([Value.ref (ad 1), Value.int a1] : List Value).toArray c cX5_letterAt 2 RX5 D cy := ⟨B0.exec, B0.bytes, hml, findClass_of_methodNamed B0.named, fun w hw => hts w (List.mem_cons_of_mem _ hw), hK, hN⟩
  have hx := B0.exec
  have hb := B0.bytes
  have hO : AdOk ad (AW ad) := hI.self
  have hH : Hd D (AW ad) (Wd ad cy x y) s s.heap [] := ⟨hP, va_S.rf⟩
  have hl := lv_entry ([.ref (ad 1), .int a1]) (n := 2) (Nat.le_of_ble_eq_true rfl)
  rw [lg_entry_eq]
  generalize (lg_sl ([.ref (ad 1), .int a1]) ++ List.replicate (2 - (lg_sl ([.ref (ad 1), .int a1])).length) Slot.unset).toArray = ls at hl ⊢
  have hl : lv_has ls 2 [(0, .ref (ad 1)), (1, .int a1)] := hl
  unfold wX5_letterAt at h
  refine lv_aload_n hx hb dX5_letterAt_0 rfl (lv_at hl 0 rfl) ?_
  refine lv_iload_n hx hb dX5_letterAt_1 rfl (lv_at hl 1 rfl) ?_
  refine xVi (Wf := (fun z => Wd ad cy z y)) (n := 1) (P := 1) (ci := 5) (As := [.int a1]) (rest := []) B hH hO (kX5_byteAt l hO.1 a1 _ x y h) rfl rfl wk2_54 wk2_55 wk2_56 wk1_2 wk2_57 (by decide +kernel) rfl ⟨rfl, rfl⟩ ⟨Nat.le_of_ble_eq_true rfl, Nat.le_of_ble_eq_true rfl⟩ ⟨Nat.zero_le _, Nat.zero_le _⟩ hl.1 rfl (Nat.le_of_ble_eq_true rfl) dX5_letterAt_2 (fun r1 x1 H locs h hH => ?_)
  replace hH : Hd D (AW ad) (Wd ad cy x1 y) s H locs := hH
  refine lv_bipush (v := 97) hx hb dX5_letterAt_5 (by decide) ?_
  refine lv_bipush (v := 122) hx hb dX5_letterAt_7 (by decide) ?_
  refine xNi (Wf := (fun z => Wd ad cy z y)) (n := 3) (As := [.int r1, .int 97, .int 122]) (rest := []) B hH hO (kX6_within l hO.1 r1 97 122 _ x1 y h) B.2.2.2.2.2.2.2.2 wk2_37 wk1_1 wk2_38 (by decide +kernel) rfl ⟨rfl, rfl⟩ ⟨Nat.le_of_ble_eq_true rfl, Nat.le_of_ble_eq_true rfl⟩ ⟨Nat.zero_le _, Nat.zero_le _⟩ hl.1 rfl (Nat.le_of_ble_eq_true rfl) dX5_letterAt_9 (fun r2 x2 H locs h hH => ?_)
  obtain ⟨h, hz2⟩ := h
  replace hH : Hd D (AW ad) (Wd ad cy x2 y) s H locs := hH
  exact xret_z hx hb hr hlocks hH hz2 h dX5_letterAt_12
set_option maxHeartbeats 4000000 in
set_option maxRecDepth 100000 in
theorem kX2_pastLetters (l : Launch) {D : va_G} {cy : Nat → ClassId} {ad : Nat → Nat} (hI : AdI ad) (a2 : Int32) (K : Int32 → ST → Prop) (x y : ST) (h : wX2_pastLetters a2 K x) : Met l yX2_pastLetters (Cond.code yX2_pastLetters cX2_pastLetters 3 (some .int) :: WL) ({ frames := 3, cells := 0, slots := 0, locals := 64 } : Room) (va_Pc [.ref (ad 1), .int a2] (PW D cy ad x y)) (va_Qi K (QW D (fun z => Wd ad cy z y)) (AW ad)) 0 0 (AW ad) := by
  refine Met.ofW (cc := cX2_pastLetters) (maxL := 3) (ret := (some .int)) (by decide) rfl ?_
  intro p e s m args below meth c s₁ B0 hml hv
  obtain ⟨rfl, hP, hK, hN⟩ := hv
  have hr := B0.returns
  have hlocks := B0.notSynchronized
  have hts := atoms_spec (ws := (Cond.code yX2_pastLetters cX2_pastLetters 3 (some .int) :: WL)) B0.pre
  have B : Bd p s m ([Value.ref (ad 1), Value.int a2] : List Value).toArray c cX2_pastLetters 3 RX2 D cy := ⟨B0.exec, B0.bytes, hml, findClass_of_methodNamed B0.named, fun w hw => hts w (List.mem_cons_of_mem _ hw), hK, hN⟩
  have hx := B0.exec
  have hb := B0.bytes
  have hO : AdOk ad (AW ad) := hI.self
  have hH : Hd D (AW ad) (Wd ad cy x y) s s.heap [] := ⟨hP, va_S.rf⟩
  have hl := lv_entry ([.ref (ad 1), .int a2]) (n := 3) (Nat.le_of_ble_eq_true rfl)
  rw [lg_entry_eq]
  generalize (lg_sl ([.ref (ad 1), .int a2]) ++ List.replicate (3 - (lg_sl ([.ref (ad 1), .int a2])).length) Slot.unset).toArray = ls at hl ⊢
  have hl : lv_has ls 3 [(0, .ref (ad 1)), (1, .int a2)] := hl
  unfold wX2_pastLetters at h
  refine lv_iload_n hx hb dX2_pastLetters_0 rfl (lv_at hl 1 rfl) ?_
  refine lv_istore_n (lv' := [(2, .int a2), (0, .ref (ad 1)), (1, .int a2)]) hx hb dX2_pastLetters_1 rfl hl (by decide) rfl (fun ls hl => ?_)
  obtain ⟨n_2, h⟩ := h
  have loop_2 : ∀ (n_2 : Nat) (v2_2 : Int32) (x_2 : ST) (H : Heap) (locs : List Loc) (ls : Array Slot), Hd D (AW ad) (Wd ad cy x_2 y) s H locs → lv_has ls 3 [(0, .ref (ad 1)), (1, .int a2), (2, .int v2_2)] → it (fun (_ : Int32) (_ : ST) => False) (FX2_pastLetters_2 a2 K) n_2 v2_2 x_2 → W p l e (headSpec (Cond.code yX2_pastLetters cX2_pastLetters 3 (some .int) :: WL) ({ frames := 3, cells := 0, slots := 0, locals := 64 } : Room)).room s m ([Value.ref (ad 1), Value.int a2] : List Value).toArray below meth c H locs 0 0 (MQ below (va_Qi K (QW D (fun z => Wd ad cy z y)) (AW ad)) ([Value.ref (ad 1), Value.int a2] : List Value).toArray s 0 0 (AW ad)) (F0 m 2 ls []) := by
    intro n_2
    induction n_2 with
    | zero => intro v2_2 x_2 H locs ls hH hl h; exact False.elim h
    | succ n_2 ih2 =>
      intro v2_2 x_2 H locs ls hH hl h
      refine lv_iload_n hx hb dX2_pastLetters_2 rfl (lv_at hl 2 rfl) ?_
      refine lv_iload_n hx hb dX2_pastLetters_3 rfl (lv_at hl 1 rfl) ?_
      refine lv_iconst (v := 3) hx hb dX2_pastLetters_4 (by decide) ?_
      refine lv_iadd hx hb dX2_pastLetters_5 ?_
      refine lv_icmp_ge (tgt := 23) hx hb dX2_pastLetters_6 (by decide) (fun c2_1 => ?_) (fun c2_1 => ?_)
      · replace h := h.1 c2_1
        refine lv_iload_n hx hb dX2_pastLetters_23 rfl (lv_at hl 2 rfl) ?_
        exact xret_i hx hb hr hlocks hH h dX2_pastLetters_24
      · replace h := h.2 c2_1
        refine lv_aload_n hx hb dX2_pastLetters_9 rfl (lv_at hl 0 rfl) ?_
        refine lv_iload_n hx hb dX2_pastLetters_10 rfl (lv_at hl 2 rfl) ?_
        refine xVi (Wf := (fun z => Wd ad cy z y)) (n := 1) (P := 1) (ci := 5) (As := [.int v2_2]) (rest := []) B hH hO (kX5_letterAt l hO.1 v2_2 _ x_2 y h) rfl rfl wk2_70 wk2_71 wk2_72 wk1_2 wk2_73 (by decide +kernel) rfl ⟨rfl, rfl⟩ ⟨Nat.le_of_ble_eq_true rfl, Nat.le_of_ble_eq_true rfl⟩ ⟨Nat.zero_le _, Nat.zero_le _⟩ hl.1 rfl (Nat.le_of_ble_eq_true rfl) dX2_pastLetters_11 (fun r2_2 x2_2 H locs h hH => ?_)
        obtain ⟨h, hz2_2⟩ := h
        replace hH : Hd D (AW ad) (Wd ad cy x2_2 y) s H locs := hH
        refine lv_if_eq (tgt := 23) hx hb dX2_pastLetters_14 (by decide) (fun c2_3 => ?_) (fun c2_3 => ?_)
        · replace h := h.1 c2_3
          refine lv_iload_n hx hb dX2_pastLetters_23 rfl (lv_at hl 2 rfl) ?_
          exact xret_i hx hb hr hlocks hH h dX2_pastLetters_24
        · replace h := h.2 c2_3
          obtain ⟨v2_2_4, e2_4⟩ : ∃ z : Int32, z = v2_2 + 1 := ⟨_, rfl⟩
          replace h := h v2_2_4 e2_4
          refine lv_iinc (v := v2_2_4) (lv' := [(2, .int v2_2_4), (0, .ref (ad 1)), (1, .int a2)]) hx hb dX2_pastLetters_17 hl (k := 2) rfl (by rw [e2_4]; first | rfl | done) (by decide) rfl (fun ls hl => ?_)
          refine lv_goto (tgt := 2) hx hb dX2_pastLetters_20 (by decide) ?_
          exact ih2 v2_2_4 x2_2 _ _ _ hH (lv_sub hl [1, 2, 0] rfl) h
  exact loop_2 n_2 a2 x _ _ _ hH (lv_sub hl [1, 2, 0] rfl) h
set_option maxHeartbeats 4000000 in
set_option maxRecDepth 100000 in
theorem kX2_readLetters (l : Launch) {D : va_G} {cy : Nat → ClassId} {ad : Nat → Nat} (hI : AdI ad) (a2 : Int32) (a3 : Int32) (K : ST → Prop) (x y : ST) (h : wX2_readLetters a2 a3 K x) : Met l yX2_readLetters (Cond.code yX2_readLetters cX2_readLetters 5 none :: WL) ({ frames := 2, cells := 0, slots := 0, locals := 43 } : Room) (va_Pc [.ref (ad 3), .ref (ad 1), .int a2, .int a3] (PW D cy ad x y)) (va_Qv K (QW D (fun z => Wd ad cy z y)) (AW ad)) 0 0 (AW ad) := by
  refine Met.ofW (cc := cX2_readLetters) (maxL := 5) (ret := none) (by decide) rfl ?_
  intro p e s m args below meth c s₁ B0 hml hv
  obtain ⟨rfl, hP, hK, hN⟩ := hv
  have hr := B0.returns
  have hlocks := B0.notSynchronized
  have hts := atoms_spec (ws := (Cond.code yX2_readLetters cX2_readLetters 5 none :: WL)) B0.pre
  have B : Bd p s m ([Value.ref (ad 3), Value.ref (ad 1), Value.int a2, Value.int a3] : List Value).toArray c cX2_readLetters 5 RX2 D cy := ⟨B0.exec, B0.bytes, hml, findClass_of_methodNamed B0.named, fun w hw => hts w (List.mem_cons_of_mem _ hw), hK, hN⟩
  have hx := B0.exec
  have hb := B0.bytes
  have hO : AdOk ad (AW ad) := hI.self
  have hH : Hd D (AW ad) (Wd ad cy x y) s s.heap [] := ⟨hP, va_S.rf⟩
  have hl := lv_entry ([.ref (ad 3), .ref (ad 1), .int a2, .int a3]) (n := 5) (Nat.le_of_ble_eq_true rfl)
  rw [lg_entry_eq]
  generalize (lg_sl ([.ref (ad 3), .ref (ad 1), .int a2, .int a3]) ++ List.replicate (5 - (lg_sl ([.ref (ad 3), .ref (ad 1), .int a2, .int a3])).length) Slot.unset).toArray = ls at hl ⊢
  have hl : lv_has ls 5 [(0, .ref (ad 3)), (1, .ref (ad 1)), (2, .int a2), (3, .int a3)] := hl
  unfold wX2_readLetters at h
  refine lv_aload_n hx hb dX2_readLetters_0 rfl (lv_at hl 0 rfl) ?_
  refine lv_iconst (v := 0) hx hb dX2_readLetters_1 (by decide) ?_
  refine pf_9 B hH hO wk1_47 dX2_readLetters_2 (fun x1 e1 H locs hH => ?_)
  replace h := h x1 e1
  refine lv_iload_n hx hb dX2_readLetters_5 rfl (lv_at hl 2 rfl) ?_
  refine lv_istore (lv' := [(4, .int a2), (0, .ref (ad 3)), (1, .ref (ad 1)), (2, .int a2), (3, .int a3)]) hx hb dX2_readLetters_6 hl (by decide) rfl (fun ls hl => ?_)
  obtain ⟨n_8, h⟩ := h
  have loop_8 : ∀ (n_8 : Nat) (v4_8 : Int32) (x_8 : ST) (H : Heap) (locs : List Loc) (ls : Array Slot), Hd D (AW ad) (Wd ad cy x_8 y) s H locs → lv_has ls 5 [(0, .ref (ad 3)), (1, .ref (ad 1)), (2, .int a2), (3, .int a3), (4, .int v4_8)] → it (fun (_ : Int32) (_ : ST) => False) (FX2_readLetters_8 a2 a3 K) n_8 v4_8 x_8 → W p l e (headSpec (Cond.code yX2_readLetters cX2_readLetters 5 none :: WL) ({ frames := 2, cells := 0, slots := 0, locals := 43 } : Room)).room s m ([Value.ref (ad 3), Value.ref (ad 1), Value.int a2, Value.int a3] : List Value).toArray below meth c H locs 0 0 (MQ below (va_Qv K (QW D (fun z => Wd ad cy z y)) (AW ad)) ([Value.ref (ad 3), Value.ref (ad 1), Value.int a2, Value.int a3] : List Value).toArray s 0 0 (AW ad)) (F0 m 8 ls []) := by
    intro n_8
    induction n_8 with
    | zero => intro v4_8 x_8 H locs ls hH hl h; exact False.elim h
    | succ n_8 ih8 =>
      intro v4_8 x_8 H locs ls hH hl h
      refine lv_iload hx hb dX2_readLetters_8 (lv_at hl 4 rfl) ?_
      refine lv_iload_n hx hb dX2_readLetters_10 rfl (lv_at hl 2 rfl) ?_
      refine lv_iconst (v := 3) hx hb dX2_readLetters_11 (by decide) ?_
      refine lv_iadd hx hb dX2_readLetters_12 ?_
      refine lv_icmp_ge (tgt := 55) hx hb dX2_readLetters_13 (by decide) (fun c8_1 => ?_) (fun c8_1 => ?_)
      · replace h := h.1 c8_1
        exact xret_v hx hb hr hlocks hH h dX2_readLetters_55
      · replace h := h.2 c8_1
        refine lv_aload_n hx hb dX2_readLetters_16 rfl (lv_at hl 0 rfl) ?_
        refine lv_aload_n hx hb dX2_readLetters_17 rfl (lv_at hl 0 rfl) ?_
        refine gf_9 B hH wk1_47 dX2_readLetters_18 ?_
        refine lv_bipush (v := 27) hx hb dX2_readLetters_21 (by decide) ?_
        refine lv_imul hx hb dX2_readLetters_23 ?_
        refine lv_iload hx hb dX2_readLetters_24 (lv_at hl 4 rfl) ?_
        refine lv_iload_n hx hb dX2_readLetters_26 rfl (lv_at hl 3 rfl) ?_
        refine lv_icmp_ge (tgt := 44) hx hb dX2_readLetters_27 (by decide) (fun c8_2 => ?_) (fun c8_2 => ?_)
        · replace h := h.1 c8_2
          refine lv_iconst (v := 0) hx hb dX2_readLetters_44 (by decide) ?_
          refine lv_iadd hx hb dX2_readLetters_45 ?_
          refine pf_9 B hH hO wk1_47 dX2_readLetters_46 (fun x8_3 e8_3 H locs hH => ?_)
          replace h := h x8_3 e8_3
          obtain ⟨v4_8_4, e8_4⟩ : ∃ z : Int32, z = v4_8 + 1 := ⟨_, rfl⟩
          replace h := h v4_8_4 e8_4
          refine lv_iinc (v := v4_8_4) (lv' := [(4, .int v4_8_4), (0, .ref (ad 3)), (1, .ref (ad 1)), (2, .int a2), (3, .int a3)]) hx hb dX2_readLetters_49 hl (k := 4) rfl (by rw [e8_4]; first | rfl | done) (by decide) rfl (fun ls hl => ?_)
          refine lv_goto (tgt := 8) hx hb dX2_readLetters_52 (by decide) ?_
          exact ih8 v4_8_4 x8_3 _ _ _ hH (lv_sub hl [1, 2, 3, 4, 0] rfl) h
        · replace h := h.2 c8_2
          refine lv_aload_n hx hb dX2_readLetters_30 rfl (lv_at hl 1 rfl) ?_
          refine lv_iload hx hb dX2_readLetters_31 (lv_at hl 4 rfl) ?_
          refine xVi (Wf := (fun z => Wd ad cy z y)) (n := 1) (P := 1) (ci := 5) (As := [.int v4_8]) (rest := [.int (((gI x_8 9) * 27)), .ref (ad 3)]) B hH hO (kX5_byteAt l hO.1 v4_8 _ x_8 y h) rfl rfl wk2_62 wk2_55 wk2_56 wk1_2 wk2_57 (by decide +kernel) rfl ⟨rfl, rfl⟩ ⟨Nat.le_of_ble_eq_true rfl, Nat.le_of_ble_eq_true rfl⟩ ⟨Nat.zero_le _, Nat.zero_le _⟩ hl.1 rfl (Nat.le_of_ble_eq_true rfl) dX2_readLetters_33 (fun r8_5 x8_5 H locs h hH => ?_)
          replace hH : Hd D (AW ad) (Wd ad cy x8_5 y) s H locs := hH
          refine lv_bipush (v := 97) hx hb dX2_readLetters_36 (by decide) ?_
          refine lv_isub hx hb dX2_readLetters_38 ?_
          refine lv_iconst (v := 1) hx hb dX2_readLetters_39 (by decide) ?_
          refine lv_iadd hx hb dX2_readLetters_40 ?_
          refine lv_goto (tgt := 45) hx hb dX2_readLetters_41 (by decide) ?_
          refine lv_iadd hx hb dX2_readLetters_45 ?_
          refine pf_9 B hH hO wk1_47 dX2_readLetters_46 (fun x8_6 e8_6 H locs hH => ?_)
          replace h := h x8_6 e8_6
          obtain ⟨v4_8_7, e8_7⟩ : ∃ z : Int32, z = v4_8 + 1 := ⟨_, rfl⟩
          replace h := h v4_8_7 e8_7
          refine lv_iinc (v := v4_8_7) (lv' := [(4, .int v4_8_7), (0, .ref (ad 3)), (1, .ref (ad 1)), (2, .int a2), (3, .int a3)]) hx hb dX2_readLetters_49 hl (k := 4) rfl (by rw [e8_7]; first | rfl | done) (by decide) rfl (fun ls hl => ?_)
          refine lv_goto (tgt := 8) hx hb dX2_readLetters_52 (by decide) ?_
          exact ih8 v4_8_7 x8_6 _ _ _ hH (lv_sub hl [1, 2, 3, 4, 0] rfl) h
  exact loop_8 n_8 a2 x1 _ _ _ hH (lv_sub hl [1, 2, 3, 4, 0] rfl) h
set_option maxHeartbeats 4000000 in
set_option maxRecDepth 100000 in
theorem kX2_readBehind (l : Launch) {D : va_G} {cy : Nat → ClassId} {ad : Nat → Nat} (hI : AdI ad) (a2 : Int32) (a3 : Int32) (K : ST → Prop) (x y : ST) (h : wX2_readBehind a2 a3 K x) : Met l yX2_readBehind (Cond.code yX2_readBehind cX2_readBehind 5 none :: WL) ({ frames := 3, cells := 0, slots := 0, locals := 67 } : Room) (va_Pc [.ref (ad 3), .ref (ad 1), .int a2, .int a3] (PW D cy ad x y)) (va_Qv K (QW D (fun z => Wd ad cy z y)) (AW ad)) 0 0 (AW ad) := by
  refine Met.ofW (cc := cX2_readBehind) (maxL := 5) (ret := none) (by decide) rfl ?_
  intro p e s m args below meth c s₁ B0 hml hv
  obtain ⟨rfl, hP, hK, hN⟩ := hv
  have hr := B0.returns
  have hlocks := B0.notSynchronized
  have hts := atoms_spec (ws := (Cond.code yX2_readBehind cX2_readBehind 5 none :: WL)) B0.pre
  have B : Bd p s m ([Value.ref (ad 3), Value.ref (ad 1), Value.int a2, Value.int a3] : List Value).toArray c cX2_readBehind 5 RX2 D cy := ⟨B0.exec, B0.bytes, hml, findClass_of_methodNamed B0.named, fun w hw => hts w (List.mem_cons_of_mem _ hw), hK, hN⟩
  have hx := B0.exec
  have hb := B0.bytes
  have hO : AdOk ad (AW ad) := hI.self
  have hH : Hd D (AW ad) (Wd ad cy x y) s s.heap [] := ⟨hP, va_S.rf⟩
  have hl := lv_entry ([.ref (ad 3), .ref (ad 1), .int a2, .int a3]) (n := 5) (Nat.le_of_ble_eq_true rfl)
  rw [lg_entry_eq]
  generalize (lg_sl ([.ref (ad 3), .ref (ad 1), .int a2, .int a3]) ++ List.replicate (5 - (lg_sl ([.ref (ad 3), .ref (ad 1), .int a2, .int a3])).length) Slot.unset).toArray = ls at hl ⊢
  have hl : lv_has ls 5 [(0, .ref (ad 3)), (1, .ref (ad 1)), (2, .int a2), (3, .int a3)] := hl
  unfold wX2_readBehind at h
  refine lv_aload_n hx hb dX2_readBehind_0 rfl (lv_at hl 0 rfl) ?_
  refine lv_aload_n hx hb dX2_readBehind_1 rfl (lv_at hl 1 rfl) ?_
  refine lv_iload_n hx hb dX2_readBehind_2 rfl (lv_at hl 2 rfl) ?_
  refine lv_iload_n hx hb dX2_readBehind_3 rfl (lv_at hl 3 rfl) ?_
  refine xSi (Wf := (fun z => Wd ad cy z y)) (n := 3) (As := [.ref (ad 1), .int a2, .int a3]) (rest := [.ref (ad 3)]) B hH hO (kX2_valueOf l hO.1 a2 a3 _ x y h) wk2_59 wk2_60 wk1_3 wk2_61 (by decide +kernel) rfl ⟨rfl, rfl⟩ ⟨Nat.le_of_ble_eq_true rfl, Nat.le_of_ble_eq_true rfl⟩ ⟨Nat.zero_le _, Nat.zero_le _⟩ hl.1 rfl (Nat.le_of_ble_eq_true rfl) dX2_readBehind_4 (fun r1 x1 H locs h hH => ?_)
  replace hH : Hd D (AW ad) (Wd ad cy x1 y) s H locs := hH
  refine pf_6 B hH hO wk1_44 dX2_readBehind_7 (fun x2 e2 H locs hH => ?_)
  replace h := h x2 e2
  refine lv_aload_n hx hb dX2_readBehind_10 rfl (lv_at hl 0 rfl) ?_
  refine lv_iload_n hx hb dX2_readBehind_11 rfl (lv_at hl 3 rfl) ?_
  refine lv_iload_n hx hb dX2_readBehind_12 rfl (lv_at hl 2 rfl) ?_
  refine lv_isub hx hb dX2_readBehind_13 ?_
  refine pf_7 B hH hO wk1_45 dX2_readBehind_14 (fun x3 e3 H locs hH => ?_)
  replace h := h x3 e3
  refine lv_iload_n hx hb dX2_readBehind_17 rfl (lv_at hl 2 rfl) ?_
  refine lv_istore (lv' := [(4, .int a2), (0, .ref (ad 3)), (1, .ref (ad 1)), (2, .int a2), (3, .int a3)]) hx hb dX2_readBehind_18 hl (by decide) rfl (fun ls hl => ?_)
  obtain ⟨n_20, h⟩ := h
  have loop_20 : ∀ (n_20 : Nat) (v4_20 : Int32) (x_20 : ST) (H : Heap) (locs : List Loc) (ls : Array Slot), Hd D (AW ad) (Wd ad cy x_20 y) s H locs → lv_has ls 5 [(0, .ref (ad 3)), (1, .ref (ad 1)), (2, .int a2), (3, .int a3), (4, .int v4_20)] → it (fun (_ : Int32) (_ : ST) => False) (FX2_readBehind_20 a2 a3 K) n_20 v4_20 x_20 → W p l e (headSpec (Cond.code yX2_readBehind cX2_readBehind 5 none :: WL) ({ frames := 3, cells := 0, slots := 0, locals := 67 } : Room)).room s m ([Value.ref (ad 3), Value.ref (ad 1), Value.int a2, Value.int a3] : List Value).toArray below meth c H locs 0 0 (MQ below (va_Qv K (QW D (fun z => Wd ad cy z y)) (AW ad)) ([Value.ref (ad 3), Value.ref (ad 1), Value.int a2, Value.int a3] : List Value).toArray s 0 0 (AW ad)) (F0 m 20 ls []) := by
    intro n_20
    induction n_20 with
    | zero => intro v4_20 x_20 H locs ls hH hl h; exact False.elim h
    | succ n_20 ih20 =>
      intro v4_20 x_20 H locs ls hH hl h
      refine lv_iload hx hb dX2_readBehind_20 (lv_at hl 4 rfl) ?_
      refine lv_iload_n hx hb dX2_readBehind_22 rfl (lv_at hl 2 rfl) ?_
      refine lv_iconst (v := 4) hx hb dX2_readBehind_23 (by decide) ?_
      refine lv_iadd hx hb dX2_readBehind_24 ?_
      refine lv_icmp_ge (tgt := 67) hx hb dX2_readBehind_25 (by decide) (fun c20_1 => ?_) (fun c20_1 => ?_)
      · replace h := h.1 c20_1
        exact xret_v hx hb hr hlocks hH h dX2_readBehind_67
      · replace h := h.2 c20_1
        refine lv_aload_n hx hb dX2_readBehind_28 rfl (lv_at hl 0 rfl) ?_
        refine lv_aload_n hx hb dX2_readBehind_29 rfl (lv_at hl 0 rfl) ?_
        refine gf_8 B hH wk1_46 dX2_readBehind_30 ?_
        refine lv_bipush (v := 11) hx hb dX2_readBehind_33 (by decide) ?_
        refine lv_imul hx hb dX2_readBehind_35 ?_
        refine lv_iload hx hb dX2_readBehind_36 (lv_at hl 4 rfl) ?_
        refine lv_iload_n hx hb dX2_readBehind_38 rfl (lv_at hl 3 rfl) ?_
        refine lv_icmp_ge (tgt := 56) hx hb dX2_readBehind_39 (by decide) (fun c20_2 => ?_) (fun c20_2 => ?_)
        · replace h := h.1 c20_2
          refine lv_iconst (v := 0) hx hb dX2_readBehind_56 (by decide) ?_
          refine lv_iadd hx hb dX2_readBehind_57 ?_
          refine pf_8 B hH hO wk1_46 dX2_readBehind_58 (fun x20_3 e20_3 H locs hH => ?_)
          replace h := h x20_3 e20_3
          obtain ⟨v4_20_4, e20_4⟩ : ∃ z : Int32, z = v4_20 + 1 := ⟨_, rfl⟩
          replace h := h v4_20_4 e20_4
          refine lv_iinc (v := v4_20_4) (lv' := [(4, .int v4_20_4), (0, .ref (ad 3)), (1, .ref (ad 1)), (2, .int a2), (3, .int a3)]) hx hb dX2_readBehind_61 hl (k := 4) rfl (by rw [e20_4]; first | rfl | done) (by decide) rfl (fun ls hl => ?_)
          refine lv_goto (tgt := 20) hx hb dX2_readBehind_64 (by decide) ?_
          exact ih20 v4_20_4 x20_3 _ _ _ hH (lv_sub hl [1, 2, 3, 4, 0] rfl) h
        · replace h := h.2 c20_2
          refine lv_aload_n hx hb dX2_readBehind_42 rfl (lv_at hl 1 rfl) ?_
          refine lv_iload hx hb dX2_readBehind_43 (lv_at hl 4 rfl) ?_
          refine xVi (Wf := (fun z => Wd ad cy z y)) (n := 1) (P := 1) (ci := 5) (As := [.int v4_20]) (rest := [.int (((gI x_20 8) * 11)), .ref (ad 3)]) B hH hO (kX5_byteAt l hO.1 v4_20 _ x_20 y h) rfl rfl wk2_62 wk2_55 wk2_56 wk1_2 wk2_57 (by decide +kernel) rfl ⟨rfl, rfl⟩ ⟨Nat.le_of_ble_eq_true rfl, Nat.le_of_ble_eq_true rfl⟩ ⟨Nat.zero_le _, Nat.zero_le _⟩ hl.1 rfl (Nat.le_of_ble_eq_true rfl) dX2_readBehind_45 (fun r20_5 x20_5 H locs h hH => ?_)
          replace hH : Hd D (AW ad) (Wd ad cy x20_5 y) s H locs := hH
          refine lv_bipush (v := 48) hx hb dX2_readBehind_48 (by decide) ?_
          refine lv_isub hx hb dX2_readBehind_50 ?_
          refine lv_iconst (v := 1) hx hb dX2_readBehind_51 (by decide) ?_
          refine lv_iadd hx hb dX2_readBehind_52 ?_
          refine lv_goto (tgt := 57) hx hb dX2_readBehind_53 (by decide) ?_
          refine lv_iadd hx hb dX2_readBehind_57 ?_
          refine pf_8 B hH hO wk1_46 dX2_readBehind_58 (fun x20_6 e20_6 H locs hH => ?_)
          replace h := h x20_6 e20_6
          obtain ⟨v4_20_7, e20_7⟩ : ∃ z : Int32, z = v4_20 + 1 := ⟨_, rfl⟩
          replace h := h v4_20_7 e20_7
          refine lv_iinc (v := v4_20_7) (lv' := [(4, .int v4_20_7), (0, .ref (ad 3)), (1, .ref (ad 1)), (2, .int a2), (3, .int a3)]) hx hb dX2_readBehind_61 hl (k := 4) rfl (by rw [e20_7]; first | rfl | done) (by decide) rfl (fun ls hl => ?_)
          refine lv_goto (tgt := 20) hx hb dX2_readBehind_64 (by decide) ?_
          exact ih20 v4_20_7 x20_6 _ _ _ hH (lv_sub hl [1, 2, 3, 4, 0] rfl) h
  exact loop_20 n_20 a2 x3 _ _ _ hH (lv_sub hl [1, 2, 3, 4, 0] rfl) h
set_option maxHeartbeats 4000000 in
set_option maxRecDepth 100000 in
theorem kX2_read (l : Launch) {D : va_G} {cy : Nat → ClassId} {ad : Nat → Nat} (hI : AdI ad) (K : ST → Prop) (x y : ST) (h : wX2_read K x) : Met l yX2_read (Cond.code yX2_read cX2_read 4 none :: WL) ({ frames := 4, cells := 0, slots := 0, locals := 91 } : Room) (va_Pc [.ref (ad 3), .ref (ad 1)] (PW D cy ad x y)) (va_Qv K (QW D (fun z => Wd ad cy z y)) (AW ad)) 0 0 (AW ad) := by
  refine Met.ofW (cc := cX2_read) (maxL := 4) (ret := none) (by decide) rfl ?_
  intro p e s m args below meth c s₁ B0 hml hv
  obtain ⟨rfl, hP, hK, hN⟩ := hv
  have hr := B0.returns
  have hlocks := B0.notSynchronized
  have hts := atoms_spec (ws := (Cond.code yX2_read cX2_read 4 none :: WL)) B0.pre
  have B : Bd p s m ([Value.ref (ad 3), Value.ref (ad 1)] : List Value).toArray c cX2_read 4 RX2 D cy := ⟨B0.exec, B0.bytes, hml, findClass_of_methodNamed B0.named, fun w hw => hts w (List.mem_cons_of_mem _ hw), hK, hN⟩
  have hx := B0.exec
  have hb := B0.bytes
  have hO : AdOk ad (AW ad) := hI.self
  have hH : Hd D (AW ad) (Wd ad cy x y) s s.heap [] := ⟨hP, va_S.rf⟩
  have hl := lv_entry ([.ref (ad 3), .ref (ad 1)]) (n := 4) (Nat.le_of_ble_eq_true rfl)
  rw [lg_entry_eq]
  generalize (lg_sl ([.ref (ad 3), .ref (ad 1)]) ++ List.replicate (4 - (lg_sl ([.ref (ad 3), .ref (ad 1)])).length) Slot.unset).toArray = ls at hl ⊢
  have hl : lv_has ls 4 [(0, .ref (ad 3)), (1, .ref (ad 1))] := hl
  unfold wX2_read at h
  refine lv_aload_n hx hb dX2_read_0 rfl (lv_at hl 0 rfl) ?_
  refine lv_iconst (v := 0) hx hb dX2_read_1 (by decide) ?_
  refine pf_6 B hH hO wk1_44 dX2_read_2 (fun x1 e1 H locs hH => ?_)
  replace h := h x1 e1
  refine lv_aload_n hx hb dX2_read_5 rfl (lv_at hl 0 rfl) ?_
  refine lv_iconst (v := 0) hx hb dX2_read_6 (by decide) ?_
  refine pf_7 B hH hO wk1_45 dX2_read_7 (fun x2 e2 H locs hH => ?_)
  replace h := h x2 e2
  refine lv_aload_n hx hb dX2_read_10 rfl (lv_at hl 0 rfl) ?_
  refine lv_iconst (v := 0) hx hb dX2_read_11 (by decide) ?_
  refine pf_8 B hH hO wk1_46 dX2_read_12 (fun x3 e3 H locs hH => ?_)
  replace h := h x3 e3
  refine lv_aload_n hx hb dX2_read_15 rfl (lv_at hl 1 rfl) ?_
  refine lv_iconst (v := 0) hx hb dX2_read_16 (by decide) ?_
  refine xSi (Wf := (fun z => Wd ad cy z y)) (n := 2) (As := [.ref (ad 1), .int 0]) (rest := []) B hH hO (kX2_pastDigits l hO.1 0 _ x3 y h) wk2_47 wk2_48 wk1_3 wk2_49 (by decide +kernel) rfl ⟨rfl, rfl⟩ ⟨Nat.le_of_ble_eq_true rfl, Nat.le_of_ble_eq_true rfl⟩ ⟨Nat.zero_le _, Nat.zero_le _⟩ hl.1 rfl (Nat.le_of_ble_eq_true rfl) dX2_read_17 (fun r4 x4 H locs h hH => ?_)
  replace hH : Hd D (AW ad) (Wd ad cy x4 y) s H locs := hH
  refine lv_istore_n (lv' := [(2, .int r4), (0, .ref (ad 3)), (1, .ref (ad 1))]) hx hb dX2_read_20 rfl hl (by decide) rfl (fun ls hl => ?_)
  refine lv_iload_n hx hb dX2_read_21 rfl (lv_at hl 0 rfl) ?_
  refine lv_if_ne (tgt := 31) hx hb dX2_read_22 (by decide) (fun c5 => ?_) (fun c5 => ?_)
  · replace h := h.1 c5
    refine lv_aload_n hx hb dX2_read_31 rfl (lv_at hl 1 rfl) ?_
    refine lv_aload_n hx hb dX2_read_32 rfl (lv_at hl 2 rfl) ?_
    refine lv_iconst (v := 0) hx hb dX2_read_33 (by decide) ?_
    refine lv_iload_n hx hb dX2_read_34 rfl (lv_at hl 0 rfl) ?_
    refine xSi (Wf := (fun z => Wd ad cy z y)) (n := 3) (As := [.ref (ad 1), .int 0, .int r4]) (rest := [.ref (ad 3)]) B hH hO (kX2_valueOf l hO.1 0 r4 _ x4 y h) wk2_59 wk2_60 wk1_3 wk2_61 (by decide +kernel) rfl ⟨rfl, rfl⟩ ⟨Nat.le_of_ble_eq_true rfl, Nat.le_of_ble_eq_true rfl⟩ ⟨Nat.zero_le _, Nat.zero_le _⟩ hl.1 rfl (Nat.le_of_ble_eq_true rfl) dX2_read_35 (fun r6 x6 H locs h hH => ?_)
    replace hH : Hd D (AW ad) (Wd ad cy x6 y) s H locs := hH
    refine pf_5 B hH hO wk1_42 dX2_read_38 (fun x7 e7 H locs hH => ?_)
    replace h := h x7 e7
    refine lv_aload_n hx hb dX2_read_41 rfl (lv_at hl 2 rfl) ?_
    refine lv_iload_n hx hb dX2_read_42 rfl (lv_at hl 0 rfl) ?_
    refine xVi (Wf := (fun z => Wd ad cy z y)) (n := 1) (P := 1) (ci := 5) (As := [.int r4]) (rest := []) B hH hO (kX5_byteAt l hO.1 r4 _ x7 y h) rfl rfl wk2_62 wk2_55 wk2_56 wk1_2 wk2_57 (by decide +kernel) rfl ⟨rfl, rfl⟩ ⟨Nat.le_of_ble_eq_true rfl, Nat.le_of_ble_eq_true rfl⟩ ⟨Nat.zero_le _, Nat.zero_le _⟩ hl.1 rfl (Nat.le_of_ble_eq_true rfl) dX2_read_43 (fun r8 x8 H locs h hH => ?_)
    replace hH : Hd D (AW ad) (Wd ad cy x8 y) s H locs := hH
    refine lv_bipush (v := 46) hx hb dX2_read_46 (by decide) ?_
    refine lv_icmp_ne (tgt := 79) hx hb dX2_read_48 (by decide) (fun c9 => ?_) (fun c9 => ?_)
    · replace h := h.1 c9
      refine lv_aload_n hx hb dX2_read_79 rfl (lv_at hl 2 rfl) ?_
      refine lv_iload_n hx hb dX2_read_80 rfl (lv_at hl 0 rfl) ?_
      refine xSi (Wf := (fun z => Wd ad cy z y)) (n := 2) (As := [.ref (ad 1), .int r4]) (rest := []) B hH hO (kX2_pastLetters l hO.1 r4 _ x8 y h) wk2_67 wk2_68 wk1_3 wk2_69 (by decide +kernel) rfl ⟨rfl, rfl⟩ ⟨Nat.le_of_ble_eq_true rfl, Nat.le_of_ble_eq_true rfl⟩ ⟨Nat.zero_le _, Nat.zero_le _⟩ hl.1 rfl (Nat.le_of_ble_eq_true rfl) dX2_read_81 (fun r10 x10 H locs h hH => ?_)
      replace hH : Hd D (AW ad) (Wd ad cy x10 y) s H locs := hH
      refine lv_istore_n (lv' := [(3, .int r10), (2, .int r4), (0, .ref (ad 3)), (1, .ref (ad 1))]) hx hb dX2_read_84 rfl hl (by decide) rfl (fun ls hl => ?_)
      refine lv_aload_n hx hb dX2_read_85 rfl (lv_at hl 2 rfl) ?_
      refine lv_aload_n hx hb dX2_read_86 rfl (lv_at hl 3 rfl) ?_
      refine lv_iload_n hx hb dX2_read_87 rfl (lv_at hl 1 rfl) ?_
      refine lv_iload_n hx hb dX2_read_88 rfl (lv_at hl 0 rfl) ?_
      refine xVv (Wf := (fun z => Wd ad cy z y)) (n := 3) (P := 3) (ci := 2) (As := [.ref (ad 1), .int r4, .int r10]) (rest := []) B hH hO (kX2_readLetters l hO.1 r4 r10 _ x10 y h) rfl rfl wk2_74 wk2_76 wkp_1 wk1_3 wk2_77 (by decide +kernel) rfl ⟨rfl, rfl⟩ ⟨Nat.le_of_ble_eq_true rfl, Nat.le_of_ble_eq_true rfl⟩ ⟨Nat.zero_le _, Nat.zero_le _⟩ hl.1 rfl (Nat.le_of_ble_eq_true rfl) dX2_read_89 (fun x11 H locs h hH => ?_)
      replace hH : Hd D (AW ad) (Wd ad cy x11 y) s H locs := hH
      refine lv_aload_n hx hb dX2_read_92 rfl (lv_at hl 2 rfl) ?_
      refine lv_iload_n hx hb dX2_read_93 rfl (lv_at hl 0 rfl) ?_
      refine lv_aload_n hx hb dX2_read_94 rfl (lv_at hl 3 rfl) ?_
      refine gf_3 B hH wk1_27 dX2_read_95 ?_
      refine lv_icmp_ge (tgt := 105) hx hb dX2_read_98 (by decide) (fun c12 => ?_) (fun c12 => ?_)
      · replace h := h.1 c12
        refine lv_iconst (v := (-1)) hx hb dX2_read_105 (by decide) ?_
        refine pf_4 B hH hO wk1_40 dX2_read_106 (fun x13 e13 H locs hH => ?_)
        replace h := h x13 e13
        exact xret_v hx hb hr hlocks hH h dX2_read_109
      · replace h := h.2 c12
        refine lv_iload_n hx hb dX2_read_101 rfl (lv_at hl 0 rfl) ?_
        refine lv_goto (tgt := 106) hx hb dX2_read_102 (by decide) ?_
        refine pf_4 B hH hO wk1_40 dX2_read_106 (fun x14 e14 H locs hH => ?_)
        replace h := h x14 e14
        exact xret_v hx hb hr hlocks hH h dX2_read_109
    · replace h := h.2 c9
      refine lv_iload_n hx hb dX2_read_51 rfl (lv_at hl 0 rfl) ?_
      refine lv_iconst (v := 1) hx hb dX2_read_52 (by decide) ?_
      refine lv_iadd hx hb dX2_read_53 ?_
      refine lv_topi (fun v3_15 e15 => ?_)
      replace h := h v3_15 e15
      refine lv_istore_n (lv' := [(3, .int v3_15), (2, .int r4), (0, .ref (ad 3)), (1, .ref (ad 1))]) hx hb dX2_read_54 rfl hl (by decide) rfl (fun ls hl => ?_)
      refine lv_aload_n hx hb dX2_read_55 rfl (lv_at hl 3 rfl) ?_
      refine lv_iload_n hx hb dX2_read_56 rfl (lv_at hl 0 rfl) ?_
      refine xSi (Wf := (fun z => Wd ad cy z y)) (n := 2) (As := [.ref (ad 1), .int v3_15]) (rest := []) B hH hO (kX2_pastDigits l hO.1 v3_15 _ x8 y h) wk2_47 wk2_48 wk1_3 wk2_49 (by decide +kernel) rfl ⟨rfl, rfl⟩ ⟨Nat.le_of_ble_eq_true rfl, Nat.le_of_ble_eq_true rfl⟩ ⟨Nat.zero_le _, Nat.zero_le _⟩ hl.1 rfl (Nat.le_of_ble_eq_true rfl) dX2_read_57 (fun r16 x16 H locs h hH => ?_)
      replace hH : Hd D (AW ad) (Wd ad cy x16 y) s H locs := hH
      refine lv_istore_n (lv' := [(2, .int r16), (3, .int v3_15), (0, .ref (ad 3)), (1, .ref (ad 1))]) hx hb dX2_read_60 rfl hl (by decide) rfl (fun ls hl => ?_)
      refine lv_iload_n hx hb dX2_read_61 rfl (lv_at hl 0 rfl) ?_
      refine lv_iload_n hx hb dX2_read_62 rfl (lv_at hl 1 rfl) ?_
      refine lv_icmp_ne (tgt := 72) hx hb dX2_read_63 (by decide) (fun c17 => ?_) (fun c17 => ?_)
      · replace h := h.1 c17
        refine lv_aload_n hx hb dX2_read_72 rfl (lv_at hl 2 rfl) ?_
        refine lv_aload_n hx hb dX2_read_73 rfl (lv_at hl 3 rfl) ?_
        refine lv_iload_n hx hb dX2_read_74 rfl (lv_at hl 1 rfl) ?_
        refine lv_iload_n hx hb dX2_read_75 rfl (lv_at hl 0 rfl) ?_
        refine xVv (Wf := (fun z => Wd ad cy z y)) (n := 3) (P := 3) (ci := 2) (As := [.ref (ad 1), .int v3_15, .int r16]) (rest := []) B hH hO (kX2_readBehind l hO.1 v3_15 r16 _ x16 y h) rfl rfl wk2_63 wk2_65 wkp_0 wk1_3 wk2_66 (by decide +kernel) rfl ⟨rfl, rfl⟩ ⟨Nat.le_of_ble_eq_true rfl, Nat.le_of_ble_eq_true rfl⟩ ⟨Nat.zero_le _, Nat.zero_le _⟩ hl.1 rfl (Nat.le_of_ble_eq_true rfl) dX2_read_76 (fun x18 H locs h hH => ?_)
        replace hH : Hd D (AW ad) (Wd ad cy x18 y) s H locs := hH
        refine lv_aload_n hx hb dX2_read_79 rfl (lv_at hl 3 rfl) ?_
        refine lv_iload_n hx hb dX2_read_80 rfl (lv_at hl 0 rfl) ?_
        refine xSi (Wf := (fun z => Wd ad cy z y)) (n := 2) (As := [.ref (ad 1), .int r16]) (rest := []) B hH hO (kX2_pastLetters l hO.1 r16 _ x18 y h) wk2_67 wk2_68 wk1_3 wk2_69 (by decide +kernel) rfl ⟨rfl, rfl⟩ ⟨Nat.le_of_ble_eq_true rfl, Nat.le_of_ble_eq_true rfl⟩ ⟨Nat.zero_le _, Nat.zero_le _⟩ hl.1 rfl (Nat.le_of_ble_eq_true rfl) dX2_read_81 (fun r19 x19 H locs h hH => ?_)
        replace hH : Hd D (AW ad) (Wd ad cy x19 y) s H locs := hH
        refine lv_istore_n (lv' := [(3, .int r19), (2, .int r16), (0, .ref (ad 3)), (1, .ref (ad 1))]) hx hb dX2_read_84 rfl hl (by decide) rfl (fun ls hl => ?_)
        refine lv_aload_n hx hb dX2_read_85 rfl (lv_at hl 2 rfl) ?_
        refine lv_aload_n hx hb dX2_read_86 rfl (lv_at hl 3 rfl) ?_
        refine lv_iload_n hx hb dX2_read_87 rfl (lv_at hl 1 rfl) ?_
        refine lv_iload_n hx hb dX2_read_88 rfl (lv_at hl 0 rfl) ?_
        refine xVv (Wf := (fun z => Wd ad cy z y)) (n := 3) (P := 3) (ci := 2) (As := [.ref (ad 1), .int r16, .int r19]) (rest := []) B hH hO (kX2_readLetters l hO.1 r16 r19 _ x19 y h) rfl rfl wk2_74 wk2_76 wkp_1 wk1_3 wk2_77 (by decide +kernel) rfl ⟨rfl, rfl⟩ ⟨Nat.le_of_ble_eq_true rfl, Nat.le_of_ble_eq_true rfl⟩ ⟨Nat.zero_le _, Nat.zero_le _⟩ hl.1 rfl (Nat.le_of_ble_eq_true rfl) dX2_read_89 (fun x20 H locs h hH => ?_)
        replace hH : Hd D (AW ad) (Wd ad cy x20 y) s H locs := hH
        refine lv_aload_n hx hb dX2_read_92 rfl (lv_at hl 2 rfl) ?_
        refine lv_iload_n hx hb dX2_read_93 rfl (lv_at hl 0 rfl) ?_
        refine lv_aload_n hx hb dX2_read_94 rfl (lv_at hl 3 rfl) ?_
        refine gf_3 B hH wk1_27 dX2_read_95 ?_
        refine lv_icmp_ge (tgt := 105) hx hb dX2_read_98 (by decide) (fun c21 => ?_) (fun c21 => ?_)
        · replace h := h.1 c21
          refine lv_iconst (v := (-1)) hx hb dX2_read_105 (by decide) ?_
          refine pf_4 B hH hO wk1_40 dX2_read_106 (fun x22 e22 H locs hH => ?_)
          replace h := h x22 e22
          exact xret_v hx hb hr hlocks hH h dX2_read_109
        · replace h := h.2 c21
          refine lv_iload_n hx hb dX2_read_101 rfl (lv_at hl 0 rfl) ?_
          refine lv_goto (tgt := 106) hx hb dX2_read_102 (by decide) ?_
          refine pf_4 B hH hO wk1_40 dX2_read_106 (fun x23 e23 H locs hH => ?_)
          replace h := h x23 e23
          exact xret_v hx hb hr hlocks hH h dX2_read_109
      · replace h := h.2 c17
        refine lv_aload_n hx hb dX2_read_66 rfl (lv_at hl 2 rfl) ?_
        refine lv_iload_n hx hb dX2_read_67 rfl (lv_at hl 1 rfl) ?_
        refine pf_4 B hH hO wk1_40 dX2_read_68 (fun x24 e24 H locs hH => ?_)
        replace h := h x24 e24
        exact xret_v hx hb hr hlocks hH h dX2_read_71
  · replace h := h.2 c5
    refine lv_aload_n hx hb dX2_read_25 rfl (lv_at hl 1 rfl) ?_
    refine lv_iconst (v := 0) hx hb dX2_read_26 (by decide) ?_
    refine pf_4 B hH hO wk1_40 dX2_read_27 (fun x25 e25 H locs hH => ?_)
    replace h := h x25 e25
    exact xret_v hx hb hr hlocks hH h dX2_read_30
set_option maxHeartbeats 4000000 in
set_option maxRecDepth 100000 in
theorem kX3_has (l : Launch) {D : va_G} {cy : Nat → ClassId} {ad : Nat → Nat} (hI : AdI ad) (a1 : Int32) (K : Int32 → ST → Prop) (x y : ST) (h : wX3_has a1 K x) : Met l yX3_has (Cond.code yX3_has cX3_has 2 (some .boolean) :: WL) ({ frames := 1, cells := 0, slots := 0, locals := 22 } : Room) (va_Pc [.ref (ad 30), .int a1] (PW D cy ad x y)) (va_Qi (fun r z => K r z ∧ (r = 0 ∨ r = 1)) (QW D (fun z => Wd ad cy z y)) (AW ad)) 0 0 (AW ad) := by
  refine Met.ofW (cc := cX3_has) (maxL := 2) (ret := (some .boolean)) (by decide) rfl ?_
  intro p e s m args below meth c s₁ B0 hml hv
  obtain ⟨rfl, hP, hK, hN⟩ := hv
  have hr := B0.returns
  have hlocks := B0.notSynchronized
  have hts := atoms_spec (ws := (Cond.code yX3_has cX3_has 2 (some .boolean) :: WL)) B0.pre
  have B : Bd p s m ([Value.ref (ad 30), Value.int a1] : List Value).toArray c cX3_has 2 RX3 D cy := ⟨B0.exec, B0.bytes, hml, findClass_of_methodNamed B0.named, fun w hw => hts w (List.mem_cons_of_mem _ hw), hK, hN⟩
  have hx := B0.exec
  have hb := B0.bytes
  have hO : AdOk ad (AW ad) := hI.self
  have hH : Hd D (AW ad) (Wd ad cy x y) s s.heap [] := ⟨hP, va_S.rf⟩
  have hl := lv_entry ([.ref (ad 30), .int a1]) (n := 2) (Nat.le_of_ble_eq_true rfl)
  rw [lg_entry_eq]
  generalize (lg_sl ([.ref (ad 30), .int a1]) ++ List.replicate (2 - (lg_sl ([.ref (ad 30), .int a1])).length) Slot.unset).toArray = ls at hl ⊢
  have hl : lv_has ls 2 [(0, .ref (ad 30)), (1, .int a1)] := hl
  unfold wX3_has at h
  refine lv_iload_n hx hb dX3_has_0 rfl (lv_at hl 1 rfl) ?_
  refine lv_iconst (v := 0) hx hb dX3_has_1 (by decide) ?_
  refine lv_aload_n hx hb dX3_has_2 rfl (lv_at hl 0 rfl) ?_
  refine gf_20 B hH wk1_218 dX3_has_3 ?_
  refine lv_iconst (v := 1) hx hb dX3_has_6 (by decide) ?_
  refine lv_isub hx hb dX3_has_7 ?_
  refine xNi (Wf := (fun z => Wd ad cy z y)) (n := 3) (As := [.int a1, .int 0, .int (((gI x 20) - 1))]) (rest := []) B hH hO (kX6_within l hO.1 a1 0 ((gI x 20) - 1) _ x y h) B.2.2.2.2.2.2.2.1 wk2_37 wk1_1 wk2_38 (by decide +kernel) rfl ⟨rfl, rfl⟩ ⟨Nat.le_of_ble_eq_true rfl, Nat.le_of_ble_eq_true rfl⟩ ⟨Nat.zero_le _, Nat.zero_le _⟩ hl.1 rfl (Nat.le_of_ble_eq_true rfl) dX3_has_8 (fun r1 x1 H locs h hH => ?_)
  obtain ⟨h, hz1⟩ := h
  replace hH : Hd D (AW ad) (Wd ad cy x1 y) s H locs := hH
  exact xret_z hx hb hr hlocks hH hz1 h dX3_has_11
set_option maxHeartbeats 4000000 in
set_option maxRecDepth 100000 in
theorem kX3_fill (l : Launch) {D : va_G} {cy : Nat → ClassId} {ad : Nat → Nat} (hI : AdI ad) (j1 : Nat) (a2 : Int32) (K : ST → Prop) (x y : ST) (hj1 : j1 < 2) (h : wX3_fill j1 a2 K x) : Met l yX3_fill (Cond.code yX3_fill cX3_fill 5 none :: WL) ({ frames := 0, cells := 0, slots := 0, locals := 0 } : Room) (va_Pc [.ref (ad 30), .ref (ad (9 + j1)), .int a2, .ref (ad 20)] (PW D cy ad x y)) (va_Qv K (QW D (fun z => Wd ad cy z y)) (AW ad)) 0 0 (AW ad) := by
  refine Met.ofW (cc := cX3_fill) (maxL := 5) (ret := none) (by decide) rfl ?_
  intro p e s m args below meth c s₁ B0 hml hv
  obtain ⟨rfl, hP, hK, hN⟩ := hv
  have hr := B0.returns
  have hlocks := B0.notSynchronized
  have hts := atoms_spec (ws := (Cond.code yX3_fill cX3_fill 5 none :: WL)) B0.pre
  have B : Bd p s m ([Value.ref (ad 30), Value.ref (ad (9 + j1)), Value.int a2, Value.ref (ad 20)] : List Value).toArray c cX3_fill 5 RX3 D cy := ⟨B0.exec, B0.bytes, hml, findClass_of_methodNamed B0.named, fun w hw => hts w (List.mem_cons_of_mem _ hw), hK, hN⟩
  have hx := B0.exec
  have hb := B0.bytes
  have hO : AdOk ad (AW ad) := hI.self
  have hH : Hd D (AW ad) (Wd ad cy x y) s s.heap [] := ⟨hP, va_S.rf⟩
  have hl := lv_entry ([.ref (ad 30), .ref (ad (9 + j1)), .int a2, .ref (ad 20)]) (n := 5) (Nat.le_of_ble_eq_true rfl)
  rw [lg_entry_eq]
  generalize (lg_sl ([.ref (ad 30), .ref (ad (9 + j1)), .int a2, .ref (ad 20)]) ++ List.replicate (5 - (lg_sl ([.ref (ad 30), .ref (ad (9 + j1)), .int a2, .ref (ad 20)])).length) Slot.unset).toArray = ls at hl ⊢
  have hl : lv_has ls 5 [(0, .ref (ad 30)), (1, .ref (ad (9 + j1))), (2, .int a2), (3, .ref (ad 20))] := hl
  unfold wX3_fill at h
  refine lv_aload_n hx hb dX3_fill_0 rfl (lv_at hl 0 rfl) ?_
  refine lv_iconst (v := 0) hx hb dX3_fill_1 (by decide) ?_
  refine pf_20 B hH hO wk1_218 dX3_fill_2 (fun x1 e1 H locs hH => ?_)
  replace h := h x1 e1
  refine lv_iconst (v := 0) hx hb dX3_fill_5 (by decide) ?_
  refine lv_istore (lv' := [(4, .int 0), (0, .ref (ad 30)), (1, .ref (ad (9 + j1))), (2, .int a2), (3, .ref (ad 20))]) hx hb dX3_fill_6 hl (by decide) rfl (fun ls hl => ?_)
  obtain ⟨n_8, h⟩ := h
  have loop_8 : ∀ (n_8 : Nat) (v4_8 : Int32) (x_8 : ST) (H : Heap) (locs : List Loc) (ls : Array Slot), Hd D (AW ad) (Wd ad cy x_8 y) s H locs → lv_has ls 5 [(0, .ref (ad 30)), (1, .ref (ad (9 + j1))), (2, .int a2), (3, .ref (ad 20)), (4, .int v4_8)] → it (fun (_ : Int32) (_ : ST) => False) (FX3_fill_8 j1 a2 K) n_8 v4_8 x_8 → W p l e (headSpec (Cond.code yX3_fill cX3_fill 5 none :: WL) ({ frames := 0, cells := 0, slots := 0, locals := 0 } : Room)).room s m ([Value.ref (ad 30), Value.ref (ad (9 + j1)), Value.int a2, Value.ref (ad 20)] : List Value).toArray below meth c H locs 0 0 (MQ below (va_Qv K (QW D (fun z => Wd ad cy z y)) (AW ad)) ([Value.ref (ad 30), Value.ref (ad (9 + j1)), Value.int a2, Value.ref (ad 20)] : List Value).toArray s 0 0 (AW ad)) (F0 m 8 ls []) := by
    intro n_8
    induction n_8 with
    | zero => intro v4_8 x_8 H locs ls hH hl h; exact False.elim h
    | succ n_8 ih8 =>
      intro v4_8 x_8 H locs ls hH hl h
      refine lv_iload hx hb dX3_fill_8 (lv_at hl 4 rfl) ?_
      refine lv_iload_n hx hb dX3_fill_10 rfl (lv_at hl 2 rfl) ?_
      refine lv_icmp_ge (tgt := 53) hx hb dX3_fill_11 (by decide) (fun c8_1 => ?_) (fun c8_1 => ?_)
      · replace h := h.1 c8_1
        exact xret_v hx hb hr hlocks hH h dX3_fill_53
      · replace h := h.2 c8_1
        refine lv_aload_n hx hb dX3_fill_14 rfl (lv_at hl 3 rfl) ?_
        refine lv_aload_n hx hb dX3_fill_15 rfl (lv_at hl 1 rfl) ?_
        refine lv_iload hx hb dX3_fill_16 (lv_at hl 4 rfl) ?_
        obtain ⟨b8_2, h⟩ := h
        refine aldR B hH hj1 b8_2 dX3_fill_18 ?_
        obtain ⟨b8_3, h⟩ := h
        refine ald_20 B hH b8_3 dX3_fill_19 ?_
        refine lv_iconst (v := (-1)) hx hb dX3_fill_20 (by decide) ?_
        refine lv_icmp_eq (tgt := 47) hx hb dX3_fill_21 (by decide) (fun c8_4 => ?_) (fun c8_4 => ?_)
        · replace h := h.1 c8_4
          obtain ⟨v4_8_5, e8_5⟩ : ∃ z : Int32, z = v4_8 + 1 := ⟨_, rfl⟩
          replace h := h v4_8_5 e8_5
          refine lv_iinc (v := v4_8_5) (lv' := [(4, .int v4_8_5), (0, .ref (ad 30)), (1, .ref (ad (9 + j1))), (2, .int a2), (3, .ref (ad 20))]) hx hb dX3_fill_47 hl (k := 4) rfl (by rw [e8_5]; first | rfl | done) (by decide) rfl (fun ls hl => ?_)
          refine lv_goto (tgt := 8) hx hb dX3_fill_50 (by decide) ?_
          exact ih8 v4_8_5 x_8 _ _ _ hH (lv_sub hl [1, 2, 3, 4, 0] rfl) h
        · replace h := h.2 c8_4
          refine lv_aload_n hx hb dX3_fill_24 rfl (lv_at hl 0 rfl) ?_
          refine gr_31 B hH wk1_212 dX3_fill_25 ?_
          refine lv_aload_n hx hb dX3_fill_28 rfl (lv_at hl 0 rfl) ?_
          refine gf_20 B hH wk1_218 dX3_fill_29 ?_
          refine lv_aload_n hx hb dX3_fill_32 rfl (lv_at hl 1 rfl) ?_
          refine lv_iload hx hb dX3_fill_33 (lv_at hl 4 rfl) ?_
          refine aldR B hH hj1 b8_2 dX3_fill_35 ?_
          obtain ⟨b8_6, h⟩ := h
          refine ast_31 B hH hO b8_6 dX3_fill_36 (fun x8_7 e8_7 H locs hH => ?_)
          replace h := h x8_7 e8_7
          refine lv_aload_n hx hb dX3_fill_37 rfl (lv_at hl 0 rfl) ?_
          refine lv_dup hx hb dX3_fill_38 rfl ?_
          refine gf_20 B hH wk1_218 dX3_fill_39 ?_
          refine lv_iconst (v := 1) hx hb dX3_fill_42 (by decide) ?_
          refine lv_iadd hx hb dX3_fill_43 ?_
          refine pf_20 B hH hO wk1_218 dX3_fill_44 (fun x8_8 e8_8 H locs hH => ?_)
          replace h := h x8_8 e8_8
          obtain ⟨v4_8_9, e8_9⟩ : ∃ z : Int32, z = v4_8 + 1 := ⟨_, rfl⟩
          replace h := h v4_8_9 e8_9
          refine lv_iinc (v := v4_8_9) (lv' := [(4, .int v4_8_9), (0, .ref (ad 30)), (1, .ref (ad (9 + j1))), (2, .int a2), (3, .ref (ad 20))]) hx hb dX3_fill_47 hl (k := 4) rfl (by rw [e8_9]; first | rfl | done) (by decide) rfl (fun ls hl => ?_)
          refine lv_goto (tgt := 8) hx hb dX3_fill_50 (by decide) ?_
          exact ih8 v4_8_9 x8_8 _ _ _ hH (lv_sub hl [1, 2, 3, 4, 0] rfl) h
  exact loop_8 n_8 0 x1 _ _ _ hH (lv_sub hl [1, 2, 3, 4, 0] rfl) h
set_option maxHeartbeats 4000000 in
set_option maxRecDepth 100000 in
theorem kX3_carry (l : Launch) {D : va_G} {cy : Nat → ClassId} {ad : Nat → Nat} (hI : AdI ad) (a1 : Int32) (a2 : Int32) (K : ST → Prop) (x y : ST) (h : wX3_carry a1 a2 K x) : Met l yX3_carry (Cond.code yX3_carry cX3_carry 5 none :: WL) ({ frames := 0, cells := 0, slots := 0, locals := 0 } : Room) (va_Pc [.ref (ad 30), .int a1, .int a2] (PW D cy ad x y)) (va_Qv K (QW D (fun z => Wd ad cy z y)) (AW ad)) 0 0 (AW ad) := by
  refine Met.ofW (cc := cX3_carry) (maxL := 5) (ret := none) (by decide) rfl ?_
  intro p e s m args below meth c s₁ B0 hml hv
  obtain ⟨rfl, hP, hK, hN⟩ := hv
  have hr := B0.returns
  have hlocks := B0.notSynchronized
  have hts := atoms_spec (ws := (Cond.code yX3_carry cX3_carry 5 none :: WL)) B0.pre
  have B : Bd p s m ([Value.ref (ad 30), Value.int a1, Value.int a2] : List Value).toArray c cX3_carry 5 RX3 D cy := ⟨B0.exec, B0.bytes, hml, findClass_of_methodNamed B0.named, fun w hw => hts w (List.mem_cons_of_mem _ hw), hK, hN⟩
  have hx := B0.exec
  have hb := B0.bytes
  have hO : AdOk ad (AW ad) := hI.self
  have hH : Hd D (AW ad) (Wd ad cy x y) s s.heap [] := ⟨hP, va_S.rf⟩
  have hl := lv_entry ([.ref (ad 30), .int a1, .int a2]) (n := 5) (Nat.le_of_ble_eq_true rfl)
  rw [lg_entry_eq]
  generalize (lg_sl ([.ref (ad 30), .int a1, .int a2]) ++ List.replicate (5 - (lg_sl ([.ref (ad 30), .int a1, .int a2])).length) Slot.unset).toArray = ls at hl ⊢
  have hl : lv_has ls 5 [(0, .ref (ad 30)), (1, .int a1), (2, .int a2)] := hl
  unfold wX3_carry at h
  refine lv_aload_n hx hb dX3_carry_0 rfl (lv_at hl 0 rfl) ?_
  refine gr_31 B hH wk1_212 dX3_carry_1 ?_
  refine lv_iload_n hx hb dX3_carry_4 rfl (lv_at hl 1 rfl) ?_
  obtain ⟨b1, h⟩ := h
  refine ald_31 B hH b1 dX3_carry_5 ?_
  refine lv_topi (fun v3_2 e2 => ?_)
  replace h := h v3_2 e2
  refine lv_istore_n (lv' := [(3, .int v3_2), (0, .ref (ad 30)), (1, .int a1), (2, .int a2)]) hx hb dX3_carry_6 rfl hl (by decide) rfl (fun ls hl => ?_)
  refine lv_iload_n hx hb dX3_carry_7 rfl (lv_at hl 2 rfl) ?_
  refine lv_istore (lv' := [(4, .int a1), (3, .int v3_2), (0, .ref (ad 30)), (1, .int a1), (2, .int a2)]) hx hb dX3_carry_8 hl (by decide) rfl (fun ls hl => ?_)
  obtain ⟨n_10, h⟩ := h
  have loop_10 : ∀ (f3_10 : Int32) (n_10 : Nat) (v4_10 : Int32) (x_10 : ST) (H : Heap) (locs : List Loc) (ls : Array Slot), Hd D (AW ad) (Wd ad cy x_10 y) s H locs → lv_has ls 5 [(0, .ref (ad 30)), (1, .int a1), (2, .int a2), (3, .int f3_10), (4, .int v4_10)] → it (fun (_ : Int32) (_ : ST) => False) (FX3_carry_10 a1 a2 K f3_10) n_10 v4_10 x_10 → W p l e (headSpec (Cond.code yX3_carry cX3_carry 5 none :: WL) ({ frames := 0, cells := 0, slots := 0, locals := 0 } : Room)).room s m ([Value.ref (ad 30), Value.int a1, Value.int a2] : List Value).toArray below meth c H locs 0 0 (MQ below (va_Qv K (QW D (fun z => Wd ad cy z y)) (AW ad)) ([Value.ref (ad 30), Value.int a1, Value.int a2] : List Value).toArray s 0 0 (AW ad)) (F0 m 10 ls []) := by
    intro f3_10 n_10
    induction n_10 with
    | zero => intro v4_10 x_10 H locs ls hH hl h; exact False.elim h
    | succ n_10 ih10 =>
      intro v4_10 x_10 H locs ls hH hl h
      refine lv_iload hx hb dX3_carry_10 (lv_at hl 4 rfl) ?_
      refine lv_iload_n hx hb dX3_carry_12 rfl (lv_at hl 2 rfl) ?_
      refine lv_icmp_ge (tgt := 38) hx hb dX3_carry_13 (by decide) (fun c10_1 => ?_) (fun c10_1 => ?_)
      · replace h := h.1 c10_1
        refine lv_iload_n hx hb dX3_carry_38 rfl (lv_at hl 1 rfl) ?_
        refine lv_istore (lv' := [(4, .int a1), (0, .ref (ad 30)), (1, .int a1), (2, .int a2), (3, .int f3_10)]) hx hb dX3_carry_39 hl (by decide) rfl (fun ls hl => ?_)
        obtain ⟨n_41, h⟩ := h
        have loop_41 : ∀ (f3_41 : Int32) (n_41 : Nat) (v4_41 : Int32) (x_41 : ST) (H : Heap) (locs : List Loc) (ls : Array Slot), Hd D (AW ad) (Wd ad cy x_41 y) s H locs → lv_has ls 5 [(0, .ref (ad 30)), (2, .int a2), (3, .int f3_41), (4, .int v4_41)] → it (fun (_ : Int32) (_ : ST) => False) (FX3_carry_41 a2 K f3_41) n_41 v4_41 x_41 → W p l e (headSpec (Cond.code yX3_carry cX3_carry 5 none :: WL) ({ frames := 0, cells := 0, slots := 0, locals := 0 } : Room)).room s m ([Value.ref (ad 30), Value.int a1, Value.int a2] : List Value).toArray below meth c H locs 0 0 (MQ below (va_Qv K (QW D (fun z => Wd ad cy z y)) (AW ad)) ([Value.ref (ad 30), Value.int a1, Value.int a2] : List Value).toArray s 0 0 (AW ad)) (F0 m 41 ls []) := by
          intro f3_41 n_41
          induction n_41 with
          | zero => intro v4_41 x_41 H locs ls hH hl h; exact False.elim h
          | succ n_41 ih41 =>
            intro v4_41 x_41 H locs ls hH hl h
            refine lv_iload hx hb dX3_carry_41 (lv_at hl 3 rfl) ?_
            refine lv_iload_n hx hb dX3_carry_43 rfl (lv_at hl 1 rfl) ?_
            refine lv_icmp_le (tgt := 69) hx hb dX3_carry_44 (by decide) (fun c41_1 => ?_) (fun c41_1 => ?_)
            · replace h := h.1 c41_1
              refine lv_aload_n hx hb dX3_carry_69 rfl (lv_at hl 0 rfl) ?_
              refine gr_31 B hH wk1_212 dX3_carry_70 ?_
              refine lv_iload_n hx hb dX3_carry_73 rfl (lv_at hl 1 rfl) ?_
              refine lv_iload_n hx hb dX3_carry_74 rfl (lv_at hl 2 rfl) ?_
              obtain ⟨b41_2, h⟩ := h
              refine ast_31 B hH hO b41_2 dX3_carry_75 (fun x41_3 e41_3 H locs hH => ?_)
              replace h := h x41_3 e41_3
              exact xret_v hx hb hr hlocks hH h dX3_carry_76
            · replace h := h.2 c41_1
              refine lv_aload_n hx hb dX3_carry_47 rfl (lv_at hl 0 rfl) ?_
              refine gr_31 B hH wk1_212 dX3_carry_48 ?_
              refine lv_iload hx hb dX3_carry_51 (lv_at hl 3 rfl) ?_
              refine lv_aload_n hx hb dX3_carry_53 rfl (lv_at hl 0 rfl) ?_
              refine gr_31 B hH wk1_212 dX3_carry_54 ?_
              refine lv_iload hx hb dX3_carry_57 (lv_at hl 3 rfl) ?_
              refine lv_iconst (v := 1) hx hb dX3_carry_59 (by decide) ?_
              refine lv_isub hx hb dX3_carry_60 ?_
              obtain ⟨b41_4, h⟩ := h
              refine ald_31 B hH b41_4 dX3_carry_61 ?_
              obtain ⟨b41_5, h⟩ := h
              refine ast_31 B hH hO b41_5 dX3_carry_62 (fun x41_6 e41_6 H locs hH => ?_)
              replace h := h x41_6 e41_6
              obtain ⟨v4_41_7, e41_7⟩ : ∃ z : Int32, z = v4_41 + (-1) := ⟨_, rfl⟩
              replace h := h v4_41_7 e41_7
              refine lv_iinc (v := v4_41_7) (lv' := [(4, .int v4_41_7), (0, .ref (ad 30)), (2, .int a2), (3, .int f3_41)]) hx hb dX3_carry_63 hl (k := 3) rfl (by rw [e41_7]; first | rfl | done) (by decide) rfl (fun ls hl => ?_)
              refine lv_goto (tgt := 41) hx hb dX3_carry_66 (by decide) ?_
              exact ih41 v4_41_7 x41_6 _ _ _ hH (lv_sub hl [1, 2, 3, 0] rfl) h
        exact loop_41 f3_10 n_41 a1 x_10 _ _ _ hH (lv_sub hl [1, 3, 4, 0] rfl) h
      · replace h := h.2 c10_1
        refine lv_aload_n hx hb dX3_carry_16 rfl (lv_at hl 0 rfl) ?_
        refine gr_31 B hH wk1_212 dX3_carry_17 ?_
        refine lv_iload hx hb dX3_carry_20 (lv_at hl 4 rfl) ?_
        refine lv_aload_n hx hb dX3_carry_22 rfl (lv_at hl 0 rfl) ?_
        refine gr_31 B hH wk1_212 dX3_carry_23 ?_
        refine lv_iload hx hb dX3_carry_26 (lv_at hl 4 rfl) ?_
        refine lv_iconst (v := 1) hx hb dX3_carry_28 (by decide) ?_
        refine lv_iadd hx hb dX3_carry_29 ?_
        obtain ⟨b10_2, h⟩ := h
        refine ald_31 B hH b10_2 dX3_carry_30 ?_
        obtain ⟨b10_3, h⟩ := h
        refine ast_31 B hH hO b10_3 dX3_carry_31 (fun x10_4 e10_4 H locs hH => ?_)
        replace h := h x10_4 e10_4
        obtain ⟨v4_10_5, e10_5⟩ : ∃ z : Int32, z = v4_10 + 1 := ⟨_, rfl⟩
        replace h := h v4_10_5 e10_5
        refine lv_iinc (v := v4_10_5) (lv' := [(4, .int v4_10_5), (0, .ref (ad 30)), (1, .int a1), (2, .int a2), (3, .int f3_10)]) hx hb dX3_carry_32 hl (k := 4) rfl (by rw [e10_5]; first | rfl | done) (by decide) rfl (fun ls hl => ?_)
        refine lv_goto (tgt := 10) hx hb dX3_carry_35 (by decide) ?_
        exact ih10 v4_10_5 x10_4 _ _ _ hH (lv_sub hl [1, 2, 3, 4, 0] rfl) h
  exact loop_10 v3_2 n_10 a1 x _ _ _ hH (lv_sub hl [2, 3, 4, 1, 0] rfl) h
set_option maxHeartbeats 4000000 in
set_option maxRecDepth 100000 in
theorem kX3_mostBehind (l : Launch) {D : va_G} {cy : Nat → ClassId} {ad : Nat → Nat} (hI : AdI ad) (a1 : Int32) (a3 : Int32) (K : Int32 → ST → Prop) (x y : ST) (h : wX3_mostBehind a1 a3 K x) : Met l yX3_mostBehind (Cond.code yX3_mostBehind cX3_mostBehind 6 (some .int) :: WL) ({ frames := 1, cells := 0, slots := 0, locals := 27 } : Room) (va_Pc [.ref (ad 30), .int a1, .ref (ad 4), .int a3] (PW D cy ad x y)) (va_Qi K (QW D (fun z => Wd ad cy z y)) (AW ad)) 0 0 (AW ad) := by
  refine Met.ofW (cc := cX3_mostBehind) (maxL := 6) (ret := (some .int)) (by decide) rfl ?_
  intro p e s m args below meth c s₁ B0 hml hv
  obtain ⟨rfl, hP, hK, hN⟩ := hv
  have hr := B0.returns
  have hlocks := B0.notSynchronized
  have hts := atoms_spec (ws := (Cond.code yX3_mostBehind cX3_mostBehind 6 (some .int) :: WL)) B0.pre
  have B : Bd p s m ([Value.ref (ad 30), Value.int a1, Value.ref (ad 4), Value.int a3] : List Value).toArray c cX3_mostBehind 6 RX3 D cy := ⟨B0.exec, B0.bytes, hml, findClass_of_methodNamed B0.named, fun w hw => hts w (List.mem_cons_of_mem _ hw), hK, hN⟩
  have hx := B0.exec
  have hb := B0.bytes
  have hO : AdOk ad (AW ad) := hI.self
  have hH : Hd D (AW ad) (Wd ad cy x y) s s.heap [] := ⟨hP, va_S.rf⟩
  have hl := lv_entry ([.ref (ad 30), .int a1, .ref (ad 4), .int a3]) (n := 6) (Nat.le_of_ble_eq_true rfl)
  rw [lg_entry_eq]
  generalize (lg_sl ([.ref (ad 30), .int a1, .ref (ad 4), .int a3]) ++ List.replicate (6 - (lg_sl ([.ref (ad 30), .int a1, .ref (ad 4), .int a3])).length) Slot.unset).toArray = ls at hl ⊢
  have hl : lv_has ls 6 [(0, .ref (ad 30)), (1, .int a1), (2, .ref (ad 4)), (3, .int a3)] := hl
  unfold wX3_mostBehind at h
  refine lv_iconst (v := 0) hx hb dX3_mostBehind_0 (by decide) ?_
  refine lv_istore (lv' := [(4, .int 0), (0, .ref (ad 30)), (1, .int a1), (2, .ref (ad 4)), (3, .int a3)]) hx hb dX3_mostBehind_1 hl (by decide) rfl (fun ls hl => ?_)
  refine lv_iload_n hx hb dX3_mostBehind_3 rfl (lv_at hl 2 rfl) ?_
  refine lv_iconst (v := 1) hx hb dX3_mostBehind_4 (by decide) ?_
  refine lv_iadd hx hb dX3_mostBehind_5 ?_
  refine lv_topi (fun v5_1 e1 => ?_)
  replace h := h v5_1 e1
  refine lv_istore (lv' := [(5, .int v5_1), (4, .int 0), (0, .ref (ad 30)), (1, .int a1), (2, .ref (ad 4)), (3, .int a3)]) hx hb dX3_mostBehind_6 hl (by decide) rfl (fun ls hl => ?_)
  obtain ⟨n_8, h⟩ := h
  have loop_8 : ∀ (n_8 : Nat) (v4_8 : Int32) (v5_8 : Int32) (x_8 : ST) (H : Heap) (locs : List Loc) (ls : Array Slot), Hd D (AW ad) (Wd ad cy x_8 y) s H locs → lv_has ls 6 [(0, .ref (ad 30)), (1, .int a1), (2, .ref (ad 4)), (3, .int a3), (4, .int v4_8), (5, .int v5_8)] → it (fun (_ : Int32) (_ : Int32) (_ : ST) => False) (FX3_mostBehind_8 a1 a3 K) n_8 v4_8 v5_8 x_8 → W p l e (headSpec (Cond.code yX3_mostBehind cX3_mostBehind 6 (some .int) :: WL) ({ frames := 1, cells := 0, slots := 0, locals := 27 } : Room)).room s m ([Value.ref (ad 30), Value.int a1, Value.ref (ad 4), Value.int a3] : List Value).toArray below meth c H locs 0 0 (MQ below (va_Qi K (QW D (fun z => Wd ad cy z y)) (AW ad)) ([Value.ref (ad 30), Value.int a1, Value.ref (ad 4), Value.int a3] : List Value).toArray s 0 0 (AW ad)) (F0 m 8 ls []) := by
    intro n_8
    induction n_8 with
    | zero => intro v4_8 v5_8 x_8 H locs ls hH hl h; exact False.elim h
    | succ n_8 ih8 =>
      intro v4_8 v5_8 x_8 H locs ls hH hl h
      refine lv_iload hx hb dX3_mostBehind_8 (lv_at hl 5 rfl) ?_
      refine lv_aload_n hx hb dX3_mostBehind_10 rfl (lv_at hl 0 rfl) ?_
      refine gf_20 B hH wk1_218 dX3_mostBehind_11 ?_
      refine lv_icmp_ge (tgt := 65) hx hb dX3_mostBehind_14 (by decide) (fun c8_1 => ?_) (fun c8_1 => ?_)
      · replace h := h.1 c8_1
        refine lv_iload hx hb dX3_mostBehind_65 (lv_at hl 4 rfl) ?_
        exact xret_i hx hb hr hlocks hH h dX3_mostBehind_67
      · replace h := h.2 c8_1
        refine lv_aload_n hx hb dX3_mostBehind_17 rfl (lv_at hl 0 rfl) ?_
        refine gr_33 B hH wk1_216 dX3_mostBehind_18 ?_
        refine lv_iload hx hb dX3_mostBehind_21 (lv_at hl 5 rfl) ?_
        obtain ⟨b8_2, h⟩ := h
        refine ald_33 B hH b8_2 dX3_mostBehind_23 ?_
        refine lv_iload hx hb dX3_mostBehind_24 (lv_at hl 4 rfl) ?_
        refine lv_icmp_le (tgt := 59) hx hb dX3_mostBehind_26 (by decide) (fun c8_3 => ?_) (fun c8_3 => ?_)
        · replace h := h.1 c8_3
          obtain ⟨v5_8_4, e8_4⟩ : ∃ z : Int32, z = v5_8 + 1 := ⟨_, rfl⟩
          replace h := h v5_8_4 e8_4
          refine lv_iinc (v := v5_8_4) (lv' := [(5, .int v5_8_4), (0, .ref (ad 30)), (1, .int a1), (2, .ref (ad 4)), (3, .int a3), (4, .int v4_8)]) hx hb dX3_mostBehind_59 hl (k := 5) rfl (by rw [e8_4]; first | rfl | done) (by decide) rfl (fun ls hl => ?_)
          refine lv_goto (tgt := 8) hx hb dX3_mostBehind_62 (by decide) ?_
          exact ih8 v4_8 v5_8_4 x_8 _ _ _ hH (lv_sub hl [1, 2, 3, 4, 5, 0] rfl) h
        · replace h := h.2 c8_3
          refine lv_aload_n hx hb dX3_mostBehind_29 rfl (lv_at hl 2 rfl) ?_
          refine lv_aload_n hx hb dX3_mostBehind_30 rfl (lv_at hl 0 rfl) ?_
          refine gr_31 B hH wk1_212 dX3_mostBehind_31 ?_
          refine lv_iload_n hx hb dX3_mostBehind_34 rfl (lv_at hl 1 rfl) ?_
          obtain ⟨b8_5, h⟩ := h
          refine ald_31 B hH b8_5 dX3_mostBehind_35 ?_
          refine lv_aload_n hx hb dX3_mostBehind_36 rfl (lv_at hl 0 rfl) ?_
          refine gr_31 B hH wk1_212 dX3_mostBehind_37 ?_
          refine lv_iload hx hb dX3_mostBehind_40 (lv_at hl 5 rfl) ?_
          refine ald_31 B hH b8_2 dX3_mostBehind_42 ?_
          refine lv_iload_n hx hb dX3_mostBehind_43 rfl (lv_at hl 3 rfl) ?_
          refine xVi (Wf := (fun z => Wd ad cy z y)) (n := 3) (P := 4) (ci := 0) (As := [.int (gA x_8 31 a1), .int (gA x_8 31 v5_8), .int a3]) (rest := []) B hH hO (kX0_sign l hO.1 (gA x_8 31 a1) (gA x_8 31 v5_8) a3 _ x_8 y h) rfl rfl wk3_23 wk2_97 wk2_98 wk1_4 wk2_99 (by decide +kernel) rfl ⟨rfl, rfl⟩ ⟨Nat.le_of_ble_eq_true rfl, Nat.le_of_ble_eq_true rfl⟩ ⟨Nat.zero_le _, Nat.zero_le _⟩ hl.1 rfl (Nat.le_of_ble_eq_true rfl) dX3_mostBehind_44 (fun r8_6 x8_6 H locs h hH => ?_)
          replace hH : Hd D (AW ad) (Wd ad cy x8_6 y) s H locs := hH
          refine lv_if_ge (tgt := 59) hx hb dX3_mostBehind_47 (by decide) (fun c8_7 => ?_) (fun c8_7 => ?_)
          · replace h := h.1 c8_7
            obtain ⟨v5_8_8, e8_8⟩ : ∃ z : Int32, z = v5_8 + 1 := ⟨_, rfl⟩
            replace h := h v5_8_8 e8_8
            refine lv_iinc (v := v5_8_8) (lv' := [(5, .int v5_8_8), (0, .ref (ad 30)), (1, .int a1), (2, .ref (ad 4)), (3, .int a3), (4, .int v4_8)]) hx hb dX3_mostBehind_59 hl (k := 5) rfl (by rw [e8_8]; first | rfl | done) (by decide) rfl (fun ls hl => ?_)
            refine lv_goto (tgt := 8) hx hb dX3_mostBehind_62 (by decide) ?_
            exact ih8 v4_8 v5_8_8 x8_6 _ _ _ hH (lv_sub hl [1, 2, 3, 4, 5, 0] rfl) h
          · replace h := h.2 c8_7
            refine lv_aload_n hx hb dX3_mostBehind_50 rfl (lv_at hl 0 rfl) ?_
            refine gr_33 B hH wk1_216 dX3_mostBehind_51 ?_
            refine lv_iload hx hb dX3_mostBehind_54 (lv_at hl 5 rfl) ?_
            refine ald_33 B hH b8_2 dX3_mostBehind_56 ?_
            refine lv_topi (fun v4_8_9 e8_9 => ?_)
            replace h := h v4_8_9 e8_9
            refine lv_istore (lv' := [(4, .int v4_8_9), (0, .ref (ad 30)), (1, .int a1), (2, .ref (ad 4)), (3, .int a3), (5, .int v5_8)]) hx hb dX3_mostBehind_57 hl (by decide) rfl (fun ls hl => ?_)
            obtain ⟨v5_8_10, e8_10⟩ : ∃ z : Int32, z = v5_8 + 1 := ⟨_, rfl⟩
            replace h := h v5_8_10 e8_10
            refine lv_iinc (v := v5_8_10) (lv' := [(5, .int v5_8_10), (4, .int v4_8_9), (0, .ref (ad 30)), (1, .int a1), (2, .ref (ad 4)), (3, .int a3)]) hx hb dX3_mostBehind_59 hl (k := 5) rfl (by rw [e8_10]; first | rfl | done) (by decide) rfl (fun ls hl => ?_)
            refine lv_goto (tgt := 8) hx hb dX3_mostBehind_62 (by decide) ?_
            exact ih8 v4_8_9 v5_8_10 x8_6 _ _ _ hH (lv_sub hl [2, 3, 4, 5, 1, 0] rfl) h
  exact loop_8 n_8 0 v5_1 x _ _ _ hH (lv_sub hl [2, 3, 4, 5, 1, 0] rfl) h
set_option maxHeartbeats 4000000 in
set_option maxRecDepth 100000 in
theorem kX3_findOuts (l : Launch) {D : va_G} {cy : Nat → ClassId} {ad : Nat → Nat} (hI : AdI ad) (a2 : Int32) (K : ST → Prop) (x y : ST) (h : wX3_findOuts a2 K x) : Met l yX3_findOuts (Cond.code yX3_findOuts cX3_findOuts 8 none :: WL) ({ frames := 2, cells := 0, slots := 0, locals := 52 } : Room) (va_Pc [.ref (ad 30), .ref (ad 4), .int a2] (PW D cy ad x y)) (va_Qv K (QW D (fun z => Wd ad cy z y)) (AW ad)) 0 0 (AW ad) := by
  refine Met.ofW (cc := cX3_findOuts) (maxL := 8) (ret := none) (by decide) rfl ?_
  intro p e s m args below meth c s₁ B0 hml hv
  obtain ⟨rfl, hP, hK, hN⟩ := hv
  have hr := B0.returns
  have hlocks := B0.notSynchronized
  have hts := atoms_spec (ws := (Cond.code yX3_findOuts cX3_findOuts 8 none :: WL)) B0.pre
  have B : Bd p s m ([Value.ref (ad 30), Value.ref (ad 4), Value.int a2] : List Value).toArray c cX3_findOuts 8 RX3 D cy := ⟨B0.exec, B0.bytes, hml, findClass_of_methodNamed B0.named, fun w hw => hts w (List.mem_cons_of_mem _ hw), hK, hN⟩
  have hx := B0.exec
  have hb := B0.bytes
  have hO : AdOk ad (AW ad) := hI.self
  have hH : Hd D (AW ad) (Wd ad cy x y) s s.heap [] := ⟨hP, va_S.rf⟩
  have hl := lv_entry ([.ref (ad 30), .ref (ad 4), .int a2]) (n := 8) (Nat.le_of_ble_eq_true rfl)
  rw [lg_entry_eq]
  generalize (lg_sl ([.ref (ad 30), .ref (ad 4), .int a2]) ++ List.replicate (8 - (lg_sl ([.ref (ad 30), .ref (ad 4), .int a2])).length) Slot.unset).toArray = ls at hl ⊢
  have hl : lv_has ls 8 [(0, .ref (ad 30)), (1, .ref (ad 4)), (2, .int a2)] := hl
  unfold wX3_findOuts at h
  refine lv_iconst (v := 0) hx hb dX3_findOuts_0 (by decide) ?_
  refine lv_istore_n (lv' := [(3, .int 0), (0, .ref (ad 30)), (1, .ref (ad 4)), (2, .int a2)]) hx hb dX3_findOuts_1 rfl hl (by decide) rfl (fun ls hl => ?_)
  refine lv_aload_n hx hb dX3_findOuts_2 rfl (lv_at hl 1 rfl) ?_
  refine gf_20 B hH wk1_218 dX3_findOuts_3 ?_
  refine lv_iconst (v := 1) hx hb dX3_findOuts_6 (by decide) ?_
  refine lv_isub hx hb dX3_findOuts_7 ?_
  refine lv_topi (fun v4_1 e1 => ?_)
  replace h := h v4_1 e1
  refine lv_istore (lv' := [(4, .int v4_1), (3, .int 0), (0, .ref (ad 30)), (1, .ref (ad 4)), (2, .int a2)]) hx hb dX3_findOuts_8 hl (by decide) rfl (fun ls hl => ?_)
  obtain ⟨n_10, h⟩ := h
  have loop_10 : ∀ (n_10 : Nat) (v3_10 : Int32) (v4_10 : Int32) (x_10 : ST) (H : Heap) (locs : List Loc) (ls : Array Slot), Hd D (AW ad) (Wd ad cy x_10 y) s H locs → lv_has ls 8 [(0, .ref (ad 30)), (1, .ref (ad 4)), (2, .int a2), (3, .int v3_10), (4, .int v4_10)] → it (fun (_ : Int32) (_ : Int32) (_ : ST) => False) (FX3_findOuts_10 a2 K) n_10 v3_10 v4_10 x_10 → W p l e (headSpec (Cond.code yX3_findOuts cX3_findOuts 8 none :: WL) ({ frames := 2, cells := 0, slots := 0, locals := 52 } : Room)).room s m ([Value.ref (ad 30), Value.ref (ad 4), Value.int a2] : List Value).toArray below meth c H locs 0 0 (MQ below (va_Qv K (QW D (fun z => Wd ad cy z y)) (AW ad)) ([Value.ref (ad 30), Value.ref (ad 4), Value.int a2] : List Value).toArray s 0 0 (AW ad)) (F0 m 10 ls []) := by
    intro n_10
    induction n_10 with
    | zero => intro v3_10 v4_10 x_10 H locs ls hH hl h; exact False.elim h
    | succ n_10 ih10 =>
      intro v3_10 v4_10 x_10 H locs ls hH hl h
      refine lv_iload hx hb dX3_findOuts_10 (lv_at hl 4 rfl) ?_
      refine lv_if_lt (tgt := 50) hx hb dX3_findOuts_12 (by decide) (fun c10_1 => ?_) (fun c10_1 => ?_)
      · replace h := h.1 c10_1
        refine lv_aload_n hx hb dX3_findOuts_50 rfl (lv_at hl 0 rfl) ?_
        refine lv_aload_n hx hb dX3_findOuts_51 rfl (lv_at hl 0 rfl) ?_
        refine gf_20 B hH wk1_218 dX3_findOuts_52 ?_
        refine lv_iload_n hx hb dX3_findOuts_55 rfl (lv_at hl 3 rfl) ?_
        refine lv_isub hx hb dX3_findOuts_56 ?_
        refine pf_21 B hH hO wk1_220 dX3_findOuts_57 (fun x10_2 e10_2 H locs hH => ?_)
        replace h := h x10_2 e10_2
        refine lv_iload_n hx hb dX3_findOuts_60 rfl (lv_at hl 3 rfl) ?_
        refine lv_istore (lv' := [(4, .int v3_10), (0, .ref (ad 30)), (1, .ref (ad 4)), (2, .int a2), (3, .int v3_10)]) hx hb dX3_findOuts_61 hl (by decide) rfl (fun ls hl => ?_)
        refine lv_iconst (v := (-1)) hx hb dX3_findOuts_63 (by decide) ?_
        refine lv_istore (lv' := [(5, .int ((-1))), (4, .int v3_10), (0, .ref (ad 30)), (1, .ref (ad 4)), (2, .int a2), (3, .int v3_10)]) hx hb dX3_findOuts_64 hl (by decide) rfl (fun ls hl => ?_)
        refine lv_iconst (v := 0) hx hb dX3_findOuts_66 (by decide) ?_
        refine lv_istore (lv' := [(6, .int 0), (5, .int ((-1))), (4, .int v3_10), (0, .ref (ad 30)), (1, .ref (ad 4)), (2, .int a2), (3, .int v3_10)]) hx hb dX3_findOuts_67 hl (by decide) rfl (fun ls hl => ?_)
        obtain ⟨n_69, h⟩ := h
        have loop_69 : ∀ (n_69 : Nat) (v4_69 : Int32) (v5_69 : Int32) (v6_69 : Int32) (x_69 : ST) (H : Heap) (locs : List Loc) (ls : Array Slot), Hd D (AW ad) (Wd ad cy x_69 y) s H locs → lv_has ls 8 [(0, .ref (ad 30)), (1, .ref (ad 4)), (2, .int a2), (4, .int v4_69), (5, .int v5_69), (6, .int v6_69)] → it (fun (_ : Int32) (_ : Int32) (_ : Int32) (_ : ST) => False) (FX3_findOuts_69 a2 K) n_69 v4_69 v5_69 v6_69 x_69 → W p l e (headSpec (Cond.code yX3_findOuts cX3_findOuts 8 none :: WL) ({ frames := 2, cells := 0, slots := 0, locals := 52 } : Room)).room s m ([Value.ref (ad 30), Value.ref (ad 4), Value.int a2] : List Value).toArray below meth c H locs 0 0 (MQ below (va_Qv K (QW D (fun z => Wd ad cy z y)) (AW ad)) ([Value.ref (ad 30), Value.ref (ad 4), Value.int a2] : List Value).toArray s 0 0 (AW ad)) (F0 m 69 ls []) := by
          intro n_69
          induction n_69 with
          | zero => intro v4_69 v5_69 v6_69 x_69 H locs ls hH hl h; exact False.elim h
          | succ n_69 ih69 =>
            intro v4_69 v5_69 v6_69 x_69 H locs ls hH hl h
            refine lv_iload hx hb dX3_findOuts_69 (lv_at hl 5 rfl) ?_
            refine lv_aload_n hx hb dX3_findOuts_71 rfl (lv_at hl 0 rfl) ?_
            refine gf_20 B hH wk1_218 dX3_findOuts_72 ?_
            refine lv_icmp_ge (tgt := 160) hx hb dX3_findOuts_75 (by decide) (fun c69_1 => ?_) (fun c69_1 => ?_)
            · replace h := h.1 c69_1
              exact xret_v hx hb hr hlocks hH h dX3_findOuts_160
            · replace h := h.2 c69_1
              refine lv_aload_n hx hb dX3_findOuts_78 rfl (lv_at hl 0 rfl) ?_
              refine gr_33 B hH wk1_216 dX3_findOuts_79 ?_
              refine lv_iload hx hb dX3_findOuts_82 (lv_at hl 5 rfl) ?_
              obtain ⟨b69_2, h⟩ := h
              refine ald_33 B hH b69_2 dX3_findOuts_84 ?_
              refine lv_iload hx hb dX3_findOuts_85 (lv_at hl 3 rfl) ?_
              refine lv_icmp_ne (tgt := 117) hx hb dX3_findOuts_87 (by decide) (fun c69_3 => ?_) (fun c69_3 => ?_)
              · replace h := h.1 c69_3
                refine lv_iconst (v := 0) hx hb dX3_findOuts_117 (by decide) ?_
                refine lv_istore (lv' := [(7, .int 0), (0, .ref (ad 30)), (1, .ref (ad 4)), (2, .int a2), (4, .int v4_69), (5, .int v5_69), (6, .int v6_69)]) hx hb dX3_findOuts_118 hl (by decide) rfl (fun ls hl => ?_)
                refine lv_aload_n hx hb dX3_findOuts_120 rfl (lv_at hl 1 rfl) ?_
                refine gr_32 B hH wk1_214 dX3_findOuts_121 ?_
                refine lv_iload hx hb dX3_findOuts_124 (lv_at hl 6 rfl) ?_
                refine lv_iload hx hb dX3_findOuts_126 (lv_at hl 0 rfl) ?_
                refine lv_if_ne (tgt := 135) hx hb dX3_findOuts_128 (by decide) (fun cq => absurd (by decide) cq) (fun _ => ?_)
                refine lv_iconst (v := 1) hx hb dX3_findOuts_131 (by decide) ?_
                refine lv_goto (tgt := 136) hx hb dX3_findOuts_132 (by decide) ?_
                refine ast_32 B hH hO b69_2 (Or.inr rfl) dX3_findOuts_136 (fun x69_4 e69_4 H locs hH => ?_)
                replace h := h x69_4 e69_4
                refine lv_iload hx hb dX3_findOuts_137 (lv_at hl 0 rfl) ?_
                refine lv_if_eq (tgt := 154) hx hb dX3_findOuts_139 (by decide) (fun _ => ?_) (fun cq => absurd (by decide) cq)
                obtain ⟨v6_69_5, e69_5⟩ : ∃ z : Int32, z = v6_69 + 1 := ⟨_, rfl⟩
                replace h := h v6_69_5 e69_5
                refine lv_iinc (v := v6_69_5) (lv' := [(6, .int v6_69_5), (7, .int 0), (0, .ref (ad 30)), (1, .ref (ad 4)), (2, .int a2), (4, .int v4_69), (5, .int v5_69)]) hx hb dX3_findOuts_154 hl (k := 6) rfl (by rw [e69_5]; first | rfl | done) (by decide) rfl (fun ls hl => ?_)
                refine lv_goto (tgt := 69) hx hb dX3_findOuts_157 (by decide) ?_
                exact ih69 v4_69 v5_69 v6_69_5 x69_4 _ _ _ hH (lv_sub hl [2, 3, 4, 5, 6, 0] rfl) h
              · replace h := h.2 c69_3
                refine lv_iload hx hb dX3_findOuts_90 (lv_at hl 4 rfl) ?_
                refine lv_iconst (v := (-1)) hx hb dX3_findOuts_92 (by decide) ?_
                refine lv_icmp_eq (tgt := 113) hx hb dX3_findOuts_93 (by decide) (fun c69_6 => ?_) (fun c69_6 => ?_)
                · replace h := h.1 c69_6
                  refine lv_iconst (v := 1) hx hb dX3_findOuts_113 (by decide) ?_
                  refine lv_goto (tgt := 118) hx hb dX3_findOuts_114 (by decide) ?_
                  refine lv_istore (lv' := [(7, .int 1), (0, .ref (ad 30)), (1, .ref (ad 4)), (2, .int a2), (4, .int v4_69), (5, .int v5_69), (6, .int v6_69)]) hx hb dX3_findOuts_118 hl (by decide) rfl (fun ls hl => ?_)
                  refine lv_aload_n hx hb dX3_findOuts_120 rfl (lv_at hl 1 rfl) ?_
                  refine gr_32 B hH wk1_214 dX3_findOuts_121 ?_
                  refine lv_iload hx hb dX3_findOuts_124 (lv_at hl 6 rfl) ?_
                  refine lv_iload hx hb dX3_findOuts_126 (lv_at hl 0 rfl) ?_
                  refine lv_if_ne (tgt := 135) hx hb dX3_findOuts_128 (by decide) (fun _ => ?_) (fun cq => absurd cq (by decide))
                  refine lv_iconst (v := 0) hx hb dX3_findOuts_135 (by decide) ?_
                  refine ast_32 B hH hO b69_2 (Or.inl rfl) dX3_findOuts_136 (fun x69_7 e69_7 H locs hH => ?_)
                  replace h := h x69_7 e69_7
                  refine lv_iload hx hb dX3_findOuts_137 (lv_at hl 0 rfl) ?_
                  refine lv_if_eq (tgt := 154) hx hb dX3_findOuts_139 (by decide) (fun cq => absurd cq (by decide)) (fun _ => ?_)
                  refine lv_aload_n hx hb dX3_findOuts_142 rfl (lv_at hl 1 rfl) ?_
                  refine gr_31 B hH wk1_212 dX3_findOuts_143 ?_
                  refine lv_iload hx hb dX3_findOuts_146 (lv_at hl 6 rfl) ?_
                  refine ald_31 B hH b69_2 dX3_findOuts_148 ?_
                  refine lv_topi (fun v5_69_8 e69_8 => ?_)
                  replace h := h v5_69_8 e69_8
                  refine lv_istore (lv' := [(5, .int v5_69_8), (7, .int 1), (0, .ref (ad 30)), (1, .ref (ad 4)), (2, .int a2), (4, .int v4_69), (6, .int v6_69)]) hx hb dX3_findOuts_149 hl (by decide) rfl (fun ls hl => ?_)
                  obtain ⟨v4_69_9, e69_9⟩ : ∃ z : Int32, z = v4_69 + (-1) := ⟨_, rfl⟩
                  replace h := h v4_69_9 e69_9
                  refine lv_iinc (v := v4_69_9) (lv' := [(4, .int v4_69_9), (5, .int v5_69_8), (7, .int 1), (0, .ref (ad 30)), (1, .ref (ad 4)), (2, .int a2), (6, .int v6_69)]) hx hb dX3_findOuts_151 hl (k := 5) rfl (by rw [e69_9]; first | rfl | done) (by decide) rfl (fun ls hl => ?_)
                  obtain ⟨v6_69_10, e69_10⟩ : ∃ z : Int32, z = v6_69 + 1 := ⟨_, rfl⟩
                  replace h := h v6_69_10 e69_10
                  refine lv_iinc (v := v6_69_10) (lv' := [(6, .int v6_69_10), (4, .int v4_69_9), (5, .int v5_69_8), (7, .int 1), (0, .ref (ad 30)), (1, .ref (ad 4)), (2, .int a2)]) hx hb dX3_findOuts_154 hl (k := 6) rfl (by rw [e69_10]; first | rfl | done) (by decide) rfl (fun ls hl => ?_)
                  refine lv_goto (tgt := 69) hx hb dX3_findOuts_157 (by decide) ?_
                  exact ih69 v4_69_9 v5_69_8 v6_69_10 x69_7 _ _ _ hH (lv_sub hl [4, 5, 6, 1, 2, 0] rfl) h
                · replace h := h.2 c69_6
                  refine lv_aload_n hx hb dX3_findOuts_96 rfl (lv_at hl 1 rfl) ?_
                  refine lv_iload hx hb dX3_findOuts_97 (lv_at hl 4 rfl) ?_
                  refine lv_aload_n hx hb dX3_findOuts_99 rfl (lv_at hl 0 rfl) ?_
                  refine gr_31 B hH wk1_212 dX3_findOuts_100 ?_
                  refine lv_iload hx hb dX3_findOuts_103 (lv_at hl 5 rfl) ?_
                  refine ald_31 B hH b69_2 dX3_findOuts_105 ?_
                  refine lv_iload_n hx hb dX3_findOuts_106 rfl (lv_at hl 2 rfl) ?_
                  refine xVi (Wf := (fun z => Wd ad cy z y)) (n := 3) (P := 4) (ci := 0) (As := [.int v5_69, .int (gA x_69 31 v6_69), .int a2]) (rest := []) B hH hO (kX0_sign l hO.1 v5_69 (gA x_69 31 v6_69) a2 _ x_69 y h) rfl rfl wk3_23 wk2_97 wk2_98 wk1_4 wk2_99 (by decide +kernel) rfl ⟨rfl, rfl⟩ ⟨Nat.le_of_ble_eq_true rfl, Nat.le_of_ble_eq_true rfl⟩ ⟨Nat.zero_le _, Nat.zero_le _⟩ hl.1 rfl (Nat.le_of_ble_eq_true rfl) dX3_findOuts_107 (fun r69_11 x69_11 H locs h hH => ?_)
                  replace hH : Hd D (AW ad) (Wd ad cy x69_11 y) s H locs := hH
                  refine lv_if_ge (tgt := 117) hx hb dX3_findOuts_110 (by decide) (fun c69_12 => ?_) (fun c69_12 => ?_)
                  · replace h := h.1 c69_12
                    refine lv_iconst (v := 0) hx hb dX3_findOuts_117 (by decide) ?_
                    refine lv_istore (lv' := [(7, .int 0), (0, .ref (ad 30)), (1, .ref (ad 4)), (2, .int a2), (4, .int v4_69), (5, .int v5_69), (6, .int v6_69)]) hx hb dX3_findOuts_118 hl (by decide) rfl (fun ls hl => ?_)
                    refine lv_aload_n hx hb dX3_findOuts_120 rfl (lv_at hl 1 rfl) ?_
                    refine gr_32 B hH wk1_214 dX3_findOuts_121 ?_
                    refine lv_iload hx hb dX3_findOuts_124 (lv_at hl 6 rfl) ?_
                    refine lv_iload hx hb dX3_findOuts_126 (lv_at hl 0 rfl) ?_
                    refine lv_if_ne (tgt := 135) hx hb dX3_findOuts_128 (by decide) (fun cq => absurd (by decide) cq) (fun _ => ?_)
                    refine lv_iconst (v := 1) hx hb dX3_findOuts_131 (by decide) ?_
                    refine lv_goto (tgt := 136) hx hb dX3_findOuts_132 (by decide) ?_
                    refine ast_32 B hH hO b69_2 (Or.inr rfl) dX3_findOuts_136 (fun x69_13 e69_13 H locs hH => ?_)
                    replace h := h x69_13 e69_13
                    refine lv_iload hx hb dX3_findOuts_137 (lv_at hl 0 rfl) ?_
                    refine lv_if_eq (tgt := 154) hx hb dX3_findOuts_139 (by decide) (fun _ => ?_) (fun cq => absurd (by decide) cq)
                    obtain ⟨v6_69_14, e69_14⟩ : ∃ z : Int32, z = v6_69 + 1 := ⟨_, rfl⟩
                    replace h := h v6_69_14 e69_14
                    refine lv_iinc (v := v6_69_14) (lv' := [(6, .int v6_69_14), (7, .int 0), (0, .ref (ad 30)), (1, .ref (ad 4)), (2, .int a2), (4, .int v4_69), (5, .int v5_69)]) hx hb dX3_findOuts_154 hl (k := 6) rfl (by rw [e69_14]; first | rfl | done) (by decide) rfl (fun ls hl => ?_)
                    refine lv_goto (tgt := 69) hx hb dX3_findOuts_157 (by decide) ?_
                    exact ih69 v4_69 v5_69 v6_69_14 x69_13 _ _ _ hH (lv_sub hl [2, 3, 4, 5, 6, 0] rfl) h
                  · replace h := h.2 c69_12
                    refine lv_iconst (v := 1) hx hb dX3_findOuts_113 (by decide) ?_
                    refine lv_goto (tgt := 118) hx hb dX3_findOuts_114 (by decide) ?_
                    refine lv_istore (lv' := [(7, .int 1), (0, .ref (ad 30)), (1, .ref (ad 4)), (2, .int a2), (4, .int v4_69), (5, .int v5_69), (6, .int v6_69)]) hx hb dX3_findOuts_118 hl (by decide) rfl (fun ls hl => ?_)
                    refine lv_aload_n hx hb dX3_findOuts_120 rfl (lv_at hl 1 rfl) ?_
                    refine gr_32 B hH wk1_214 dX3_findOuts_121 ?_
                    refine lv_iload hx hb dX3_findOuts_124 (lv_at hl 6 rfl) ?_
                    refine lv_iload hx hb dX3_findOuts_126 (lv_at hl 0 rfl) ?_
                    refine lv_if_ne (tgt := 135) hx hb dX3_findOuts_128 (by decide) (fun _ => ?_) (fun cq => absurd cq (by decide))
                    refine lv_iconst (v := 0) hx hb dX3_findOuts_135 (by decide) ?_
                    refine ast_32 B hH hO b69_2 (Or.inl rfl) dX3_findOuts_136 (fun x69_15 e69_15 H locs hH => ?_)
                    replace h := h x69_15 e69_15
                    refine lv_iload hx hb dX3_findOuts_137 (lv_at hl 0 rfl) ?_
                    refine lv_if_eq (tgt := 154) hx hb dX3_findOuts_139 (by decide) (fun cq => absurd cq (by decide)) (fun _ => ?_)
                    refine lv_aload_n hx hb dX3_findOuts_142 rfl (lv_at hl 1 rfl) ?_
                    refine gr_31 B hH wk1_212 dX3_findOuts_143 ?_
                    refine lv_iload hx hb dX3_findOuts_146 (lv_at hl 6 rfl) ?_
                    refine ald_31 B hH b69_2 dX3_findOuts_148 ?_
                    refine lv_topi (fun v5_69_16 e69_16 => ?_)
                    replace h := h v5_69_16 e69_16
                    refine lv_istore (lv' := [(5, .int v5_69_16), (7, .int 1), (0, .ref (ad 30)), (1, .ref (ad 4)), (2, .int a2), (4, .int v4_69), (6, .int v6_69)]) hx hb dX3_findOuts_149 hl (by decide) rfl (fun ls hl => ?_)
                    obtain ⟨v4_69_17, e69_17⟩ : ∃ z : Int32, z = v4_69 + (-1) := ⟨_, rfl⟩
                    replace h := h v4_69_17 e69_17
                    refine lv_iinc (v := v4_69_17) (lv' := [(4, .int v4_69_17), (5, .int v5_69_16), (7, .int 1), (0, .ref (ad 30)), (1, .ref (ad 4)), (2, .int a2), (6, .int v6_69)]) hx hb dX3_findOuts_151 hl (k := 5) rfl (by rw [e69_17]; first | rfl | done) (by decide) rfl (fun ls hl => ?_)
                    obtain ⟨v6_69_18, e69_18⟩ : ∃ z : Int32, z = v6_69 + 1 := ⟨_, rfl⟩
                    replace h := h v6_69_18 e69_18
                    refine lv_iinc (v := v6_69_18) (lv' := [(6, .int v6_69_18), (4, .int v4_69_17), (5, .int v5_69_16), (7, .int 1), (0, .ref (ad 30)), (1, .ref (ad 4)), (2, .int a2)]) hx hb dX3_findOuts_154 hl (k := 6) rfl (by rw [e69_18]; first | rfl | done) (by decide) rfl (fun ls hl => ?_)
                    refine lv_goto (tgt := 69) hx hb dX3_findOuts_157 (by decide) ?_
                    exact ih69 v4_69_17 v5_69_16 v6_69_18 x69_15 _ _ _ hH (lv_sub hl [4, 5, 6, 1, 2, 0] rfl) h
        exact loop_69 n_69 v3_10 (-1) 0 x10_2 _ _ _ hH (lv_sub hl [3, 4, 5, 2, 1, 0] rfl) h
      · replace h := h.2 c10_1
        refine lv_aload_n hx hb dX3_findOuts_15 rfl (lv_at hl 0 rfl) ?_
        refine gr_33 B hH wk1_216 dX3_findOuts_16 ?_
        refine lv_iload hx hb dX3_findOuts_19 (lv_at hl 4 rfl) ?_
        refine lv_iconst (v := 1) hx hb dX3_findOuts_21 (by decide) ?_
        refine lv_aload_n hx hb dX3_findOuts_22 rfl (lv_at hl 0 rfl) ?_
        refine lv_iload hx hb dX3_findOuts_23 (lv_at hl 4 rfl) ?_
        refine lv_aload_n hx hb dX3_findOuts_25 rfl (lv_at hl 1 rfl) ?_
        refine lv_iload_n hx hb dX3_findOuts_26 rfl (lv_at hl 2 rfl) ?_
        refine xVi (Wf := (fun z => Wd ad cy z y)) (n := 3) (P := 30) (ci := 3) (As := [.int v4_10, .ref (ad 4), .int a2]) (rest := [.int 1, .int v4_10, .ref (ad 33)]) B hH hO (kX3_mostBehind l hO.1 v4_10 a2 _ x_10 y h) rfl rfl wk3_19 wk3_21 wkp_11 wk1_7 wk3_22 (by decide +kernel) rfl ⟨rfl, rfl⟩ ⟨Nat.le_of_ble_eq_true rfl, Nat.le_of_ble_eq_true rfl⟩ ⟨Nat.zero_le _, Nat.zero_le _⟩ hl.1 rfl (Nat.le_of_ble_eq_true rfl) dX3_findOuts_27 (fun r10_3 x10_3 H locs h hH => ?_)
        replace hH : Hd D (AW ad) (Wd ad cy x10_3 y) s H locs := hH
        refine lv_iadd hx hb dX3_findOuts_30 ?_
        obtain ⟨b10_4, h⟩ := h
        refine ast_33 B hH hO b10_4 dX3_findOuts_31 (fun x10_5 e10_5 H locs hH => ?_)
        replace h := h x10_5 e10_5
        refine lv_iload_n hx hb dX3_findOuts_32 rfl (lv_at hl 3 rfl) ?_
        refine lv_aload_n hx hb dX3_findOuts_33 rfl (lv_at hl 0 rfl) ?_
        refine gr_33 B hH wk1_216 dX3_findOuts_34 ?_
        refine lv_iload hx hb dX3_findOuts_37 (lv_at hl 4 rfl) ?_
        refine ald_33 B hH b10_4 dX3_findOuts_39 ?_
        refine va_mmax hx hb (B.2.2.1.trans hl.1.symm) B.2.2.2.1 (B.2.2.2.2.1 _ wk3_24) (B.2.2.2.2.1 _ wk2_178) (B.2.2.2.2.1 _ wk1_9) (B.2.2.2.2.1 _ wk2_179) (Nat.le_of_ble_eq_true rfl) (Nat.le_of_ble_eq_true rfl) (Nat.zero_le _) (Nat.zero_le _) dX3_findOuts_40 ?_
        refine lv_topi (fun v3_10_6 e10_6 => ?_)
        replace h := h v3_10_6 e10_6
        refine lv_istore_n (lv' := [(3, .int v3_10_6), (0, .ref (ad 30)), (1, .ref (ad 4)), (2, .int a2), (4, .int v4_10)]) hx hb dX3_findOuts_43 rfl hl (by decide) rfl (fun ls hl => ?_)
        obtain ⟨v4_10_7, e10_7⟩ : ∃ z : Int32, z = v4_10 + (-1) := ⟨_, rfl⟩
        replace h := h v4_10_7 e10_7
        refine lv_iinc (v := v4_10_7) (lv' := [(4, .int v4_10_7), (3, .int v3_10_6), (0, .ref (ad 30)), (1, .ref (ad 4)), (2, .int a2)]) hx hb dX3_findOuts_44 hl (k := 4) rfl (by rw [e10_7]; first | rfl | done) (by decide) rfl (fun ls hl => ?_)
        refine lv_goto (tgt := 10) hx hb dX3_findOuts_47 (by decide) ?_
        exact ih10 v3_10_6 v4_10_7 x10_5 _ _ _ hH (lv_sub hl [2, 3, 4, 1, 0] rfl) h
  exact loop_10 n_10 0 v4_1 x _ _ _ hH (lv_sub hl [2, 3, 4, 1, 0] rfl) h
set_option maxHeartbeats 4000000 in
set_option maxRecDepth 100000 in
theorem kX3_draw (l : Launch) {D : va_G} {cy : Nat → ClassId} {ad : Nat → Nat} (hI : AdI ad) (a1 : Int32) (a2 : Int32) (a4 : Int32) (K : Int32 → ST → Prop) (x y : ST) (h : wX3_draw a1 a2 a4 K x) : Met l yX3_draw (Cond.code yX3_draw cX3_draw 11 (some .int) :: WL) ({ frames := 1, cells := 0, slots := 0, locals := 27 } : Room) (va_Pc [.ref (ad 30), .int a1, .int a2, .ref (ad 4), .int a4] (PW D cy ad x y)) (va_Qi K (QW D (fun z => Wd ad cy z y)) (AW ad)) 0 0 (AW ad) := by
  refine Met.ofW (cc := cX3_draw) (maxL := 11) (ret := (some .int)) (by decide) rfl ?_
  intro p e s m args below meth c s₁ B0 hml hv
  obtain ⟨rfl, hP, hK, hN⟩ := hv
  have hr := B0.returns
  have hlocks := B0.notSynchronized
  have hts := atoms_spec (ws := (Cond.code yX3_draw cX3_draw 11 (some .int) :: WL)) B0.pre
  have B : Bd p s m ([Value.ref (ad 30), Value.int a1, Value.int a2, Value.ref (ad 4), Value.int a4] : List Value).toArray c cX3_draw 11 RX3 D cy := ⟨B0.exec, B0.bytes, hml, findClass_of_methodNamed B0.named, fun w hw => hts w (List.mem_cons_of_mem _ hw), hK, hN⟩
  have hx := B0.exec
  have hb := B0.bytes
  have hO : AdOk ad (AW ad) := hI.self
  have hH : Hd D (AW ad) (Wd ad cy x y) s s.heap [] := ⟨hP, va_S.rf⟩
  have hl := lv_entry ([.ref (ad 30), .int a1, .int a2, .ref (ad 4), .int a4]) (n := 11) (Nat.le_of_ble_eq_true rfl)
  rw [lg_entry_eq]
  generalize (lg_sl ([.ref (ad 30), .int a1, .int a2, .ref (ad 4), .int a4]) ++ List.replicate (11 - (lg_sl ([.ref (ad 30), .int a1, .int a2, .ref (ad 4), .int a4])).length) Slot.unset).toArray = ls at hl ⊢
  have hl : lv_has ls 11 [(0, .ref (ad 30)), (1, .int a1), (2, .int a2), (3, .ref (ad 4)), (4, .int a4)] := hl
  unfold wX3_draw at h
  refine lv_aload_n hx hb dX3_draw_0 rfl (lv_at hl 0 rfl) ?_
  refine gf_20 B hH wk1_218 dX3_draw_1 ?_
  refine lv_iconst (v := 1) hx hb dX3_draw_4 (by decide) ?_
  refine lv_isub hx hb dX3_draw_5 ?_
  refine lv_topi (fun v5_1 e1 => ?_)
  replace h := h v5_1 e1
  refine lv_istore (lv' := [(5, .int v5_1), (0, .ref (ad 30)), (1, .int a1), (2, .int a2), (3, .ref (ad 4)), (4, .int a4)]) hx hb dX3_draw_6 hl (by decide) rfl (fun ls hl => ?_)
  refine lv_iconst (v := 0) hx hb dX3_draw_8 (by decide) ?_
  refine lv_istore (lv' := [(6, .int 0), (5, .int v5_1), (0, .ref (ad 30)), (1, .int a1), (2, .int a2), (3, .ref (ad 4)), (4, .int a4)]) hx hb dX3_draw_9 hl (by decide) rfl (fun ls hl => ?_)
  obtain ⟨n_11, h⟩ := h
  have loop_11 : ∀ (f5_11 : Int32) (n_11 : Nat) (v6_11 : Int32) (x_11 : ST) (H : Heap) (locs : List Loc) (ls : Array Slot), Hd D (AW ad) (Wd ad cy x_11 y) s H locs → lv_has ls 11 [(0, .ref (ad 30)), (1, .int a1), (2, .int a2), (3, .ref (ad 4)), (4, .int a4), (5, .int f5_11), (6, .int v6_11)] → it (fun (_ : Int32) (_ : ST) => False) (FX3_draw_11 a1 a2 a4 K f5_11) n_11 v6_11 x_11 → W p l e (headSpec (Cond.code yX3_draw cX3_draw 11 (some .int) :: WL) ({ frames := 1, cells := 0, slots := 0, locals := 27 } : Room)).room s m ([Value.ref (ad 30), Value.int a1, Value.int a2, Value.ref (ad 4), Value.int a4] : List Value).toArray below meth c H locs 0 0 (MQ below (va_Qi K (QW D (fun z => Wd ad cy z y)) (AW ad)) ([Value.ref (ad 30), Value.int a1, Value.int a2, Value.ref (ad 4), Value.int a4] : List Value).toArray s 0 0 (AW ad)) (F0 m 11 ls []) := by
    intro f5_11 n_11
    induction n_11 with
    | zero => intro v6_11 x_11 H locs ls hH hl h; exact False.elim h
    | succ n_11 ih11 =>
      intro v6_11 x_11 H locs ls hH hl h
      refine lv_iload hx hb dX3_draw_11 (lv_at hl 6 rfl) ?_
      refine lv_iload hx hb dX3_draw_13 (lv_at hl 5 rfl) ?_
      refine lv_icmp_ge (tgt := 33) hx hb dX3_draw_15 (by decide) (fun c11_1 => ?_) (fun c11_1 => ?_)
      · replace h := h.1 c11_1
        refine lv_iload_n hx hb dX3_draw_33 rfl (lv_at hl 2 rfl) ?_
        refine lv_istore (lv' := [(6, .int a2), (0, .ref (ad 30)), (1, .int a1), (2, .int a2), (3, .ref (ad 4)), (4, .int a4), (5, .int f5_11)]) hx hb dX3_draw_34 hl (by decide) rfl (fun ls hl => ?_)
        refine lv_iconst (v := 0) hx hb dX3_draw_36 (by decide) ?_
        refine lv_istore (lv' := [(7, .int 0), (6, .int a2), (0, .ref (ad 30)), (1, .int a1), (2, .int a2), (3, .ref (ad 4)), (4, .int a4), (5, .int f5_11)]) hx hb dX3_draw_37 hl (by decide) rfl (fun ls hl => ?_)
        refine lv_iconst (v := 0) hx hb dX3_draw_39 (by decide) ?_
        refine lv_istore (lv' := [(8, .int 0), (7, .int 0), (6, .int a2), (0, .ref (ad 30)), (1, .int a1), (2, .int a2), (3, .ref (ad 4)), (4, .int a4), (5, .int f5_11)]) hx hb dX3_draw_40 hl (by decide) rfl (fun ls hl => ?_)
        obtain ⟨n_42, h⟩ := h
        have loop_42 : ∀ (f5_42 : Int32) (n_42 : Nat) (v6_42 : Int32) (v7_42 : Int32) (v8_42 : Int32) (x_42 : ST) (H : Heap) (locs : List Loc) (ls : Array Slot), Hd D (AW ad) (Wd ad cy x_42 y) s H locs → lv_has ls 11 [(0, .ref (ad 30)), (1, .int a1), (3, .ref (ad 4)), (4, .int a4), (5, .int f5_42), (6, .int v6_42), (7, .int v7_42), (8, .int v8_42)] → it (fun (_ : Int32) (_ : Int32) (_ : Int32) (_ : ST) => False) (FX3_draw_42 a1 a4 K f5_42) n_42 v6_42 v7_42 v8_42 x_42 → W p l e (headSpec (Cond.code yX3_draw cX3_draw 11 (some .int) :: WL) ({ frames := 1, cells := 0, slots := 0, locals := 27 } : Room)).room s m ([Value.ref (ad 30), Value.int a1, Value.int a2, Value.ref (ad 4), Value.int a4] : List Value).toArray below meth c H locs 0 0 (MQ below (va_Qi K (QW D (fun z => Wd ad cy z y)) (AW ad)) ([Value.ref (ad 30), Value.int a1, Value.int a2, Value.ref (ad 4), Value.int a4] : List Value).toArray s 0 0 (AW ad)) (F0 m 42 ls []) := by
          intro f5_42 n_42
          induction n_42 with
          | zero => intro v6_42 v7_42 v8_42 x_42 H locs ls hH hl h; exact False.elim h
          | succ n_42 ih42 =>
            intro v6_42 v7_42 v8_42 x_42 H locs ls hH hl h
            refine lv_iload hx hb dX3_draw_42 (lv_at hl 7 rfl) ?_
            refine lv_iload_n hx hb dX3_draw_44 rfl (lv_at hl 1 rfl) ?_
            refine lv_icmp_ge (tgt := 148) hx hb dX3_draw_45 (by decide) (fun c42_1 => ?_) (fun c42_1 => ?_)
            · replace h := h.1 c42_1
              refine lv_iload hx hb dX3_draw_148 (lv_at hl 6 rfl) ?_
              exact xret_i hx hb hr hlocks hH h dX3_draw_150
            · replace h := h.2 c42_1
              refine lv_iload hx hb dX3_draw_48 (lv_at hl 7 rfl) ?_
              refine lv_iload hx hb dX3_draw_50 (lv_at hl 4 rfl) ?_
              refine lv_icmp_ge (tgt := 148) hx hb dX3_draw_52 (by decide) (fun c42_2 => ?_) (fun c42_2 => ?_)
              · replace h := h.1 c42_2
                refine lv_iload hx hb dX3_draw_148 (lv_at hl 6 rfl) ?_
                exact xret_i hx hb hr hlocks hH h dX3_draw_150
              · replace h := h.2 c42_2
                refine lv_iload hx hb dX3_draw_55 (lv_at hl 5 rfl) ?_
                refine lv_ldc hx hb B.2.2.2.1 (B.2.2.2.2.1 _ wk3_37) dX3_draw_57 ?_
                refine lv_imul hx hb dX3_draw_59 ?_
                refine lv_sipush (v := 12345) hx hb dX3_draw_60 (by decide) ?_
                refine lv_iadd hx hb dX3_draw_63 ?_
                refine lv_topi (fun v6_42_3 e42_3 => ?_)
                replace h := h v6_42_3 e42_3
                refine lv_istore (lv' := [(6, .int v6_42_3), (0, .ref (ad 30)), (1, .int a1), (3, .ref (ad 4)), (4, .int a4), (5, .int f5_42), (7, .int v7_42), (8, .int v8_42)]) hx hb dX3_draw_64 hl (by decide) rfl (fun ls hl => ?_)
                refine lv_iload hx hb dX3_draw_66 (lv_at hl 7 rfl) ?_
                refine lv_iload hx hb dX3_draw_68 (lv_at hl 0 rfl) ?_
                refine lv_bipush (v := 16) hx hb dX3_draw_70 (by decide) ?_
                refine lv_iushr hx hb dX3_draw_72 rfl ?_
                refine lv_iload hx hb dX3_draw_73 (lv_at hl 5 rfl) ?_
                refine lv_iload hx hb dX3_draw_75 (lv_at hl 7 rfl) ?_
                refine lv_isub hx hb dX3_draw_77 ?_
                obtain ⟨z42_4, h⟩ := h
                refine lv_irem hx hb dX3_draw_78 z42_4 ?_
                refine lv_iadd hx hb dX3_draw_79 ?_
                refine lv_topi (fun v9_42_5 e42_5 => ?_)
                replace h := h v9_42_5 e42_5
                refine lv_istore (lv' := [(9, .int v9_42_5), (6, .int v6_42_3), (0, .ref (ad 30)), (1, .int a1), (3, .ref (ad 4)), (4, .int a4), (5, .int f5_42), (7, .int v7_42), (8, .int v8_42)]) hx hb dX3_draw_80 hl (by decide) rfl (fun ls hl => ?_)
                refine lv_aload_n hx hb dX3_draw_82 rfl (lv_at hl 2 rfl) ?_
                refine gr_34 B hH wk1_217 dX3_draw_83 ?_
                refine lv_iload hx hb dX3_draw_86 (lv_at hl 0 rfl) ?_
                obtain ⟨b42_6, h⟩ := h
                refine ald_34 B hH b42_6 dX3_draw_88 ?_
                refine lv_topi (fun v10_42_7 e42_7 => ?_)
                replace h := h v10_42_7 e42_7
                refine lv_istore (lv' := [(10, .int v10_42_7), (9, .int v9_42_5), (6, .int v6_42_3), (0, .ref (ad 30)), (1, .int a1), (3, .ref (ad 4)), (4, .int a4), (5, .int f5_42), (7, .int v7_42), (8, .int v8_42)]) hx hb dX3_draw_89 hl (by decide) rfl (fun ls hl => ?_)
                refine lv_aload_n hx hb dX3_draw_91 rfl (lv_at hl 3 rfl) ?_
                refine gr_34 B hH wk1_217 dX3_draw_92 ?_
                refine lv_iload hx hb dX3_draw_95 (lv_at hl 1 rfl) ?_
                refine lv_aload_n hx hb dX3_draw_97 rfl (lv_at hl 3 rfl) ?_
                refine gr_34 B hH wk1_217 dX3_draw_98 ?_
                refine lv_iload hx hb dX3_draw_101 (lv_at hl 9 rfl) ?_
                obtain ⟨b42_8, h⟩ := h
                refine ald_34 B hH b42_8 dX3_draw_103 ?_
                refine ast_34 B hH hO b42_6 dX3_draw_104 (fun x42_9 e42_9 H locs hH => ?_)
                replace h := h x42_9 e42_9
                refine lv_aload_n hx hb dX3_draw_105 rfl (lv_at hl 3 rfl) ?_
                refine gr_34 B hH wk1_217 dX3_draw_106 ?_
                refine lv_iload hx hb dX3_draw_109 (lv_at hl 9 rfl) ?_
                refine lv_iload hx hb dX3_draw_111 (lv_at hl 0 rfl) ?_
                refine ast_34 B hH hO b42_8 dX3_draw_113 (fun x42_10 e42_10 H locs hH => ?_)
                replace h := h x42_10 e42_10
                refine lv_aload_n hx hb dX3_draw_114 rfl (lv_at hl 5 rfl) ?_
                refine lv_aload_n hx hb dX3_draw_115 rfl (lv_at hl 3 rfl) ?_
                refine gr_31 B hH wk1_212 dX3_draw_116 ?_
                refine lv_iload hx hb dX3_draw_119 (lv_at hl 0 rfl) ?_
                obtain ⟨b42_11, h⟩ := h
                refine ald_31 B hH b42_11 dX3_draw_121 ?_
                refine lv_aload_n hx hb dX3_draw_122 rfl (lv_at hl 3 rfl) ?_
                refine gr_31 B hH wk1_212 dX3_draw_123 ?_
                refine lv_iload hx hb dX3_draw_126 (lv_at hl 0 rfl) ?_
                refine lv_iconst (v := 1) hx hb dX3_draw_128 (by decide) ?_
                refine lv_iadd hx hb dX3_draw_129 ?_
                obtain ⟨b42_12, h⟩ := h
                refine ald_31 B hH b42_12 dX3_draw_130 ?_
                refine lv_iload hx hb dX3_draw_131 (lv_at hl 6 rfl) ?_
                refine xVi (Wf := (fun z => Wd ad cy z y)) (n := 3) (P := 4) (ci := 0) (As := [.int (gA x42_10 31 v10_42_7), .int (gA x42_10 31 (v10_42_7 + 1)), .int a4]) (rest := []) B hH hO (kX0_sign l hO.1 (gA x42_10 31 v10_42_7) (gA x42_10 31 (v10_42_7 + 1)) a4 _ x42_10 y h) rfl rfl wk3_23 wk2_97 wk2_98 wk1_4 wk2_99 (by decide +kernel) rfl ⟨rfl, rfl⟩ ⟨Nat.le_of_ble_eq_true rfl, Nat.le_of_ble_eq_true rfl⟩ ⟨Nat.zero_le _, Nat.zero_le _⟩ hl.1 rfl (Nat.le_of_ble_eq_true rfl) dX3_draw_133 (fun r42_13 x42_13 H locs h hH => ?_)
                replace hH : Hd D (AW ad) (Wd ad cy x42_13 y) s H locs := hH
                refine lv_if_le (tgt := 142) hx hb dX3_draw_136 (by decide) (fun c42_14 => ?_) (fun c42_14 => ?_)
                · replace h := h.1 c42_14
                  obtain ⟨v8_42_15, e42_15⟩ : ∃ z : Int32, z = v8_42 + 1 := ⟨_, rfl⟩
                  replace h := h v8_42_15 e42_15
                  refine lv_iinc (v := v8_42_15) (lv' := [(8, .int v8_42_15), (10, .int v10_42_7), (9, .int v9_42_5), (6, .int v6_42_3), (0, .ref (ad 30)), (1, .int a1), (3, .ref (ad 4)), (4, .int a4), (5, .int f5_42), (7, .int v7_42)]) hx hb dX3_draw_142 hl (k := 9) rfl (by rw [e42_15]; first | rfl | done) (by decide) rfl (fun ls hl => ?_)
                  refine lv_goto (tgt := 42) hx hb dX3_draw_145 (by decide) ?_
                  exact ih42 v6_42_3 v7_42 v8_42_15 x42_13 _ _ _ hH (lv_sub hl [4, 5, 6, 7, 8, 3, 9, 0] rfl) h
                · replace h := h.2 c42_14
                  obtain ⟨v7_42_16, e42_16⟩ : ∃ z : Int32, z = v7_42 + 1 := ⟨_, rfl⟩
                  replace h := h v7_42_16 e42_16
                  refine lv_iinc (v := v7_42_16) (lv' := [(7, .int v7_42_16), (10, .int v10_42_7), (9, .int v9_42_5), (6, .int v6_42_3), (0, .ref (ad 30)), (1, .int a1), (3, .ref (ad 4)), (4, .int a4), (5, .int f5_42), (8, .int v8_42)]) hx hb dX3_draw_139 hl (k := 8) rfl (by rw [e42_16]; first | rfl | done) (by decide) rfl (fun ls hl => ?_)
                  obtain ⟨v8_42_17, e42_17⟩ : ∃ z : Int32, z = v8_42 + 1 := ⟨_, rfl⟩
                  replace h := h v8_42_17 e42_17
                  refine lv_iinc (v := v8_42_17) (lv' := [(8, .int v8_42_17), (7, .int v7_42_16), (10, .int v10_42_7), (9, .int v9_42_5), (6, .int v6_42_3), (0, .ref (ad 30)), (1, .int a1), (3, .ref (ad 4)), (4, .int a4), (5, .int f5_42)]) hx hb dX3_draw_142 hl (k := 9) rfl (by rw [e42_17]; first | rfl | done) (by decide) rfl (fun ls hl => ?_)
                  refine lv_goto (tgt := 42) hx hb dX3_draw_145 (by decide) ?_
                  exact ih42 v6_42_3 v7_42_16 v8_42_17 x42_13 _ _ _ hH (lv_sub hl [5, 6, 7, 8, 9, 4, 1, 0] rfl) h
        exact loop_42 f5_11 n_42 a2 0 0 x_11 _ _ _ hH (lv_sub hl [3, 4, 6, 7, 8, 2, 1, 0] rfl) h
      · replace h := h.2 c11_1
        refine lv_aload_n hx hb dX3_draw_18 rfl (lv_at hl 0 rfl) ?_
        refine gr_34 B hH wk1_217 dX3_draw_19 ?_
        refine lv_iload hx hb dX3_draw_22 (lv_at hl 6 rfl) ?_
        refine lv_iload hx hb dX3_draw_24 (lv_at hl 6 rfl) ?_
        obtain ⟨b11_2, h⟩ := h
        refine ast_34 B hH hO b11_2 dX3_draw_26 (fun x11_3 e11_3 H locs hH => ?_)
        replace h := h x11_3 e11_3
        obtain ⟨v6_11_4, e11_4⟩ : ∃ z : Int32, z = v6_11 + 1 := ⟨_, rfl⟩
        replace h := h v6_11_4 e11_4
        refine lv_iinc (v := v6_11_4) (lv' := [(6, .int v6_11_4), (0, .ref (ad 30)), (1, .int a1), (2, .int a2), (3, .ref (ad 4)), (4, .int a4), (5, .int f5_11)]) hx hb dX3_draw_27 hl (k := 6) rfl (by rw [e11_4]; first | rfl | done) (by decide) rfl (fun ls hl => ?_)
        refine lv_goto (tgt := 11) hx hb dX3_draw_30 (by decide) ?_
        exact ih11 v6_11_4 x11_3 _ _ _ hH (lv_sub hl [1, 2, 3, 4, 5, 6, 0] rfl) h
  exact loop_11 v5_1 n_11 0 x _ _ _ hH (lv_sub hl [2, 3, 4, 5, 6, 1, 0] rfl) h
set_option maxHeartbeats 4000000 in
set_option maxRecDepth 100000 in
theorem kX4_add (l : Launch) {D : va_G} {cy : Nat → ClassId} {ad : Nat → Nat} (hI : AdI ad) (a1 : Int32) (K : Int32 → ST → Prop) (x y : ST) (h : wX4_add a1 K x) : Met l yX4_add (Cond.code yX4_add cX4_add 2 (some .int) :: WL) ({ frames := 0, cells := 0, slots := 0, locals := 0 } : Room) (va_Pc [.ref (ad 15), .int a1] (PW D cy ad x y)) (va_Qi K (QW D (fun z => Wd ad cy z y)) (AW ad)) 0 0 (AW ad) := by
  refine Met.ofW (cc := cX4_add) (maxL := 2) (ret := (some .int)) (by decide) rfl ?_
  intro p e s m args below meth c s₁ B0 hml hv
  obtain ⟨rfl, hP, hK, hN⟩ := hv
  have hr := B0.returns
  have hlocks := B0.notSynchronized
  have hts := atoms_spec (ws := (Cond.code yX4_add cX4_add 2 (some .int) :: WL)) B0.pre
  have B : Bd p s m ([Value.ref (ad 15), Value.int a1] : List Value).toArray c cX4_add 2 RX4 D cy := ⟨B0.exec, B0.bytes, hml, findClass_of_methodNamed B0.named, fun w hw => hts w (List.mem_cons_of_mem _ hw), hK, hN⟩
  have hx := B0.exec
  have hb := B0.bytes
  have hO : AdOk ad (AW ad) := hI.self
  have hH : Hd D (AW ad) (Wd ad cy x y) s s.heap [] := ⟨hP, va_S.rf⟩
  have hl := lv_entry ([.ref (ad 15), .int a1]) (n := 2) (Nat.le_of_ble_eq_true rfl)
  rw [lg_entry_eq]
  generalize (lg_sl ([.ref (ad 15), .int a1]) ++ List.replicate (2 - (lg_sl ([.ref (ad 15), .int a1])).length) Slot.unset).toArray = ls at hl ⊢
  have hl : lv_has ls 2 [(0, .ref (ad 15)), (1, .int a1)] := hl
  unfold wX4_add at h
  refine lv_aload_n hx hb dX4_add_0 rfl (lv_at hl 0 rfl) ?_
  refine gf_12 B hH wk1_126 dX4_add_1 ?_
  refine lv_bipush (v := 16) hx hb dX4_add_4 (by decide) ?_
  refine lv_icmp_lt (tgt := 11) hx hb dX4_add_6 (by decide) (fun c1 => ?_) (fun c1 => ?_)
  · replace h := h.1 c1
    refine lv_aload_n hx hb dX4_add_11 rfl (lv_at hl 0 rfl) ?_
    refine gr_16 B hH wk1_115 dX4_add_12 ?_
    refine lv_aload_n hx hb dX4_add_15 rfl (lv_at hl 0 rfl) ?_
    refine gf_12 B hH wk1_126 dX4_add_16 ?_
    refine lv_iload_n hx hb dX4_add_19 rfl (lv_at hl 1 rfl) ?_
    obtain ⟨b2, h⟩ := h
    refine ast_16 B hH hO b2 dX4_add_20 (fun x3 e3 H locs hH => ?_)
    replace h := h x3 e3
    refine lv_aload_n hx hb dX4_add_21 rfl (lv_at hl 0 rfl) ?_
    refine lv_dup hx hb dX4_add_22 rfl ?_
    refine gf_12 B hH wk1_126 dX4_add_23 ?_
    refine lv_iconst (v := 1) hx hb dX4_add_26 (by decide) ?_
    refine lv_iadd hx hb dX4_add_27 ?_
    refine pf_12 B hH hO wk1_126 dX4_add_28 (fun x4 e4 H locs hH => ?_)
    replace h := h x4 e4
    refine lv_aload_n hx hb dX4_add_31 rfl (lv_at hl 0 rfl) ?_
    refine gf_12 B hH wk1_126 dX4_add_32 ?_
    refine lv_iconst (v := 1) hx hb dX4_add_35 (by decide) ?_
    refine lv_isub hx hb dX4_add_36 ?_
    exact xret_i hx hb hr hlocks hH h dX4_add_37
  · replace h := h.2 c1
    refine lv_iconst (v := (-1)) hx hb dX4_add_9 (by decide) ?_
    exact xret_i hx hb hr hlocks hH h dX4_add_10
set_option maxHeartbeats 4000000 in
set_option maxRecDepth 100000 in
theorem kX4_room (l : Launch) {D : va_G} {cy : Nat → ClassId} {ad : Nat → Nat} (hI : AdI ad) (a1 : Int32) (K : Int32 → ST → Prop) (x y : ST) (h : wX4_room a1 K x) : Met l yX4_room (Cond.code yX4_room cX4_room 2 (some .int) :: WL) ({ frames := 0, cells := 0, slots := 0, locals := 0 } : Room) (va_Pc [.ref (ad 15), .int a1] (PW D cy ad x y)) (va_Qi K (QW D (fun z => Wd ad cy z y)) (AW ad)) 0 0 (AW ad) := by
  refine Met.ofW (cc := cX4_room) (maxL := 2) (ret := (some .int)) (by decide) rfl ?_
  intro p e s m args below meth c s₁ B0 hml hv
  obtain ⟨rfl, hP, hK, hN⟩ := hv
  have hr := B0.returns
  have hlocks := B0.notSynchronized
  have hts := atoms_spec (ws := (Cond.code yX4_room cX4_room 2 (some .int) :: WL)) B0.pre
  have B : Bd p s m ([Value.ref (ad 15), Value.int a1] : List Value).toArray c cX4_room 2 RX4 D cy := ⟨B0.exec, B0.bytes, hml, findClass_of_methodNamed B0.named, fun w hw => hts w (List.mem_cons_of_mem _ hw), hK, hN⟩
  have hx := B0.exec
  have hb := B0.bytes
  have hO : AdOk ad (AW ad) := hI.self
  have hH : Hd D (AW ad) (Wd ad cy x y) s s.heap [] := ⟨hP, va_S.rf⟩
  have hl := lv_entry ([.ref (ad 15), .int a1]) (n := 2) (Nat.le_of_ble_eq_true rfl)
  rw [lg_entry_eq]
  generalize (lg_sl ([.ref (ad 15), .int a1]) ++ List.replicate (2 - (lg_sl ([.ref (ad 15), .int a1])).length) Slot.unset).toArray = ls at hl ⊢
  have hl : lv_has ls 2 [(0, .ref (ad 15)), (1, .int a1)] := hl
  unfold wX4_room at h
  refine lv_bipush (v := 100) hx hb dX4_room_0 (by decide) ?_
  refine lv_aload_n hx hb dX4_room_2 rfl (lv_at hl 0 rfl) ?_
  refine gr_16 B hH wk1_115 dX4_room_3 ?_
  refine lv_iload_n hx hb dX4_room_6 rfl (lv_at hl 1 rfl) ?_
  obtain ⟨b1, h⟩ := h
  refine ald_16 B hH b1 dX4_room_7 ?_
  refine lv_imul hx hb dX4_room_8 ?_
  exact xret_i hx hb hr hlocks hH h dX4_room_9
set_option maxHeartbeats 4000000 in
set_option maxRecDepth 100000 in
theorem kX4_clear (l : Launch) {D : va_G} {cy : Nat → ClassId} {ad : Nat → Nat} (hI : AdI ad) (K : ST → Prop) (x y : ST) (h : wX4_clear K x) : Met l yX4_clear (Cond.code yX4_clear cX4_clear 2 none :: WL) ({ frames := 0, cells := 0, slots := 0, locals := 0 } : Room) (va_Pc [.ref (ad 15)] (PW D cy ad x y)) (va_Qv K (QW D (fun z => Wd ad cy z y)) (AW ad)) 0 0 (AW ad) := by
  refine Met.ofW (cc := cX4_clear) (maxL := 2) (ret := none) (by decide) rfl ?_
  intro p e s m args below meth c s₁ B0 hml hv
  obtain ⟨rfl, hP, hK, hN⟩ := hv
  have hr := B0.returns
  have hlocks := B0.notSynchronized
  have hts := atoms_spec (ws := (Cond.code yX4_clear cX4_clear 2 none :: WL)) B0.pre
  have B : Bd p s m ([Value.ref (ad 15)] : List Value).toArray c cX4_clear 2 RX4 D cy := ⟨B0.exec, B0.bytes, hml, findClass_of_methodNamed B0.named, fun w hw => hts w (List.mem_cons_of_mem _ hw), hK, hN⟩
  have hx := B0.exec
  have hb := B0.bytes
  have hO : AdOk ad (AW ad) := hI.self
  have hH : Hd D (AW ad) (Wd ad cy x y) s s.heap [] := ⟨hP, va_S.rf⟩
  have hl := lv_entry ([.ref (ad 15)]) (n := 2) (Nat.le_of_ble_eq_true rfl)
  rw [lg_entry_eq]
  generalize (lg_sl ([.ref (ad 15)]) ++ List.replicate (2 - (lg_sl ([.ref (ad 15)])).length) Slot.unset).toArray = ls at hl ⊢
  have hl : lv_has ls 2 [(0, .ref (ad 15))] := hl
  unfold wX4_clear at h
  refine lv_aload_n hx hb dX4_clear_0 rfl (lv_at hl 0 rfl) ?_
  refine lv_iconst (v := 0) hx hb dX4_clear_1 (by decide) ?_
  refine pf_14 B hH hO wk1_130 dX4_clear_2 (fun x1 e1 H locs hH => ?_)
  replace h := h x1 e1
  refine lv_aload_n hx hb dX4_clear_5 rfl (lv_at hl 0 rfl) ?_
  refine lv_iconst (v := 0) hx hb dX4_clear_6 (by decide) ?_
  refine pf_15 B hH hO wk1_132 dX4_clear_7 (fun x2 e2 H locs hH => ?_)
  replace h := h x2 e2
  refine lv_iconst (v := 0) hx hb dX4_clear_10 (by decide) ?_
  refine lv_istore_n (lv' := [(1, .int 0), (0, .ref (ad 15))]) hx hb dX4_clear_11 rfl hl (by decide) rfl (fun ls hl => ?_)
  obtain ⟨n_12, h⟩ := h
  have loop_12 : ∀ (n_12 : Nat) (v1_12 : Int32) (x_12 : ST) (H : Heap) (locs : List Loc) (ls : Array Slot), Hd D (AW ad) (Wd ad cy x_12 y) s H locs → lv_has ls 2 [(0, .ref (ad 15)), (1, .int v1_12)] → it (fun (_ : Int32) (_ : ST) => False) (FX4_clear_12 K) n_12 v1_12 x_12 → W p l e (headSpec (Cond.code yX4_clear cX4_clear 2 none :: WL) ({ frames := 0, cells := 0, slots := 0, locals := 0 } : Room)).room s m ([Value.ref (ad 15)] : List Value).toArray below meth c H locs 0 0 (MQ below (va_Qv K (QW D (fun z => Wd ad cy z y)) (AW ad)) ([Value.ref (ad 15)] : List Value).toArray s 0 0 (AW ad)) (F0 m 12 ls []) := by
    intro n_12
    induction n_12 with
    | zero => intro v1_12 x_12 H locs ls hH hl h; exact False.elim h
    | succ n_12 ih12 =>
      intro v1_12 x_12 H locs ls hH hl h
      refine lv_iload_n hx hb dX4_clear_12 rfl (lv_at hl 1 rfl) ?_
      refine lv_aload_n hx hb dX4_clear_13 rfl (lv_at hl 0 rfl) ?_
      refine gf_12 B hH wk1_126 dX4_clear_14 ?_
      refine lv_icmp_ge (tgt := 40) hx hb dX4_clear_17 (by decide) (fun c12_1 => ?_) (fun c12_1 => ?_)
      · replace h := h.1 c12_1
        exact xret_v hx hb hr hlocks hH h dX4_clear_40
      · replace h := h.2 c12_1
        refine lv_aload_n hx hb dX4_clear_20 rfl (lv_at hl 0 rfl) ?_
        refine gr_18 B hH wk1_118 dX4_clear_21 ?_
        refine lv_iload_n hx hb dX4_clear_24 rfl (lv_at hl 1 rfl) ?_
        refine lv_iconst (v := 0) hx hb dX4_clear_25 (by decide) ?_
        obtain ⟨b12_2, h⟩ := h
        refine ast_18 B hH hO b12_2 dX4_clear_26 (fun x12_3 e12_3 H locs hH => ?_)
        replace h := h x12_3 e12_3
        refine lv_aload_n hx hb dX4_clear_27 rfl (lv_at hl 0 rfl) ?_
        refine gr_19 B hH wk1_120 dX4_clear_28 ?_
        refine lv_iload_n hx hb dX4_clear_31 rfl (lv_at hl 1 rfl) ?_
        refine lv_iconst (v := 0) hx hb dX4_clear_32 (by decide) ?_
        refine ast_19 B hH hO b12_2 dX4_clear_33 (fun x12_4 e12_4 H locs hH => ?_)
        replace h := h x12_4 e12_4
        obtain ⟨v1_12_5, e12_5⟩ : ∃ z : Int32, z = v1_12 + 1 := ⟨_, rfl⟩
        replace h := h v1_12_5 e12_5
        refine lv_iinc (v := v1_12_5) (lv' := [(1, .int v1_12_5), (0, .ref (ad 15))]) hx hb dX4_clear_34 hl (k := 1) rfl (by rw [e12_5]; first | rfl | done) (by decide) rfl (fun ls hl => ?_)
        refine lv_goto (tgt := 12) hx hb dX4_clear_37 (by decide) ?_
        exact ih12 v1_12_5 x12_4 _ _ _ hH (lv_sub hl [1, 0] rfl) h
  exact loop_12 n_12 0 x2 _ _ _ hH (lv_sub hl [1, 0] rfl) h
set_option maxHeartbeats 4000000 in
set_option maxRecDepth 100000 in
theorem kX4_put (l : Launch) {D : va_G} {cy : Nat → ClassId} {ad : Nat → Nat} (hI : AdI ad) (a1 : Int32) (a2 : Int32) (a3 : Int32) (K : ST → Prop) (x y : ST) (h : wX4_put a1 a2 a3 K x) : Met l yX4_put (Cond.code yX4_put cX4_put 4 none :: WL) ({ frames := 0, cells := 0, slots := 0, locals := 0 } : Room) (va_Pc [.ref (ad 15), .int a1, .int a2, .int a3] (PW D cy ad x y)) (va_Qv K (QW D (fun z => Wd ad cy z y)) (AW ad)) 0 0 (AW ad) := by
  refine Met.ofW (cc := cX4_put) (maxL := 4) (ret := none) (by decide) rfl ?_
  intro p e s m args below meth c s₁ B0 hml hv
  obtain ⟨rfl, hP, hK, hN⟩ := hv
  have hr := B0.returns
  have hlocks := B0.notSynchronized
  have hts := atoms_spec (ws := (Cond.code yX4_put cX4_put 4 none :: WL)) B0.pre
  have B : Bd p s m ([Value.ref (ad 15), Value.int a1, Value.int a2, Value.int a3] : List Value).toArray c cX4_put 4 RX4 D cy := ⟨B0.exec, B0.bytes, hml, findClass_of_methodNamed B0.named, fun w hw => hts w (List.mem_cons_of_mem _ hw), hK, hN⟩
  have hx := B0.exec
  have hb := B0.bytes
  have hO : AdOk ad (AW ad) := hI.self
  have hH : Hd D (AW ad) (Wd ad cy x y) s s.heap [] := ⟨hP, va_S.rf⟩
  have hl := lv_entry ([.ref (ad 15), .int a1, .int a2, .int a3]) (n := 4) (Nat.le_of_ble_eq_true rfl)
  rw [lg_entry_eq]
  generalize (lg_sl ([.ref (ad 15), .int a1, .int a2, .int a3]) ++ List.replicate (4 - (lg_sl ([.ref (ad 15), .int a1, .int a2, .int a3])).length) Slot.unset).toArray = ls at hl ⊢
  have hl : lv_has ls 4 [(0, .ref (ad 15)), (1, .int a1), (2, .int a2), (3, .int a3)] := hl
  unfold wX4_put at h
  refine lv_aload_n hx hb dX4_put_0 rfl (lv_at hl 0 rfl) ?_
  refine gr_20 B hH wk1_122 dX4_put_1 ?_
  refine lv_iload_n hx hb dX4_put_4 rfl (lv_at hl 1 rfl) ?_
  refine lv_iload_n hx hb dX4_put_5 rfl (lv_at hl 3 rfl) ?_
  obtain ⟨b1, h⟩ := h
  refine ast_20 B hH hO b1 dX4_put_6 (fun x2 e2 H locs hH => ?_)
  replace h := h x2 e2
  refine lv_aload_n hx hb dX4_put_7 rfl (lv_at hl 0 rfl) ?_
  refine gr_21 B hH wk1_124 dX4_put_8 ?_
  refine lv_iload_n hx hb dX4_put_11 rfl (lv_at hl 1 rfl) ?_
  refine lv_aload_n hx hb dX4_put_12 rfl (lv_at hl 0 rfl) ?_
  refine gr_18 B hH wk1_118 dX4_put_13 ?_
  refine lv_iload_n hx hb dX4_put_16 rfl (lv_at hl 3 rfl) ?_
  obtain ⟨b3, h⟩ := h
  refine ald_18 B hH b3 dX4_put_17 ?_
  refine ast_21 B hH hO b1 dX4_put_18 (fun x4 e4 H locs hH => ?_)
  replace h := h x4 e4
  refine lv_aload_n hx hb dX4_put_19 rfl (lv_at hl 0 rfl) ?_
  refine gr_18 B hH wk1_118 dX4_put_20 ?_
  refine lv_iload_n hx hb dX4_put_23 rfl (lv_at hl 3 rfl) ?_
  refine lv_dup2_11 hx hb dX4_put_24 rfl rfl ?_
  refine ald_18 B hH b3 dX4_put_25 ?_
  refine lv_iconst (v := 1) hx hb dX4_put_26 (by decide) ?_
  refine lv_iadd hx hb dX4_put_27 ?_
  refine ast_18 B hH hO b3 dX4_put_28 (fun x5 e5 H locs hH => ?_)
  replace h := h x5 e5
  refine lv_aload_n hx hb dX4_put_29 rfl (lv_at hl 0 rfl) ?_
  refine gr_19 B hH wk1_120 dX4_put_30 ?_
  refine lv_iload_n hx hb dX4_put_33 rfl (lv_at hl 3 rfl) ?_
  refine lv_dup2_11 hx hb dX4_put_34 rfl rfl ?_
  refine ald_19 B hH b3 dX4_put_35 ?_
  refine lv_iload_n hx hb dX4_put_36 rfl (lv_at hl 2 rfl) ?_
  refine lv_iadd hx hb dX4_put_37 ?_
  refine ast_19 B hH hO b3 dX4_put_38 (fun x6 e6 H locs hH => ?_)
  replace h := h x6 e6
  exact xret_v hx hb hr hlocks hH h dX4_put_39
set_option maxHeartbeats 4000000 in
set_option maxRecDepth 100000 in
theorem kX4_lay (l : Launch) {D : va_G} {cy : Nat → ClassId} {ad : Nat → Nat} (hI : AdI ad) (a2 : Int32) (K : ST → Prop) (x y : ST) (h : wX4_lay a2 K x) : Met l yX4_lay (Cond.code yX4_lay cX4_lay 7 none :: WL) ({ frames := 1, cells := 0, slots := 0, locals := 23 } : Room) (va_Pc [.ref (ad 15), .ref (ad 4), .int a2] (PW D cy ad x y)) (va_Qv K (QW D (fun z => Wd ad cy z y)) (AW ad)) 0 0 (AW ad) := by
  refine Met.ofW (cc := cX4_lay) (maxL := 7) (ret := none) (by decide) rfl ?_
  intro p e s m args below meth c s₁ B0 hml hv
  obtain ⟨rfl, hP, hK, hN⟩ := hv
  have hr := B0.returns
  have hlocks := B0.notSynchronized
  have hts := atoms_spec (ws := (Cond.code yX4_lay cX4_lay 7 none :: WL)) B0.pre
  have B : Bd p s m ([Value.ref (ad 15), Value.ref (ad 4), Value.int a2] : List Value).toArray c cX4_lay 7 RX4 D cy := ⟨B0.exec, B0.bytes, hml, findClass_of_methodNamed B0.named, fun w hw => hts w (List.mem_cons_of_mem _ hw), hK, hN⟩
  have hx := B0.exec
  have hb := B0.bytes
  have hO : AdOk ad (AW ad) := hI.self
  have hH : Hd D (AW ad) (Wd ad cy x y) s s.heap [] := ⟨hP, va_S.rf⟩
  have hl := lv_entry ([.ref (ad 15), .ref (ad 4), .int a2]) (n := 7) (Nat.le_of_ble_eq_true rfl)
  rw [lg_entry_eq]
  generalize (lg_sl ([.ref (ad 15), .ref (ad 4), .int a2]) ++ List.replicate (7 - (lg_sl ([.ref (ad 15), .ref (ad 4), .int a2])).length) Slot.unset).toArray = ls at hl ⊢
  have hl : lv_has ls 7 [(0, .ref (ad 15)), (1, .ref (ad 4)), (2, .int a2)] := hl
  unfold wX4_lay at h
  refine lv_aload_n hx hb dX4_lay_0 rfl (lv_at hl 0 rfl) ?_
  refine xVv (Wf := (fun z => Wd ad cy z y)) (n := 0) (P := 15) (ci := 4) (As := []) (rest := []) B hH hO (kX4_clear l hO.1 _ x y h) rfl rfl wk2_157 wk2_159 wkp_6 wk1_5 wk2_160 (by decide +kernel) rfl ⟨rfl, rfl⟩ ⟨Nat.le_of_ble_eq_true rfl, Nat.le_of_ble_eq_true rfl⟩ ⟨Nat.zero_le _, Nat.zero_le _⟩ hl.1 rfl (Nat.le_of_ble_eq_true rfl) dX4_lay_1 (fun x1 H locs h hH => ?_)
  replace hH : Hd D (AW ad) (Wd ad cy x1 y) s H locs := hH
  refine lv_iconst (v := 0) hx hb dX4_lay_4 (by decide) ?_
  refine lv_istore_n (lv' := [(3, .int 0), (0, .ref (ad 15)), (1, .ref (ad 4)), (2, .int a2)]) hx hb dX4_lay_5 rfl hl (by decide) rfl (fun ls hl => ?_)
  refine lv_iconst (v := 0) hx hb dX4_lay_6 (by decide) ?_
  refine lv_istore (lv' := [(4, .int 0), (3, .int 0), (0, .ref (ad 15)), (1, .ref (ad 4)), (2, .int a2)]) hx hb dX4_lay_7 hl (by decide) rfl (fun ls hl => ?_)
  obtain ⟨n_9, h⟩ := h
  have loop_9 : ∀ (n_9 : Nat) (v3_9 : Int32) (v4_9 : Int32) (x_9 : ST) (H : Heap) (locs : List Loc) (ls : Array Slot), Hd D (AW ad) (Wd ad cy x_9 y) s H locs → lv_has ls 7 [(0, .ref (ad 15)), (1, .ref (ad 4)), (2, .int a2), (3, .int v3_9), (4, .int v4_9)] → it (fun (_ : Int32) (_ : Int32) (_ : ST) => False) (FX4_lay_9 a2 K) n_9 v3_9 v4_9 x_9 → W p l e (headSpec (Cond.code yX4_lay cX4_lay 7 none :: WL) ({ frames := 1, cells := 0, slots := 0, locals := 23 } : Room)).room s m ([Value.ref (ad 15), Value.ref (ad 4), Value.int a2] : List Value).toArray below meth c H locs 0 0 (MQ below (va_Qv K (QW D (fun z => Wd ad cy z y)) (AW ad)) ([Value.ref (ad 15), Value.ref (ad 4), Value.int a2] : List Value).toArray s 0 0 (AW ad)) (F0 m 9 ls []) := by
    intro n_9
    induction n_9 with
    | zero => intro v3_9 v4_9 x_9 H locs ls hH hl h; exact False.elim h
    | succ n_9 ih9 =>
      intro v3_9 v4_9 x_9 H locs ls hH hl h
      refine lv_iload hx hb dX4_lay_9 (lv_at hl 4 rfl) ?_
      refine lv_aload_n hx hb dX4_lay_11 rfl (lv_at hl 1 rfl) ?_
      refine gf_10 B hH wk1_88 dX4_lay_12 ?_
      refine lv_icmp_ge (tgt := 164) hx hb dX4_lay_15 (by decide) (fun c9_1 => ?_) (fun c9_1 => ?_)
      · replace h := h.1 c9_1
        exact xret_v hx hb hr hlocks hH h dX4_lay_164
      · replace h := h.2 c9_1
        refine lv_aload_n hx hb dX4_lay_18 rfl (lv_at hl 1 rfl) ?_
        refine gr_8 B hH wk1_74 dX4_lay_19 ?_
        refine lv_iload_n hx hb dX4_lay_22 rfl (lv_at hl 2 rfl) ?_
        obtain ⟨b9_2, h⟩ := h
        refine aar_8 B hH b9_2 dX4_lay_23 ?_
        refine lv_iload hx hb dX4_lay_24 (lv_at hl 4 rfl) ?_
        obtain ⟨b9_3, h⟩ := h
        refine aldR B hH (vp_in2 b9_2) b9_3 dX4_lay_26 ?_
        refine lv_topi (fun v5_9_4 e9_4 => ?_)
        replace h := h v5_9_4 e9_4
        refine lv_istore (lv' := [(5, .int v5_9_4), (0, .ref (ad 15)), (1, .ref (ad 4)), (2, .int a2), (3, .int v3_9), (4, .int v4_9)]) hx hb dX4_lay_27 hl (by decide) rfl (fun ls hl => ?_)
        refine lv_aload_n hx hb dX4_lay_29 rfl (lv_at hl 1 rfl) ?_
        refine gr_20 B hH wk1_122 dX4_lay_30 ?_
        refine lv_iload hx hb dX4_lay_33 (lv_at hl 0 rfl) ?_
        refine lv_iconst (v := (-1)) hx hb dX4_lay_35 (by decide) ?_
        obtain ⟨b9_5, h⟩ := h
        refine ast_20 B hH hO b9_5 dX4_lay_36 (fun x9_6 e9_6 H locs hH => ?_)
        replace h := h x9_6 e9_6
        refine lv_aload_n hx hb dX4_lay_37 rfl (lv_at hl 1 rfl) ?_
        refine gr_21 B hH wk1_124 dX4_lay_38 ?_
        refine lv_iload hx hb dX4_lay_41 (lv_at hl 0 rfl) ?_
        refine lv_iconst (v := (-1)) hx hb dX4_lay_43 (by decide) ?_
        refine ast_21 B hH hO b9_5 dX4_lay_44 (fun x9_7 e9_7 H locs hH => ?_)
        replace h := h x9_7 e9_7
        refine lv_aload_n hx hb dX4_lay_45 rfl (lv_at hl 2 rfl) ?_
        refine gr_13 B hH wk1_82 dX4_lay_46 ?_
        refine lv_iload hx hb dX4_lay_49 (lv_at hl 0 rfl) ?_
        refine ald_13 B hH b9_5 dX4_lay_51 ?_
        refine lv_aload_n hx hb dX4_lay_52 rfl (lv_at hl 1 rfl) ?_
        refine gf_13 B hH wk1_128 dX4_lay_53 ?_
        refine lv_icmp_le (tgt := 72) hx hb dX4_lay_56 (by decide) (fun c9_8 => ?_) (fun c9_8 => ?_)
        · replace h := h.1 c9_8
          refine lv_aload_n hx hb dX4_lay_72 rfl (lv_at hl 2 rfl) ?_
          refine gr_12 B hH wk1_80 dX4_lay_73 ?_
          refine lv_iload hx hb dX4_lay_76 (lv_at hl 0 rfl) ?_
          refine ald_12 B hH b9_5 dX4_lay_78 ?_
          refine lv_bipush (v := 100) hx hb dX4_lay_79 (by decide) ?_
          refine lv_aload_n hx hb dX4_lay_81 rfl (lv_at hl 1 rfl) ?_
          refine gr_17 B hH wk1_116 dX4_lay_82 ?_
          refine lv_aload_n hx hb dX4_lay_85 rfl (lv_at hl 2 rfl) ?_
          refine gr_14 B hH wk1_84 dX4_lay_86 ?_
          refine lv_iload hx hb dX4_lay_89 (lv_at hl 0 rfl) ?_
          refine ald_14 B hH b9_5 dX4_lay_91 ?_
          obtain ⟨b9_9, h⟩ := h
          refine ald_17 B hH b9_9 dX4_lay_92 ?_
          refine lv_iadd hx hb dX4_lay_93 ?_
          refine lv_imul hx hb dX4_lay_94 ?_
          refine lv_topi (fun v6_9_10 e9_10 => ?_)
          replace h := h v6_9_10 e9_10
          refine lv_istore (lv' := [(6, .int v6_9_10), (5, .int v5_9_4), (0, .ref (ad 15)), (1, .ref (ad 4)), (2, .int a2), (3, .int v3_9), (4, .int v4_9)]) hx hb dX4_lay_95 hl (by decide) rfl (fun ls hl => ?_)
          obtain ⟨n_97, h⟩ := h
          have loop_97 : ∀ (f4_97 : Int32) (f5_97 : Int32) (f6_97 : Int32) (n_97 : Nat) (v3_97 : Int32) (x_97 : ST) (H : Heap) (locs : List Loc) (ls : Array Slot), Hd D (AW ad) (Wd ad cy x_97 y) s H locs → lv_has ls 7 [(0, .ref (ad 15)), (1, .ref (ad 4)), (2, .int a2), (4, .int f4_97), (5, .int f5_97), (6, .int f6_97), (3, .int v3_97)] → it (fun (_ : Int32) (_ : ST) => False) (FX4_lay_97 (it (fun (_ : Int32) (_ : Int32) (_ : ST) => False) (FX4_lay_9 a2 K) n_9) f4_97 f5_97 f6_97) n_97 v3_97 x_97 → W p l e (headSpec (Cond.code yX4_lay cX4_lay 7 none :: WL) ({ frames := 1, cells := 0, slots := 0, locals := 23 } : Room)).room s m ([Value.ref (ad 15), Value.ref (ad 4), Value.int a2] : List Value).toArray below meth c H locs 0 0 (MQ below (va_Qv K (QW D (fun z => Wd ad cy z y)) (AW ad)) ([Value.ref (ad 15), Value.ref (ad 4), Value.int a2] : List Value).toArray s 0 0 (AW ad)) (F0 m 97 ls []) := by
            intro f4_97 f5_97 f6_97 n_97
            induction n_97 with
            | zero => intro v3_97 x_97 H locs ls hH hl h; exact False.elim h
            | succ n_97 ih97 =>
              intro v3_97 x_97 H locs ls hH hl h
              refine lv_iload_n hx hb dX4_lay_97 rfl (lv_at hl 6 rfl) ?_
              refine lv_aload_n hx hb dX4_lay_98 rfl (lv_at hl 0 rfl) ?_
              refine gf_12 B hH wk1_126 dX4_lay_99 ?_
              refine lv_icmp_ge (tgt := 128) hx hb dX4_lay_102 (by decide) (fun c97_1 => ?_) (fun c97_1 => ?_)
              · replace h := h.1 c97_1
                refine lv_iload_n hx hb dX4_lay_128 rfl (lv_at hl 6 rfl) ?_
                refine lv_aload_n hx hb dX4_lay_129 rfl (lv_at hl 0 rfl) ?_
                refine gf_12 B hH wk1_126 dX4_lay_130 ?_
                refine lv_icmp_ge (tgt := 148) hx hb dX4_lay_133 (by decide) (fun _ => ?_) (fun cq => absurd c97_1 cq)
                refine lv_aload_n hx hb dX4_lay_148 rfl (lv_at hl 0 rfl) ?_
                refine lv_dup hx hb dX4_lay_149 rfl ?_
                refine gf_15 B hH wk1_132 dX4_lay_150 ?_
                refine lv_iconst (v := 1) hx hb dX4_lay_153 (by decide) ?_
                refine lv_iadd hx hb dX4_lay_154 ?_
                refine pf_15 B hH hO wk1_132 dX4_lay_155 (fun x97_2 e97_2 H locs hH => ?_)
                replace h := h x97_2 e97_2
                obtain ⟨v4_97_3, e97_3⟩ : ∃ z : Int32, z = f4_97 + 1 := ⟨_, rfl⟩
                replace h := h v4_97_3 e97_3
                refine lv_iinc (v := v4_97_3) (lv' := [(4, .int v4_97_3), (0, .ref (ad 15)), (1, .ref (ad 4)), (2, .int a2), (5, .int f5_97), (6, .int f6_97), (3, .int v3_97)]) hx hb dX4_lay_158 hl (k := 3) rfl (by rw [e97_3]; first | rfl | done) (by decide) rfl (fun ls hl => ?_)
                refine lv_goto (tgt := 9) hx hb dX4_lay_161 (by decide) ?_
                exact ih9 v3_97 v4_97_3 x97_2 _ _ _ hH (lv_sub hl [1, 2, 3, 6, 0] rfl) h
              · replace h := h.2 c97_1
                refine lv_aload_n hx hb dX4_lay_105 rfl (lv_at hl 0 rfl) ?_
                refine gr_19 B hH wk1_120 dX4_lay_106 ?_
                refine lv_iload_n hx hb dX4_lay_109 rfl (lv_at hl 6 rfl) ?_
                obtain ⟨b97_4, h⟩ := h
                refine ald_19 B hH b97_4 dX4_lay_110 ?_
                refine lv_iload hx hb dX4_lay_111 (lv_at hl 5 rfl) ?_
                refine lv_iadd hx hb dX4_lay_113 ?_
                refine lv_aload_n hx hb dX4_lay_114 rfl (lv_at hl 0 rfl) ?_
                refine lv_iload_n hx hb dX4_lay_115 rfl (lv_at hl 6 rfl) ?_
                refine xVi (Wf := (fun z => Wd ad cy z y)) (n := 1) (P := 15) (ci := 4) (As := [.int v3_97]) (rest := [.int (((gA x_97 19 v3_97) + f6_97))]) B hH hO (kX4_room l hO.1 v3_97 _ x_97 y h) rfl rfl wk2_161 wk2_162 wk2_163 wk1_5 wk2_164 (by decide +kernel) rfl ⟨rfl, rfl⟩ ⟨Nat.le_of_ble_eq_true rfl, Nat.le_of_ble_eq_true rfl⟩ ⟨Nat.zero_le _, Nat.zero_le _⟩ hl.1 rfl (Nat.le_of_ble_eq_true rfl) dX4_lay_116 (fun r97_5 x97_5 H locs h hH => ?_)
                replace hH : Hd D (AW ad) (Wd ad cy x97_5 y) s H locs := hH
                refine lv_icmp_le (tgt := 128) hx hb dX4_lay_119 (by decide) (fun c97_6 => ?_) (fun c97_6 => ?_)
                · replace h := h.1 c97_6
                  refine lv_iload_n hx hb dX4_lay_128 rfl (lv_at hl 6 rfl) ?_
                  refine lv_aload_n hx hb dX4_lay_129 rfl (lv_at hl 0 rfl) ?_
                  refine gf_12 B hH wk1_126 dX4_lay_130 ?_
                  refine lv_icmp_ge (tgt := 148) hx hb dX4_lay_133 (by decide) (fun c97_7 => ?_) (fun c97_7 => ?_)
                  · replace h := h.1 c97_7
                    refine lv_aload_n hx hb dX4_lay_148 rfl (lv_at hl 0 rfl) ?_
                    refine lv_dup hx hb dX4_lay_149 rfl ?_
                    refine gf_15 B hH wk1_132 dX4_lay_150 ?_
                    refine lv_iconst (v := 1) hx hb dX4_lay_153 (by decide) ?_
                    refine lv_iadd hx hb dX4_lay_154 ?_
                    refine pf_15 B hH hO wk1_132 dX4_lay_155 (fun x97_8 e97_8 H locs hH => ?_)
                    replace h := h x97_8 e97_8
                    obtain ⟨v4_97_9, e97_9⟩ : ∃ z : Int32, z = f4_97 + 1 := ⟨_, rfl⟩
                    replace h := h v4_97_9 e97_9
                    refine lv_iinc (v := v4_97_9) (lv' := [(4, .int v4_97_9), (0, .ref (ad 15)), (1, .ref (ad 4)), (2, .int a2), (5, .int f5_97), (6, .int f6_97), (3, .int v3_97)]) hx hb dX4_lay_158 hl (k := 3) rfl (by rw [e97_9]; first | rfl | done) (by decide) rfl (fun ls hl => ?_)
                    refine lv_goto (tgt := 9) hx hb dX4_lay_161 (by decide) ?_
                    exact ih9 v3_97 v4_97_9 x97_8 _ _ _ hH (lv_sub hl [1, 2, 3, 6, 0] rfl) h
                  · replace h := h.2 c97_7
                    refine lv_aload_n hx hb dX4_lay_136 rfl (lv_at hl 0 rfl) ?_
                    refine lv_iload hx hb dX4_lay_137 (lv_at hl 4 rfl) ?_
                    refine lv_iload hx hb dX4_lay_139 (lv_at hl 5 rfl) ?_
                    refine lv_iload_n hx hb dX4_lay_141 rfl (lv_at hl 6 rfl) ?_
                    refine xVv (Wf := (fun z => Wd ad cy z y)) (n := 3) (P := 15) (ci := 4) (As := [.int f5_97, .int f6_97, .int v3_97]) (rest := []) B hH hO (kX4_put l hO.1 f5_97 f6_97 v3_97 _ x97_5 y h) rfl rfl wk2_165 wk2_167 wkp_7 wk1_5 wk2_168 (by decide +kernel) rfl ⟨rfl, rfl⟩ ⟨Nat.le_of_ble_eq_true rfl, Nat.le_of_ble_eq_true rfl⟩ ⟨Nat.zero_le _, Nat.zero_le _⟩ hl.1 rfl (Nat.le_of_ble_eq_true rfl) dX4_lay_142 (fun x97_10 H locs h hH => ?_)
                    replace hH : Hd D (AW ad) (Wd ad cy x97_10 y) s H locs := hH
                    refine lv_goto (tgt := 158) hx hb dX4_lay_145 (by decide) ?_
                    obtain ⟨v4_97_11, e97_11⟩ : ∃ z : Int32, z = f4_97 + 1 := ⟨_, rfl⟩
                    replace h := h v4_97_11 e97_11
                    refine lv_iinc (v := v4_97_11) (lv' := [(4, .int v4_97_11), (0, .ref (ad 15)), (1, .ref (ad 4)), (2, .int a2), (5, .int f5_97), (6, .int f6_97), (3, .int v3_97)]) hx hb dX4_lay_158 hl (k := 3) rfl (by rw [e97_11]; first | rfl | done) (by decide) rfl (fun ls hl => ?_)
                    refine lv_goto (tgt := 9) hx hb dX4_lay_161 (by decide) ?_
                    exact ih9 v3_97 v4_97_11 x97_10 _ _ _ hH (lv_sub hl [1, 2, 3, 6, 0] rfl) h
                · replace h := h.2 c97_6
                  obtain ⟨v3_97_12, e97_12⟩ : ∃ z : Int32, z = v3_97 + 1 := ⟨_, rfl⟩
                  replace h := h v3_97_12 e97_12
                  refine lv_iinc (v := v3_97_12) (lv' := [(3, .int v3_97_12), (0, .ref (ad 15)), (1, .ref (ad 4)), (2, .int a2), (4, .int f4_97), (5, .int f5_97), (6, .int f6_97)]) hx hb dX4_lay_122 hl (k := 6) rfl (by rw [e97_12]; first | rfl | done) (by decide) rfl (fun ls hl => ?_)
                  refine lv_goto (tgt := 97) hx hb dX4_lay_125 (by decide) ?_
                  exact ih97 v3_97_12 x97_5 _ _ _ hH (lv_sub hl [1, 2, 3, 4, 5, 6, 0] rfl) h
          exact loop_97 v4_9 v5_9_4 v6_9_10 n_97 v3_9 x9_7 _ _ _ hH (lv_sub hl [2, 3, 4, 6, 1, 0, 5] rfl) h
        · replace h := h.2 c9_8
          refine lv_aload_n hx hb dX4_lay_59 rfl (lv_at hl 1 rfl) ?_
          refine lv_dup hx hb dX4_lay_60 rfl ?_
          refine gf_14 B hH wk1_130 dX4_lay_61 ?_
          refine lv_iconst (v := 1) hx hb dX4_lay_64 (by decide) ?_
          refine lv_iadd hx hb dX4_lay_65 ?_
          refine pf_14 B hH hO wk1_130 dX4_lay_66 (fun x9_11 e9_11 H locs hH => ?_)
          replace h := h x9_11 e9_11
          refine lv_goto (tgt := 158) hx hb dX4_lay_69 (by decide) ?_
          obtain ⟨v4_9_12, e9_12⟩ : ∃ z : Int32, z = v4_9 + 1 := ⟨_, rfl⟩
          replace h := h v4_9_12 e9_12
          refine lv_iinc (v := v4_9_12) (lv' := [(4, .int v4_9_12), (5, .int v5_9_4), (0, .ref (ad 15)), (1, .ref (ad 4)), (2, .int a2), (3, .int v3_9)]) hx hb dX4_lay_158 hl (k := 5) rfl (by rw [e9_12]; first | rfl | done) (by decide) rfl (fun ls hl => ?_)
          refine lv_goto (tgt := 9) hx hb dX4_lay_161 (by decide) ?_
          exact ih9 v3_9 v4_9_12 x9_11 _ _ _ hH (lv_sub hl [2, 3, 4, 5, 0] rfl) h
  exact loop_9 n_9 0 0 x1 _ _ _ hH (lv_sub hl [2, 3, 4, 1, 0] rfl) h
set_option maxHeartbeats 4000000 in
set_option maxRecDepth 100000 in
theorem kX5_append (l : Launch) {D : va_G} {cy : Nat → ClassId} {ad : Nat → Nat} (hI : AdI ad) (a1 : Int32) (K : ST → Prop) (x y : ST) (h : wX5_append a1 K x) : Met l yX5_append (Cond.code yX5_append cX5_append 3 none :: WL) ({ frames := 0, cells := 0, slots := 0, locals := 0 } : Room) (va_Pc [.ref (ad 1), .int a1] (PW D cy ad x y)) (va_Qv K (QW D (fun z => Wd ad cy z y)) (AW ad)) 0 0 (AW ad) := by
  refine Met.ofW (cc := cX5_append) (maxL := 3) (ret := none) (by decide) rfl ?_
  intro p e s m args below meth c s₁ B0 hml hv
  obtain ⟨rfl, hP, hK, hN⟩ := hv
  have hr := B0.returns
  have hlocks := B0.notSynchronized
  have hts := atoms_spec (ws := (Cond.code yX5_append cX5_append 3 none :: WL)) B0.pre
  have B : Bd p s m ([Value.ref (ad 1), Value.int a1] : List Value).toArray c cX5_append 3 RX5 D cy := ⟨B0.exec, B0.bytes, hml, findClass_of_methodNamed B0.named, fun w hw => hts w (List.mem_cons_of_mem _ hw), hK, hN⟩
  have hx := B0.exec
  have hb := B0.bytes
  have hO : AdOk ad (AW ad) := hI.self
  have hH : Hd D (AW ad) (Wd ad cy x y) s s.heap [] := ⟨hP, va_S.rf⟩
  have hl := lv_entry ([.ref (ad 1), .int a1]) (n := 3) (Nat.le_of_ble_eq_true rfl)
  rw [lg_entry_eq]
  generalize (lg_sl ([.ref (ad 1), .int a1]) ++ List.replicate (3 - (lg_sl ([.ref (ad 1), .int a1])).length) Slot.unset).toArray = ls at hl ⊢
  have hl : lv_has ls 3 [(0, .ref (ad 1)), (1, .int a1)] := hl
  unfold wX5_append at h
  refine lv_bipush (v := 24) hx hb dX5_append_0 (by decide) ?_
  refine lv_istore_n (lv' := [(2, .int 24), (0, .ref (ad 1)), (1, .int a1)]) hx hb dX5_append_2 rfl hl (by decide) rfl (fun ls hl => ?_)
  obtain ⟨n_3, h⟩ := h
  have loop_3 : ∀ (n_3 : Nat) (v2_3 : Int32) (x_3 : ST) (H : Heap) (locs : List Loc) (ls : Array Slot), Hd D (AW ad) (Wd ad cy x_3 y) s H locs → lv_has ls 3 [(0, .ref (ad 1)), (1, .int a1), (2, .int v2_3)] → it (fun (_ : Int32) (_ : ST) => False) (FX5_append_3 a1 K) n_3 v2_3 x_3 → W p l e (headSpec (Cond.code yX5_append cX5_append 3 none :: WL) ({ frames := 0, cells := 0, slots := 0, locals := 0 } : Room)).room s m ([Value.ref (ad 1), Value.int a1] : List Value).toArray below meth c H locs 0 0 (MQ below (va_Qv K (QW D (fun z => Wd ad cy z y)) (AW ad)) ([Value.ref (ad 1), Value.int a1] : List Value).toArray s 0 0 (AW ad)) (F0 m 3 ls []) := by
    intro n_3
    induction n_3 with
    | zero => intro v2_3 x_3 H locs ls hH hl h; exact False.elim h
    | succ n_3 ih3 =>
      intro v2_3 x_3 H locs ls hH hl h
      refine lv_iload_n hx hb dX5_append_3 rfl (lv_at hl 2 rfl) ?_
      refine lv_if_lt (tgt := 48) hx hb dX5_append_4 (by decide) (fun c3_1 => ?_) (fun c3_1 => ?_)
      · replace h := h.1 c3_1
        exact xret_v hx hb hr hlocks hH h dX5_append_48
      · replace h := h.2 c3_1
        refine lv_aload_n hx hb dX5_append_7 rfl (lv_at hl 0 rfl) ?_
        refine gf_3 B hH wk1_25 dX5_append_8 ?_
        refine lv_bipush (v := 20) hx hb dX5_append_11 (by decide) ?_
        refine lv_icmp_ge (tgt := 48) hx hb dX5_append_13 (by decide) (fun c3_2 => ?_) (fun c3_2 => ?_)
        · replace h := h.1 c3_2
          exact xret_v hx hb hr hlocks hH h dX5_append_48
        · replace h := h.2 c3_2
          refine lv_aload_n hx hb dX5_append_16 rfl (lv_at hl 0 rfl) ?_
          refine gr_2 B hH wk1_24 dX5_append_17 ?_
          refine lv_aload_n hx hb dX5_append_20 rfl (lv_at hl 0 rfl) ?_
          refine gf_3 B hH wk1_25 dX5_append_21 ?_
          refine lv_iload_n hx hb dX5_append_24 rfl (lv_at hl 1 rfl) ?_
          refine lv_iload_n hx hb dX5_append_25 rfl (lv_at hl 2 rfl) ?_
          refine lv_iushr hx hb dX5_append_26 rfl ?_
          refine lv_sipush (v := 255) hx hb dX5_append_27 (by decide) ?_
          refine lv_iand hx hb dX5_append_30 ?_
          obtain ⟨b3_3, h⟩ := h
          refine ast_2 B hH hO b3_3 dX5_append_31 (fun x3_4 e3_4 H locs hH => ?_)
          replace h := h x3_4 e3_4
          refine lv_aload_n hx hb dX5_append_32 rfl (lv_at hl 0 rfl) ?_
          refine lv_dup hx hb dX5_append_33 rfl ?_
          refine gf_3 B hH wk1_25 dX5_append_34 ?_
          refine lv_iconst (v := 1) hx hb dX5_append_37 (by decide) ?_
          refine lv_iadd hx hb dX5_append_38 ?_
          refine pf_3 B hH hO wk1_25 dX5_append_39 (fun x3_5 e3_5 H locs hH => ?_)
          replace h := h x3_5 e3_5
          obtain ⟨v2_3_6, e3_6⟩ : ∃ z : Int32, z = v2_3 + (-8) := ⟨_, rfl⟩
          replace h := h v2_3_6 e3_6
          refine lv_iinc (v := v2_3_6) (lv' := [(2, .int v2_3_6), (0, .ref (ad 1)), (1, .int a1)]) hx hb dX5_append_42 hl (k := 2) rfl (by rw [e3_6]; first | rfl | done) (by decide) rfl (fun ls hl => ?_)
          refine lv_goto (tgt := 3) hx hb dX5_append_45 (by decide) ?_
          exact ih3 v2_3_6 x3_5 _ _ _ hH (lv_sub hl [1, 2, 0] rfl) h
  exact loop_3 n_3 24 x _ _ _ hH (lv_sub hl [1, 2, 0] rfl) h
set_option maxHeartbeats 4000000 in
set_option maxRecDepth 100000 in
theorem kX6_feed (l : Launch) {D : va_G} {cy : Nat → ClassId} {ad : Nat → Nat} (hI : AdI ad) (a1 : Int32) (a2 : Int32) (a3 : Int32) (a4 : Int32) (a5 : Int32) (K : Int32 → ST → Prop) (x y : ST) (h : wX6_feed a1 a2 a3 a4 a5 K x) : Met l yX6_feed (Cond.code yX6_feed cX6_feed 6 (some .int) :: WL) ({ frames := 1, cells := 0, slots := 0, locals := 22 } : Room) (va_Pc [.ref (ad 0), .int a1, .int a2, .int a3, .int a4, .int a5] (PW D cy ad x y)) (va_Qi K (QW D (fun z => Wd ad cy z y)) (AW ad)) 0 0 (AW ad) := by
  refine Met.ofW (cc := cX6_feed) (maxL := 6) (ret := (some .int)) (by decide) rfl ?_
  intro p e s m args below meth c s₁ B0 hml hv
  obtain ⟨rfl, hP, hK, hN⟩ := hv
  have hr := B0.returns
  have hlocks := B0.notSynchronized
  have hts := atoms_spec (ws := (Cond.code yX6_feed cX6_feed 6 (some .int) :: WL)) B0.pre
  have B : Bd p s m ([Value.ref (ad 0), Value.int a1, Value.int a2, Value.int a3, Value.int a4, Value.int a5] : List Value).toArray c cX6_feed 6 RX6 D cy := ⟨B0.exec, B0.bytes, hml, findClass_of_methodNamed B0.named, fun w hw => hts w (List.mem_cons_of_mem _ hw), hK, hN⟩
  have hx := B0.exec
  have hb := B0.bytes
  have hO : AdOk ad (AW ad) := hI.self
  have hH : Hd D (AW ad) (Wd ad cy x y) s s.heap [] := ⟨hP, va_S.rf⟩
  have hl := lv_entry ([.ref (ad 0), .int a1, .int a2, .int a3, .int a4, .int a5]) (n := 6) (Nat.le_of_ble_eq_true rfl)
  rw [lg_entry_eq]
  generalize (lg_sl ([.ref (ad 0), .int a1, .int a2, .int a3, .int a4, .int a5]) ++ List.replicate (6 - (lg_sl ([.ref (ad 0), .int a1, .int a2, .int a3, .int a4, .int a5])).length) Slot.unset).toArray = ls at hl ⊢
  have hl : lv_has ls 6 [(0, .ref (ad 0)), (1, .int a1), (2, .int a2), (3, .int a3), (4, .int a4), (5, .int a5)] := hl
  unfold wX6_feed at h
  refine lv_aload_n hx hb dX6_feed_0 rfl (lv_at hl 0 rfl) ?_
  refine gr_1 B hH wk1_236 dX6_feed_1 ?_
  refine gf_3 B hH wk1_26 dX6_feed_4 ?_
  refine lv_if_le (tgt := 12) hx hb dX6_feed_7 (by decide) (fun c1 => ?_) (fun c1 => ?_)
  · replace h := h.1 c1
    refine lv_aload_n hx hb dX6_feed_12 rfl (lv_at hl 0 rfl) ?_
    refine gr_1 B hH wk1_236 dX6_feed_13 ?_
    refine lv_iload_n hx hb dX6_feed_16 rfl (lv_at hl 1 rfl) ?_
    refine xVv (Wf := (fun z => Wd ad cy z y)) (n := 1) (P := 1) (ci := 5) (As := [.int a1]) (rest := []) B hH hO (kX5_append l hO.1 a1 _ x y h) rfl rfl wk2_28 wk2_29 wk2_30 wk1_2 wk2_31 (by decide +kernel) rfl ⟨rfl, rfl⟩ ⟨Nat.le_of_ble_eq_true rfl, Nat.le_of_ble_eq_true rfl⟩ ⟨Nat.zero_le _, Nat.zero_le _⟩ hl.1 rfl (Nat.le_of_ble_eq_true rfl) dX6_feed_17 (fun x2 H locs h hH => ?_)
    replace hH : Hd D (AW ad) (Wd ad cy x2 y) s H locs := hH
    refine lv_aload_n hx hb dX6_feed_20 rfl (lv_at hl 0 rfl) ?_
    refine gr_1 B hH wk1_236 dX6_feed_21 ?_
    refine lv_iload_n hx hb dX6_feed_24 rfl (lv_at hl 2 rfl) ?_
    refine xVv (Wf := (fun z => Wd ad cy z y)) (n := 1) (P := 1) (ci := 5) (As := [.int a2]) (rest := []) B hH hO (kX5_append l hO.1 a2 _ x2 y h) rfl rfl wk2_28 wk2_29 wk2_30 wk1_2 wk2_31 (by decide +kernel) rfl ⟨rfl, rfl⟩ ⟨Nat.le_of_ble_eq_true rfl, Nat.le_of_ble_eq_true rfl⟩ ⟨Nat.zero_le _, Nat.zero_le _⟩ hl.1 rfl (Nat.le_of_ble_eq_true rfl) dX6_feed_25 (fun x3 H locs h hH => ?_)
    replace hH : Hd D (AW ad) (Wd ad cy x3 y) s H locs := hH
    refine lv_aload_n hx hb dX6_feed_28 rfl (lv_at hl 0 rfl) ?_
    refine gr_1 B hH wk1_236 dX6_feed_29 ?_
    refine lv_iload_n hx hb dX6_feed_32 rfl (lv_at hl 3 rfl) ?_
    refine xVv (Wf := (fun z => Wd ad cy z y)) (n := 1) (P := 1) (ci := 5) (As := [.int a3]) (rest := []) B hH hO (kX5_append l hO.1 a3 _ x3 y h) rfl rfl wk2_28 wk2_29 wk2_30 wk1_2 wk2_31 (by decide +kernel) rfl ⟨rfl, rfl⟩ ⟨Nat.le_of_ble_eq_true rfl, Nat.le_of_ble_eq_true rfl⟩ ⟨Nat.zero_le _, Nat.zero_le _⟩ hl.1 rfl (Nat.le_of_ble_eq_true rfl) dX6_feed_33 (fun x4 H locs h hH => ?_)
    replace hH : Hd D (AW ad) (Wd ad cy x4 y) s H locs := hH
    refine lv_aload_n hx hb dX6_feed_36 rfl (lv_at hl 0 rfl) ?_
    refine gr_1 B hH wk1_236 dX6_feed_37 ?_
    refine lv_iload hx hb dX6_feed_40 (lv_at hl 4 rfl) ?_
    refine xVv (Wf := (fun z => Wd ad cy z y)) (n := 1) (P := 1) (ci := 5) (As := [.int a4]) (rest := []) B hH hO (kX5_append l hO.1 a4 _ x4 y h) rfl rfl wk2_28 wk2_29 wk2_30 wk1_2 wk2_31 (by decide +kernel) rfl ⟨rfl, rfl⟩ ⟨Nat.le_of_ble_eq_true rfl, Nat.le_of_ble_eq_true rfl⟩ ⟨Nat.zero_le _, Nat.zero_le _⟩ hl.1 rfl (Nat.le_of_ble_eq_true rfl) dX6_feed_42 (fun x5 H locs h hH => ?_)
    replace hH : Hd D (AW ad) (Wd ad cy x5 y) s H locs := hH
    refine lv_aload_n hx hb dX6_feed_45 rfl (lv_at hl 0 rfl) ?_
    refine gr_1 B hH wk1_236 dX6_feed_46 ?_
    refine lv_iload hx hb dX6_feed_49 (lv_at hl 5 rfl) ?_
    refine xVv (Wf := (fun z => Wd ad cy z y)) (n := 1) (P := 1) (ci := 5) (As := [.int a5]) (rest := []) B hH hO (kX5_append l hO.1 a5 _ x5 y h) rfl rfl wk2_28 wk2_29 wk2_30 wk1_2 wk2_31 (by decide +kernel) rfl ⟨rfl, rfl⟩ ⟨Nat.le_of_ble_eq_true rfl, Nat.le_of_ble_eq_true rfl⟩ ⟨Nat.zero_le _, Nat.zero_le _⟩ hl.1 rfl (Nat.le_of_ble_eq_true rfl) dX6_feed_51 (fun x6 H locs h hH => ?_)
    replace hH : Hd D (AW ad) (Wd ad cy x6 y) s H locs := hH
    refine lv_aload_n hx hb dX6_feed_54 rfl (lv_at hl 0 rfl) ?_
    refine gr_1 B hH wk1_236 dX6_feed_55 ?_
    refine gf_3 B hH wk1_26 dX6_feed_58 ?_
    exact xret_i hx hb hr hlocks hH h dX6_feed_61
  · replace h := h.2 c1
    refine lv_iconst (v := (-1)) hx hb dX6_feed_10 (by decide) ?_
    exact xret_i hx hb hr hlocks hH h dX6_feed_11
set_option maxHeartbeats 4000000 in
set_option maxRecDepth 100000 in
theorem kX6_end (l : Launch) {D : va_G} {cy : Nat → ClassId} {ad : Nat → Nat} (hI : AdI ad) (a1 : Int32) (K : Int32 → ST → Prop) (x y : ST) (h : wX6_end a1 K x) : Met l yX6_end (Cond.code yX6_end cX6_end 2 (some .int) :: WL) ({ frames := 1, cells := 0, slots := 0, locals := 22 } : Room) (va_Pc [.ref (ad 0), .int a1] (PW D cy ad x y)) (va_Qi K (QW D (fun z => Wd ad cy z y)) (AW ad)) 0 0 (AW ad) := by
  refine Met.ofW (cc := cX6_end) (maxL := 2) (ret := (some .int)) (by decide) rfl ?_
  intro p e s m args below meth c s₁ B0 hml hv
  obtain ⟨rfl, hP, hK, hN⟩ := hv
  have hr := B0.returns
  have hlocks := B0.notSynchronized
  have hts := atoms_spec (ws := (Cond.code yX6_end cX6_end 2 (some .int) :: WL)) B0.pre
  have B : Bd p s m ([Value.ref (ad 0), Value.int a1] : List Value).toArray c cX6_end 2 RX6 D cy := ⟨B0.exec, B0.bytes, hml, findClass_of_methodNamed B0.named, fun w hw => hts w (List.mem_cons_of_mem _ hw), hK, hN⟩
  have hx := B0.exec
  have hb := B0.bytes
  have hO : AdOk ad (AW ad) := hI.self
  have hH : Hd D (AW ad) (Wd ad cy x y) s s.heap [] := ⟨hP, va_S.rf⟩
  have hl := lv_entry ([.ref (ad 0), .int a1]) (n := 2) (Nat.le_of_ble_eq_true rfl)
  rw [lg_entry_eq]
  generalize (lg_sl ([.ref (ad 0), .int a1]) ++ List.replicate (2 - (lg_sl ([.ref (ad 0), .int a1])).length) Slot.unset).toArray = ls at hl ⊢
  have hl : lv_has ls 2 [(0, .ref (ad 0)), (1, .int a1)] := hl
  unfold wX6_end at h
  refine lv_iload_n hx hb dX6_end_0 rfl (lv_at hl 1 rfl) ?_
  refine lv_iconst (v := 0) hx hb dX6_end_1 (by decide) ?_
  refine lv_aload_n hx hb dX6_end_2 rfl (lv_at hl 0 rfl) ?_
  refine gr_1 B hH wk1_236 dX6_end_3 ?_
  refine gf_3 B hH wk1_26 dX6_end_6 ?_
  refine xSi (Wf := (fun z => Wd ad cy z y)) (n := 3) (As := [.int a1, .int 0, .int (gI x 3)]) (rest := []) B hH hO (kX6_within l hO.1 a1 0 (gI x 3) _ x y h) wk2_36 wk2_37 wk1_1 wk2_38 (by decide +kernel) rfl ⟨rfl, rfl⟩ ⟨Nat.le_of_ble_eq_true rfl, Nat.le_of_ble_eq_true rfl⟩ ⟨Nat.zero_le _, Nat.zero_le _⟩ hl.1 rfl (Nat.le_of_ble_eq_true rfl) dX6_end_9 (fun r1 x1 H locs h hH => ?_)
  obtain ⟨h, hz1⟩ := h
  replace hH : Hd D (AW ad) (Wd ad cy x1 y) s H locs := hH
  refine lv_if_ne (tgt := 17) hx hb dX6_end_12 (by decide) (fun c2 => ?_) (fun c2 => ?_)
  · replace h := h.1 c2
    refine lv_aload_n hx hb dX6_end_17 rfl (lv_at hl 0 rfl) ?_
    refine gr_1 B hH wk1_236 dX6_end_18 ?_
    refine lv_iload_n hx hb dX6_end_21 rfl (lv_at hl 1 rfl) ?_
    refine pf_3 B hH hO wk1_26 dX6_end_22 (fun x3 e3 H locs hH => ?_)
    replace h := h x3 e3
    refine lv_iload_n hx hb dX6_end_25 rfl (lv_at hl 1 rfl) ?_
    exact xret_i hx hb hr hlocks hH h dX6_end_26
  · replace h := h.2 c2
    refine lv_iconst (v := (-1)) hx hb dX6_end_15 (by decide) ?_
    exact xret_i hx hb hr hlocks hH h dX6_end_16
set_option maxHeartbeats 4000000 in
set_option maxRecDepth 100000 in
theorem kX6_forgetWhatFollows (l : Launch) {D : va_G} {cy : Nat → ClassId} {ad : Nat → Nat} (hI : AdI ad) (K : ST → Prop) (x y : ST) (h : wX6_forgetWhatFollows K x) : Met l yX6_forgetWhatFollows (Cond.code yX6_forgetWhatFollows cX6_forgetWhatFollows 1 none :: WL) ({ frames := 0, cells := 0, slots := 0, locals := 0 } : Room) (va_Pc [.ref (ad 0)] (PW D cy ad x y)) (va_Qv K (QW D (fun z => Wd ad cy z y)) (AW ad)) 0 0 (AW ad) := by
  refine Met.ofW (cc := cX6_forgetWhatFollows) (maxL := 1) (ret := none) (by decide) rfl ?_
  intro p e s m args below meth c s₁ B0 hml hv
  obtain ⟨rfl, hP, hK, hN⟩ := hv
  have hr := B0.returns
  have hlocks := B0.notSynchronized
  have hts := atoms_spec (ws := (Cond.code yX6_forgetWhatFollows cX6_forgetWhatFollows 1 none :: WL)) B0.pre
  have B : Bd p s m ([Value.ref (ad 0)] : List Value).toArray c cX6_forgetWhatFollows 1 RX6 D cy := ⟨B0.exec, B0.bytes, hml, findClass_of_methodNamed B0.named, fun w hw => hts w (List.mem_cons_of_mem _ hw), hK, hN⟩
  have hx := B0.exec
  have hb := B0.bytes
  have hO : AdOk ad (AW ad) := hI.self
  have hH : Hd D (AW ad) (Wd ad cy x y) s s.heap [] := ⟨hP, va_S.rf⟩
  have hl := lv_entry ([.ref (ad 0)]) (n := 1) (Nat.le_of_ble_eq_true rfl)
  rw [lg_entry_eq]
  generalize (lg_sl ([.ref (ad 0)]) ++ List.replicate (1 - (lg_sl ([.ref (ad 0)])).length) Slot.unset).toArray = ls at hl ⊢
  have hl : lv_has ls 1 [(0, .ref (ad 0))] := hl
  unfold wX6_forgetWhatFollows at h
  refine lv_aload_n hx hb dX6_forgetWhatFollows_0 rfl (lv_at hl 0 rfl) ?_
  refine lv_iconst (v := 0) hx hb dX6_forgetWhatFollows_1 (by decide) ?_
  refine pf_1 B hH hO wk2_3 (Or.inl rfl) dX6_forgetWhatFollows_2 (fun x1 e1 H locs hH => ?_)
  replace h := h x1 e1
  refine lv_aload_n hx hb dX6_forgetWhatFollows_5 rfl (lv_at hl 0 rfl) ?_
  refine lv_iconst (v := 0) hx hb dX6_forgetWhatFollows_6 (by decide) ?_
  refine pf_2 B hH hO wk2_4 (Or.inl rfl) dX6_forgetWhatFollows_7 (fun x2 e2 H locs hH => ?_)
  replace h := h x2 e2
  exact xret_v hx hb hr hlocks hH h dX6_forgetWhatFollows_10
set_option maxHeartbeats 4000000 in
set_option maxRecDepth 100000 in
theorem kX6_book (l : Launch) {D : va_G} {cy : Nat → ClassId} {ad : Nat → Nat} (hI : AdI ad) (a1 : Int32) (a2 : Int32) (a3 : Int32) (K : Int32 → ST → Prop) (x y : ST) (h : wX6_book a1 a2 a3 K x) : Met l yX6_book (Cond.code yX6_book cX6_book 4 (some .int) :: WL) ({ frames := 5, cells := 0, slots := 0, locals := 114 } : Room) (va_Pc [.ref (ad 0), .int a1, .int a2, .int a3] (PW D cy ad x y)) (va_Qi K (QW D (fun z => Wd ad cy z y)) (AW ad)) 0 0 (AW ad) := by
  refine Met.ofW (cc := cX6_book) (maxL := 4) (ret := (some .int)) (by decide) rfl ?_
  intro p e s m args below meth c s₁ B0 hml hv
  obtain ⟨rfl, hP, hK, hN⟩ := hv
  have hr := B0.returns
  have hlocks := B0.notSynchronized
  have hts := atoms_spec (ws := (Cond.code yX6_book cX6_book 4 (some .int) :: WL)) B0.pre
  have B : Bd p s m ([Value.ref (ad 0), Value.int a1, Value.int a2, Value.int a3] : List Value).toArray c cX6_book 4 RX6 D cy := ⟨B0.exec, B0.bytes, hml, findClass_of_methodNamed B0.named, fun w hw => hts w (List.mem_cons_of_mem _ hw), hK, hN⟩
  have hx := B0.exec
  have hb := B0.bytes
  have hO : AdOk ad (AW ad) := hI.self
  have hH : Hd D (AW ad) (Wd ad cy x y) s s.heap [] := ⟨hP, va_S.rf⟩
  have hl := lv_entry ([.ref (ad 0), .int a1, .int a2, .int a3]) (n := 4) (Nat.le_of_ble_eq_true rfl)
  rw [lg_entry_eq]
  generalize (lg_sl ([.ref (ad 0), .int a1, .int a2, .int a3]) ++ List.replicate (4 - (lg_sl ([.ref (ad 0), .int a1, .int a2, .int a3])).length) Slot.unset).toArray = ls at hl ⊢
  have hl : lv_has ls 4 [(0, .ref (ad 0)), (1, .int a1), (2, .int a2), (3, .int a3)] := hl
  unfold wX6_book at h
  refine lv_aload_n hx hb dX6_book_0 rfl (lv_at hl 0 rfl) ?_
  refine gr_4 B hH wk1_238 dX6_book_1 ?_
  refine gf_10 B hH wk1_87 dX6_book_4 ?_
  refine lv_bipush (v := 60) hx hb dX6_book_7 (by decide) ?_
  refine lv_icmp_ge (tgt := 42) hx hb dX6_book_9 (by decide) (fun c1 => ?_) (fun c1 => ?_)
  · replace h := h.1 c1
    refine lv_iconst (v := (-1)) hx hb dX6_book_42 (by decide) ?_
    exact xret_i hx hb hr hlocks hH h dX6_book_43
  · replace h := h.2 c1
    refine lv_iload_n hx hb dX6_book_12 rfl (lv_at hl 1 rfl) ?_
    refine lv_iconst (v := 0) hx hb dX6_book_13 (by decide) ?_
    refine lv_iconst (v := 4) hx hb dX6_book_14 (by decide) ?_
    refine xSi (Wf := (fun z => Wd ad cy z y)) (n := 3) (As := [.int a1, .int 0, .int 4]) (rest := []) B hH hO (kX6_within l hO.1 a1 0 4 _ x y h) wk2_36 wk2_37 wk1_1 wk2_38 (by decide +kernel) rfl ⟨rfl, rfl⟩ ⟨Nat.le_of_ble_eq_true rfl, Nat.le_of_ble_eq_true rfl⟩ ⟨Nat.zero_le _, Nat.zero_le _⟩ hl.1 rfl (Nat.le_of_ble_eq_true rfl) dX6_book_15 (fun r2 x2 H locs h hH => ?_)
    obtain ⟨h, hz2⟩ := h
    replace hH : Hd D (AW ad) (Wd ad cy x2 y) s H locs := hH
    refine lv_if_eq (tgt := 42) hx hb dX6_book_18 (by decide) (fun c3 => ?_) (fun c3 => ?_)
    · replace h := h.1 c3
      refine lv_iconst (v := (-1)) hx hb dX6_book_42 (by decide) ?_
      exact xret_i hx hb hr hlocks hH h dX6_book_43
    · replace h := h.2 c3
      refine lv_iload_n hx hb dX6_book_21 rfl (lv_at hl 2 rfl) ?_
      refine lv_iconst (v := 1) hx hb dX6_book_22 (by decide) ?_
      refine lv_sipush (v := 200) hx hb dX6_book_23 (by decide) ?_
      refine xSi (Wf := (fun z => Wd ad cy z y)) (n := 3) (As := [.int a2, .int 1, .int 200]) (rest := []) B hH hO (kX6_within l hO.1 a2 1 200 _ x2 y h) wk2_36 wk2_37 wk1_1 wk2_38 (by decide +kernel) rfl ⟨rfl, rfl⟩ ⟨Nat.le_of_ble_eq_true rfl, Nat.le_of_ble_eq_true rfl⟩ ⟨Nat.zero_le _, Nat.zero_le _⟩ hl.1 rfl (Nat.le_of_ble_eq_true rfl) dX6_book_26 (fun r4 x4 H locs h hH => ?_)
      obtain ⟨h, hz4⟩ := h
      replace hH : Hd D (AW ad) (Wd ad cy x4 y) s H locs := hH
      refine lv_if_eq (tgt := 42) hx hb dX6_book_29 (by decide) (fun c5 => ?_) (fun c5 => ?_)
      · replace h := h.1 c5
        refine lv_iconst (v := (-1)) hx hb dX6_book_42 (by decide) ?_
        exact xret_i hx hb hr hlocks hH h dX6_book_43
      · replace h := h.2 c5
        refine lv_iload_n hx hb dX6_book_32 rfl (lv_at hl 3 rfl) ?_
        refine lv_iconst (v := 1) hx hb dX6_book_33 (by decide) ?_
        refine lv_bipush (v := 100) hx hb dX6_book_34 (by decide) ?_
        refine xSi (Wf := (fun z => Wd ad cy z y)) (n := 3) (As := [.int a3, .int 1, .int 100]) (rest := []) B hH hO (kX6_within l hO.1 a3 1 100 _ x4 y h) wk2_36 wk2_37 wk1_1 wk2_38 (by decide +kernel) rfl ⟨rfl, rfl⟩ ⟨Nat.le_of_ble_eq_true rfl, Nat.le_of_ble_eq_true rfl⟩ ⟨Nat.zero_le _, Nat.zero_le _⟩ hl.1 rfl (Nat.le_of_ble_eq_true rfl) dX6_book_36 (fun r6 x6 H locs h hH => ?_)
        obtain ⟨h, hz6⟩ := h
        replace hH : Hd D (AW ad) (Wd ad cy x6 y) s H locs := hH
        refine lv_if_ne (tgt := 44) hx hb dX6_book_39 (by decide) (fun c7 => ?_) (fun c7 => ?_)
        · replace h := h.1 c7
          refine lv_aload_n hx hb dX6_book_44 rfl (lv_at hl 0 rfl) ?_
          refine gr_3 B hH wk1_237 dX6_book_45 ?_
          refine lv_aload_n hx hb dX6_book_48 rfl (lv_at hl 0 rfl) ?_
          refine gr_1 B hH wk1_236 dX6_book_49 ?_
          refine xVv (Wf := (fun z => Wd ad cy z y)) (n := 1) (P := 3) (ci := 2) (As := [.ref (ad 1)]) (rest := []) B hH hO (kX2_read l hO.1 _ x6 y h) rfl rfl wk2_43 wk2_44 wk2_45 wk1_3 wk2_46 (by decide +kernel) rfl ⟨rfl, rfl⟩ ⟨Nat.le_of_ble_eq_true rfl, Nat.le_of_ble_eq_true rfl⟩ ⟨Nat.zero_le _, Nat.zero_le _⟩ hl.1 rfl (Nat.le_of_ble_eq_true rfl) dX6_book_52 (fun x8 H locs h hH => ?_)
          replace hH : Hd D (AW ad) (Wd ad cy x8 y) s H locs := hH
          refine lv_aload_n hx hb dX6_book_55 rfl (lv_at hl 0 rfl) ?_
          refine gr_1 B hH wk1_236 dX6_book_56 ?_
          refine lv_iconst (v := 0) hx hb dX6_book_59 (by decide) ?_
          refine pf_3 B hH hO wk1_26 dX6_book_60 (fun x9 e9 H locs hH => ?_)
          replace h := h x9 e9
          refine lv_aload_n hx hb dX6_book_63 rfl (lv_at hl 0 rfl) ?_
          refine gr_3 B hH wk1_237 dX6_book_64 ?_
          refine gf_4 B hH wk1_41 dX6_book_67 ?_
          refine lv_iconst (v := (-1)) hx hb dX6_book_70 (by decide) ?_
          refine lv_icmp_eq (tgt := 76) hx hb dX6_book_71 (by decide) (fun c10 => ?_) (fun c10 => ?_)
          · replace h := h.1 c10
            refine lv_aload_n hx hb dX6_book_76 rfl (lv_at hl 0 rfl) ?_
            refine xVv (Wf := (fun z => Wd ad cy z y)) (n := 0) (P := 0) (ci := 6) (As := []) (rest := []) B hH hO (kX6_forgetWhatFollows l hO.1 _ x9 y h) rfl rfl wk2_78 wk2_80 wkp_2 wk1_1 wk2_81 (by decide +kernel) rfl ⟨rfl, rfl⟩ ⟨Nat.le_of_ble_eq_true rfl, Nat.le_of_ble_eq_true rfl⟩ ⟨Nat.zero_le _, Nat.zero_le _⟩ hl.1 rfl (Nat.le_of_ble_eq_true rfl) dX6_book_77 (fun x11 H locs h hH => ?_)
            replace hH : Hd D (AW ad) (Wd ad cy x11 y) s H locs := hH
            refine lv_aload_n hx hb dX6_book_80 rfl (lv_at hl 0 rfl) ?_
            refine gr_4 B hH wk1_238 dX6_book_81 ?_
            refine lv_aload_n hx hb dX6_book_84 rfl (lv_at hl 0 rfl) ?_
            refine gr_3 B hH wk1_237 dX6_book_85 ?_
            refine lv_iload_n hx hb dX6_book_88 rfl (lv_at hl 1 rfl) ?_
            refine lv_iload_n hx hb dX6_book_89 rfl (lv_at hl 2 rfl) ?_
            refine lv_iload_n hx hb dX6_book_90 rfl (lv_at hl 3 rfl) ?_
            refine xVi (Wf := (fun z => Wd ad cy z y)) (n := 4) (P := 4) (ci := 0) (As := [.ref (ad 3), .int a1, .int a2, .int a3]) (rest := []) B hH hO (kX0_add l hO.1 a1 a2 a3 _ x11 y h) rfl rfl wk2_82 wk2_83 wk2_84 wk1_4 wk2_85 (by decide +kernel) rfl ⟨rfl, rfl⟩ ⟨Nat.le_of_ble_eq_true rfl, Nat.le_of_ble_eq_true rfl⟩ ⟨Nat.zero_le _, Nat.zero_le _⟩ hl.1 rfl (Nat.le_of_ble_eq_true rfl) dX6_book_91 (fun r12 x12 H locs h hH => ?_)
            replace hH : Hd D (AW ad) (Wd ad cy x12 y) s H locs := hH
            exact xret_i hx hb hr hlocks hH h dX6_book_94
          · replace h := h.2 c10
            refine lv_iconst (v := (-1)) hx hb dX6_book_74 (by decide) ?_
            exact xret_i hx hb hr hlocks hH h dX6_book_75
        · replace h := h.2 c7
          refine lv_iconst (v := (-1)) hx hb dX6_book_42 (by decide) ?_
          exact xret_i hx hb hr hlocks hH h dX6_book_43
set_option maxHeartbeats 4000000 in
set_option maxRecDepth 100000 in
theorem kX6_wrong (l : Launch) {D : va_G} {cy : Nat → ClassId} {ad : Nat → Nat} (hI : AdI ad) (K : Int32 → ST → Prop) (x y : ST) (h : wX6_wrong K x) : Met l yX6_wrong (Cond.code yX6_wrong cX6_wrong 1 (some .int) :: WL) ({ frames := 0, cells := 0, slots := 0, locals := 0 } : Room) (va_Pc [.ref (ad 0)] (PW D cy ad x y)) (va_Qi K (QW D (fun z => Wd ad cy z y)) (AW ad)) 0 0 (AW ad) := by
  refine Met.ofW (cc := cX6_wrong) (maxL := 1) (ret := (some .int)) (by decide) rfl ?_
  intro p e s m args below meth c s₁ B0 hml hv
  obtain ⟨rfl, hP, hK, hN⟩ := hv
  have hr := B0.returns
  have hlocks := B0.notSynchronized
  have hts := atoms_spec (ws := (Cond.code yX6_wrong cX6_wrong 1 (some .int) :: WL)) B0.pre
  have B : Bd p s m ([Value.ref (ad 0)] : List Value).toArray c cX6_wrong 1 RX6 D cy := ⟨B0.exec, B0.bytes, hml, findClass_of_methodNamed B0.named, fun w hw => hts w (List.mem_cons_of_mem _ hw), hK, hN⟩
  have hx := B0.exec
  have hb := B0.bytes
  have hO : AdOk ad (AW ad) := hI.self
  have hH : Hd D (AW ad) (Wd ad cy x y) s s.heap [] := ⟨hP, va_S.rf⟩
  have hl := lv_entry ([.ref (ad 0)]) (n := 1) (Nat.le_of_ble_eq_true rfl)
  rw [lg_entry_eq]
  generalize (lg_sl ([.ref (ad 0)]) ++ List.replicate (1 - (lg_sl ([.ref (ad 0)])).length) Slot.unset).toArray = ls at hl ⊢
  have hl : lv_has ls 1 [(0, .ref (ad 0))] := hl
  unfold wX6_wrong at h
  refine lv_aload_n hx hb dX6_wrong_0 rfl (lv_at hl 0 rfl) ?_
  refine gr_3 B hH wk1_237 dX6_wrong_1 ?_
  refine gf_4 B hH wk1_41 dX6_wrong_4 ?_
  exact xret_i hx hb hr hlocks hH h dX6_wrong_7
set_option maxHeartbeats 4000000 in
set_option maxRecDepth 100000 in
theorem kX6_isRule (l : Launch) {D : va_G} {cy : Nat → ClassId} {ad : Nat → Nat} (hI : AdI ad) (a1 : Int32) (K : Int32 → ST → Prop) (x y : ST) (h : wX6_isRule a1 K x) : Met l yX6_isRule (Cond.code yX6_isRule cX6_isRule 1 (some .boolean) :: WL) ({ frames := 1, cells := 0, slots := 0, locals := 22 } : Room) (va_Pc [.int a1] (PW D cy ad x y)) (va_Qi (fun r z => K r z ∧ (r = 0 ∨ r = 1)) (QW D (fun z => Wd ad cy z y)) (AW ad)) 0 0 (AW ad) := by
  refine Met.ofW (cc := cX6_isRule) (maxL := 1) (ret := (some .boolean)) (by decide) rfl ?_
  intro p e s m args below meth c s₁ B0 hml hv
  obtain ⟨rfl, hP, hK, hN⟩ := hv
  have hr := B0.returns
  have hlocks := B0.notSynchronized
  have hts := atoms_spec (ws := (Cond.code yX6_isRule cX6_isRule 1 (some .boolean) :: WL)) B0.pre
  have B : Bd p s m ([Value.int a1] : List Value).toArray c cX6_isRule 1 RX6 D cy := ⟨B0.exec, B0.bytes, hml, findClass_of_methodNamed B0.named, fun w hw => hts w (List.mem_cons_of_mem _ hw), hK, hN⟩
  have hx := B0.exec
  have hb := B0.bytes
  have hO : AdOk ad (AW ad) := hI.self
  have hH : Hd D (AW ad) (Wd ad cy x y) s s.heap [] := ⟨hP, va_S.rf⟩
  have hl := lv_entry ([.int a1]) (n := 1) (Nat.le_of_ble_eq_true rfl)
  rw [lg_entry_eq]
  generalize (lg_sl ([.int a1]) ++ List.replicate (1 - (lg_sl ([.int a1])).length) Slot.unset).toArray = ls at hl ⊢
  have hl : lv_has ls 1 [(0, .int a1)] := hl
  unfold wX6_isRule at h
  refine lv_iload_n hx hb dX6_isRule_0 rfl (lv_at hl 0 rfl) ?_
  refine lv_iconst (v := 0) hx hb dX6_isRule_1 (by decide) ?_
  refine lv_iconst (v := 1) hx hb dX6_isRule_2 (by decide) ?_
  refine xSi (Wf := (fun z => Wd ad cy z y)) (n := 3) (As := [.int a1, .int 0, .int 1]) (rest := []) B hH hO (kX6_within l hO.1 a1 0 1 _ x y h) wk2_36 wk2_37 wk1_1 wk2_38 (by decide +kernel) rfl ⟨rfl, rfl⟩ ⟨Nat.le_of_ble_eq_true rfl, Nat.le_of_ble_eq_true rfl⟩ ⟨Nat.zero_le _, Nat.zero_le _⟩ hl.1 rfl (Nat.le_of_ble_eq_true rfl) dX6_isRule_3 (fun r1 x1 H locs h hH => ?_)
  obtain ⟨h, hz1⟩ := h
  replace hH : Hd D (AW ad) (Wd ad cy x1 y) s H locs := hH
  exact xret_z hx hb hr hlocks hH hz1 h dX6_isRule_6
set_option maxHeartbeats 4000000 in
set_option maxRecDepth 100000 in
theorem kX6_rule (l : Launch) {D : va_G} {cy : Nat → ClassId} {ad : Nat → Nat} (hI : AdI ad) (a1 : Int32) (K : Int32 → ST → Prop) (x y : ST) (h : wX6_rule a1 K x) : Met l yX6_rule (Cond.code yX6_rule cX6_rule 2 (some .boolean) :: WL) ({ frames := 2, cells := 0, slots := 0, locals := 42 } : Room) (va_Pc [.ref (ad 0), .int a1] (PW D cy ad x y)) (va_Qi (fun r z => K r z ∧ (r = 0 ∨ r = 1)) (QW D (fun z => Wd ad cy z y)) (AW ad)) 0 0 (AW ad) := by
  refine Met.ofW (cc := cX6_rule) (maxL := 2) (ret := (some .boolean)) (by decide) rfl ?_
  intro p e s m args below meth c s₁ B0 hml hv
  obtain ⟨rfl, hP, hK, hN⟩ := hv
  have hr := B0.returns
  have hlocks := B0.notSynchronized
  have hts := atoms_spec (ws := (Cond.code yX6_rule cX6_rule 2 (some .boolean) :: WL)) B0.pre
  have B : Bd p s m ([Value.ref (ad 0), Value.int a1] : List Value).toArray c cX6_rule 2 RX6 D cy := ⟨B0.exec, B0.bytes, hml, findClass_of_methodNamed B0.named, fun w hw => hts w (List.mem_cons_of_mem _ hw), hK, hN⟩
  have hx := B0.exec
  have hb := B0.bytes
  have hO : AdOk ad (AW ad) := hI.self
  have hH : Hd D (AW ad) (Wd ad cy x y) s s.heap [] := ⟨hP, va_S.rf⟩
  have hl := lv_entry ([.ref (ad 0), .int a1]) (n := 2) (Nat.le_of_ble_eq_true rfl)
  rw [lg_entry_eq]
  generalize (lg_sl ([.ref (ad 0), .int a1]) ++ List.replicate (2 - (lg_sl ([.ref (ad 0), .int a1])).length) Slot.unset).toArray = ls at hl ⊢
  have hl : lv_has ls 2 [(0, .ref (ad 0)), (1, .int a1)] := hl
  unfold wX6_rule at h
  refine lv_iload_n hx hb dX6_rule_0 rfl (lv_at hl 1 rfl) ?_
  refine xSi (Wf := (fun z => Wd ad cy z y)) (n := 1) (As := [.int a1]) (rest := []) B hH hO (kX6_isRule l hO.1 a1 _ x y h) wk2_112 wk2_113 wk1_1 wk2_114 (by decide +kernel) rfl ⟨rfl, rfl⟩ ⟨Nat.le_of_ble_eq_true rfl, Nat.le_of_ble_eq_true rfl⟩ ⟨Nat.zero_le _, Nat.zero_le _⟩ hl.1 rfl (Nat.le_of_ble_eq_true rfl) dX6_rule_1 (fun r1 x1 H locs h hH => ?_)
  obtain ⟨h, hz1⟩ := h
  replace hH : Hd D (AW ad) (Wd ad cy x1 y) s H locs := hH
  refine lv_if_ne (tgt := 9) hx hb dX6_rule_4 (by decide) (fun c2 => ?_) (fun c2 => ?_)
  · replace h := h.1 c2
    refine lv_aload_n hx hb dX6_rule_9 rfl (lv_at hl 0 rfl) ?_
    refine lv_iload_n hx hb dX6_rule_10 rfl (lv_at hl 1 rfl) ?_
    refine pf_0 B hH hO wk2_2 dX6_rule_11 (fun x3 e3 H locs hH => ?_)
    replace h := h x3 e3
    refine lv_aload_n hx hb dX6_rule_14 rfl (lv_at hl 0 rfl) ?_
    refine xVv (Wf := (fun z => Wd ad cy z y)) (n := 0) (P := 0) (ci := 6) (As := []) (rest := []) B hH hO (kX6_forgetWhatFollows l hO.1 _ x3 y h) rfl rfl wk2_78 wk2_80 wkp_2 wk1_1 wk2_81 (by decide +kernel) rfl ⟨rfl, rfl⟩ ⟨Nat.le_of_ble_eq_true rfl, Nat.le_of_ble_eq_true rfl⟩ ⟨Nat.zero_le _, Nat.zero_le _⟩ hl.1 rfl (Nat.le_of_ble_eq_true rfl) dX6_rule_15 (fun x4 H locs h hH => ?_)
    replace hH : Hd D (AW ad) (Wd ad cy x4 y) s H locs := hH
    refine lv_iconst (v := 1) hx hb dX6_rule_18 (by decide) ?_
    exact xret_z hx hb hr hlocks hH (Or.inr rfl) h dX6_rule_19
  · replace h := h.2 c2
    refine lv_iconst (v := 0) hx hb dX6_rule_7 (by decide) ?_
    exact xret_z hx hb hr hlocks hH (Or.inl rfl) h dX6_rule_8
set_option maxHeartbeats 4000000 in
set_option maxRecDepth 100000 in
theorem kX6_compare (l : Launch) {D : va_G} {cy : Nat → ClassId} {ad : Nat → Nat} (hI : AdI ad) (a1 : Int32) (a2 : Int32) (a3 : Int32) (K : Int32 → ST → Prop) (x y : ST) (h : wX6_compare a1 a2 a3 K x) : Met l yX6_compare (Cond.code yX6_compare cX6_compare 4 (some .int) :: WL) ({ frames := 2, cells := 0, slots := 0, locals := 43 } : Room) (va_Pc [.ref (ad 0), .int a1, .int a2, .int a3] (PW D cy ad x y)) (va_Qi K (QW D (fun z => Wd ad cy z y)) (AW ad)) 0 0 (AW ad) := by
  refine Met.ofW (cc := cX6_compare) (maxL := 4) (ret := (some .int)) (by decide) rfl ?_
  intro p e s m args below meth c s₁ B0 hml hv
  obtain ⟨rfl, hP, hK, hN⟩ := hv
  have hr := B0.returns
  have hlocks := B0.notSynchronized
  have hts := atoms_spec (ws := (Cond.code yX6_compare cX6_compare 4 (some .int) :: WL)) B0.pre
  have B : Bd p s m ([Value.ref (ad 0), Value.int a1, Value.int a2, Value.int a3] : List Value).toArray c cX6_compare 4 RX6 D cy := ⟨B0.exec, B0.bytes, hml, findClass_of_methodNamed B0.named, fun w hw => hts w (List.mem_cons_of_mem _ hw), hK, hN⟩
  have hx := B0.exec
  have hb := B0.bytes
  have hO : AdOk ad (AW ad) := hI.self
  have hH : Hd D (AW ad) (Wd ad cy x y) s s.heap [] := ⟨hP, va_S.rf⟩
  have hl := lv_entry ([.ref (ad 0), .int a1, .int a2, .int a3]) (n := 4) (Nat.le_of_ble_eq_true rfl)
  rw [lg_entry_eq]
  generalize (lg_sl ([.ref (ad 0), .int a1, .int a2, .int a3]) ++ List.replicate (4 - (lg_sl ([.ref (ad 0), .int a1, .int a2, .int a3])).length) Slot.unset).toArray = ls at hl ⊢
  have hl : lv_has ls 4 [(0, .ref (ad 0)), (1, .int a1), (2, .int a2), (3, .int a3)] := hl
  unfold wX6_compare at h
  refine lv_aload_n hx hb dX6_compare_0 rfl (lv_at hl 0 rfl) ?_
  refine gr_4 B hH wk1_238 dX6_compare_1 ?_
  refine lv_iload_n hx hb dX6_compare_4 rfl (lv_at hl 1 rfl) ?_
  refine xVi (Wf := (fun z => Wd ad cy z y)) (n := 1) (P := 4) (ci := 0) (As := [.int a1]) (rest := []) B hH hO (kX0_has l hO.1 a1 _ x y h) rfl rfl wk2_119 wk2_120 wk2_121 wk1_4 wk2_122 (by decide +kernel) rfl ⟨rfl, rfl⟩ ⟨Nat.le_of_ble_eq_true rfl, Nat.le_of_ble_eq_true rfl⟩ ⟨Nat.zero_le _, Nat.zero_le _⟩ hl.1 rfl (Nat.le_of_ble_eq_true rfl) dX6_compare_5 (fun r1 x1 H locs h hH => ?_)
  obtain ⟨h, hz1⟩ := h
  replace hH : Hd D (AW ad) (Wd ad cy x1 y) s H locs := hH
  refine lv_if_eq (tgt := 29) hx hb dX6_compare_8 (by decide) (fun c2 => ?_) (fun c2 => ?_)
  · replace h := h.1 c2
    refine lv_bipush (v := (-2)) hx hb dX6_compare_29 (by decide) ?_
    exact xret_i hx hb hr hlocks hH h dX6_compare_31
  · replace h := h.2 c2
    refine lv_aload_n hx hb dX6_compare_11 rfl (lv_at hl 0 rfl) ?_
    refine gr_4 B hH wk1_238 dX6_compare_12 ?_
    refine lv_iload_n hx hb dX6_compare_15 rfl (lv_at hl 2 rfl) ?_
    refine xVi (Wf := (fun z => Wd ad cy z y)) (n := 1) (P := 4) (ci := 0) (As := [.int a2]) (rest := []) B hH hO (kX0_has l hO.1 a2 _ x1 y h) rfl rfl wk2_119 wk2_120 wk2_121 wk1_4 wk2_122 (by decide +kernel) rfl ⟨rfl, rfl⟩ ⟨Nat.le_of_ble_eq_true rfl, Nat.le_of_ble_eq_true rfl⟩ ⟨Nat.zero_le _, Nat.zero_le _⟩ hl.1 rfl (Nat.le_of_ble_eq_true rfl) dX6_compare_16 (fun r3 x3 H locs h hH => ?_)
    obtain ⟨h, hz3⟩ := h
    replace hH : Hd D (AW ad) (Wd ad cy x3 y) s H locs := hH
    refine lv_if_eq (tgt := 29) hx hb dX6_compare_19 (by decide) (fun c4 => ?_) (fun c4 => ?_)
    · replace h := h.1 c4
      refine lv_bipush (v := (-2)) hx hb dX6_compare_29 (by decide) ?_
      exact xret_i hx hb hr hlocks hH h dX6_compare_31
    · replace h := h.2 c4
      refine lv_iload_n hx hb dX6_compare_22 rfl (lv_at hl 3 rfl) ?_
      refine xSi (Wf := (fun z => Wd ad cy z y)) (n := 1) (As := [.int a3]) (rest := []) B hH hO (kX6_isRule l hO.1 a3 _ x3 y h) wk2_112 wk2_113 wk1_1 wk2_114 (by decide +kernel) rfl ⟨rfl, rfl⟩ ⟨Nat.le_of_ble_eq_true rfl, Nat.le_of_ble_eq_true rfl⟩ ⟨Nat.zero_le _, Nat.zero_le _⟩ hl.1 rfl (Nat.le_of_ble_eq_true rfl) dX6_compare_23 (fun r5 x5 H locs h hH => ?_)
      obtain ⟨h, hz5⟩ := h
      replace hH : Hd D (AW ad) (Wd ad cy x5 y) s H locs := hH
      refine lv_if_ne (tgt := 32) hx hb dX6_compare_26 (by decide) (fun c6 => ?_) (fun c6 => ?_)
      · replace h := h.1 c6
        refine lv_aload_n hx hb dX6_compare_32 rfl (lv_at hl 0 rfl) ?_
        refine gr_4 B hH wk1_238 dX6_compare_33 ?_
        refine lv_iload_n hx hb dX6_compare_36 rfl (lv_at hl 1 rfl) ?_
        refine lv_iload_n hx hb dX6_compare_37 rfl (lv_at hl 2 rfl) ?_
        refine lv_iload_n hx hb dX6_compare_38 rfl (lv_at hl 3 rfl) ?_
        refine xVi (Wf := (fun z => Wd ad cy z y)) (n := 3) (P := 4) (ci := 0) (As := [.int a1, .int a2, .int a3]) (rest := []) B hH hO (kX0_sign l hO.1 a1 a2 a3 _ x5 y h) rfl rfl wk2_124 wk2_97 wk2_98 wk1_4 wk2_99 (by decide +kernel) rfl ⟨rfl, rfl⟩ ⟨Nat.le_of_ble_eq_true rfl, Nat.le_of_ble_eq_true rfl⟩ ⟨Nat.zero_le _, Nat.zero_le _⟩ hl.1 rfl (Nat.le_of_ble_eq_true rfl) dX6_compare_39 (fun r7 x7 H locs h hH => ?_)
        replace hH : Hd D (AW ad) (Wd ad cy x7 y) s H locs := hH
        exact xret_i hx hb hr hlocks hH h dX6_compare_42
      · replace h := h.2 c6
        refine lv_bipush (v := (-2)) hx hb dX6_compare_29 (by decide) ?_
        exact xret_i hx hb hr hlocks hH h dX6_compare_31
set_option maxHeartbeats 4000000 in
set_option maxRecDepth 100000 in
theorem kX6_ordered (l : Launch) {D : va_G} {cy : Nat → ClassId} {ad : Nat → Nat} (hI : AdI ad) (a1 : Int32) (a2 : Int32) (K : Int32 → ST → Prop) (x y : ST) (h : wX6_ordered a1 a2 K x) : Met l yX6_ordered (Cond.code yX6_ordered cX6_ordered 3 (some .int) :: WL) ({ frames := 2, cells := 0, slots := 0, locals := 43 } : Room) (va_Pc [.ref (ad 0), .int a1, .int a2] (PW D cy ad x y)) (va_Qi K (QW D (fun z => Wd ad cy z y)) (AW ad)) 0 0 (AW ad) := by
  refine Met.ofW (cc := cX6_ordered) (maxL := 3) (ret := (some .int)) (by decide) rfl ?_
  intro p e s m args below meth c s₁ B0 hml hv
  obtain ⟨rfl, hP, hK, hN⟩ := hv
  have hr := B0.returns
  have hlocks := B0.notSynchronized
  have hts := atoms_spec (ws := (Cond.code yX6_ordered cX6_ordered 3 (some .int) :: WL)) B0.pre
  have B : Bd p s m ([Value.ref (ad 0), Value.int a1, Value.int a2] : List Value).toArray c cX6_ordered 3 RX6 D cy := ⟨B0.exec, B0.bytes, hml, findClass_of_methodNamed B0.named, fun w hw => hts w (List.mem_cons_of_mem _ hw), hK, hN⟩
  have hx := B0.exec
  have hb := B0.bytes
  have hO : AdOk ad (AW ad) := hI.self
  have hH : Hd D (AW ad) (Wd ad cy x y) s s.heap [] := ⟨hP, va_S.rf⟩
  have hl := lv_entry ([.ref (ad 0), .int a1, .int a2]) (n := 3) (Nat.le_of_ble_eq_true rfl)
  rw [lg_entry_eq]
  generalize (lg_sl ([.ref (ad 0), .int a1, .int a2]) ++ List.replicate (3 - (lg_sl ([.ref (ad 0), .int a1, .int a2])).length) Slot.unset).toArray = ls at hl ⊢
  have hl : lv_has ls 3 [(0, .ref (ad 0)), (1, .int a1), (2, .int a2)] := hl
  unfold wX6_ordered at h
  refine lv_aload_n hx hb dX6_ordered_0 rfl (lv_at hl 0 rfl) ?_
  refine gr_4 B hH wk1_238 dX6_ordered_1 ?_
  refine lv_iload_n hx hb dX6_ordered_4 rfl (lv_at hl 1 rfl) ?_
  refine xVi (Wf := (fun z => Wd ad cy z y)) (n := 1) (P := 4) (ci := 0) (As := [.int a1]) (rest := []) B hH hO (kX0_has l hO.1 a1 _ x y h) rfl rfl wk2_119 wk2_120 wk2_121 wk1_4 wk2_122 (by decide +kernel) rfl ⟨rfl, rfl⟩ ⟨Nat.le_of_ble_eq_true rfl, Nat.le_of_ble_eq_true rfl⟩ ⟨Nat.zero_le _, Nat.zero_le _⟩ hl.1 rfl (Nat.le_of_ble_eq_true rfl) dX6_ordered_5 (fun r1 x1 H locs h hH => ?_)
  obtain ⟨h, hz1⟩ := h
  replace hH : Hd D (AW ad) (Wd ad cy x1 y) s H locs := hH
  refine lv_if_eq (tgt := 18) hx hb dX6_ordered_8 (by decide) (fun c2 => ?_) (fun c2 => ?_)
  · replace h := h.1 c2
    refine lv_iconst (v := (-1)) hx hb dX6_ordered_18 (by decide) ?_
    exact xret_i hx hb hr hlocks hH h dX6_ordered_19
  · replace h := h.2 c2
    refine lv_iload_n hx hb dX6_ordered_11 rfl (lv_at hl 2 rfl) ?_
    refine xSi (Wf := (fun z => Wd ad cy z y)) (n := 1) (As := [.int a2]) (rest := []) B hH hO (kX6_isRule l hO.1 a2 _ x1 y h) wk2_112 wk2_113 wk1_1 wk2_114 (by decide +kernel) rfl ⟨rfl, rfl⟩ ⟨Nat.le_of_ble_eq_true rfl, Nat.le_of_ble_eq_true rfl⟩ ⟨Nat.zero_le _, Nat.zero_le _⟩ hl.1 rfl (Nat.le_of_ble_eq_true rfl) dX6_ordered_12 (fun r3 x3 H locs h hH => ?_)
    obtain ⟨h, hz3⟩ := h
    replace hH : Hd D (AW ad) (Wd ad cy x3 y) s H locs := hH
    refine lv_if_ne (tgt := 20) hx hb dX6_ordered_15 (by decide) (fun c4 => ?_) (fun c4 => ?_)
    · replace h := h.1 c4
      refine lv_aload_n hx hb dX6_ordered_20 rfl (lv_at hl 0 rfl) ?_
      refine gr_4 B hH wk1_238 dX6_ordered_21 ?_
      refine gr_8 B hH wk1_75 dX6_ordered_24 ?_
      refine lv_iload_n hx hb dX6_ordered_27 rfl (lv_at hl 2 rfl) ?_
      obtain ⟨b5, h⟩ := h
      refine aar_8 B hH b5 dX6_ordered_28 ?_
      refine lv_iload_n hx hb dX6_ordered_29 rfl (lv_at hl 1 rfl) ?_
      obtain ⟨b6, h⟩ := h
      refine aldR B hH (vp_in2 b5) b6 dX6_ordered_30 ?_
      exact xret_i hx hb hr hlocks hH h dX6_ordered_31
    · replace h := h.2 c4
      refine lv_iconst (v := (-1)) hx hb dX6_ordered_18 (by decide) ?_
      exact xret_i hx hb hr hlocks hH h dX6_ordered_19
set_option maxHeartbeats 4000000 in
set_option maxRecDepth 100000 in
theorem kX6_quarrels (l : Launch) {D : va_G} {cy : Nat → ClassId} {ad : Nat → Nat} (hI : AdI ad) (K : Int32 → ST → Prop) (x y : ST) (h : wX6_quarrels K x) : Met l yX6_quarrels (Cond.code yX6_quarrels cX6_quarrels 1 (some .int) :: WL) ({ frames := 0, cells := 0, slots := 0, locals := 0 } : Room) (va_Pc [.ref (ad 0)] (PW D cy ad x y)) (va_Qi K (QW D (fun z => Wd ad cy z y)) (AW ad)) 0 0 (AW ad) := by
  refine Met.ofW (cc := cX6_quarrels) (maxL := 1) (ret := (some .int)) (by decide) rfl ?_
  intro p e s m args below meth c s₁ B0 hml hv
  obtain ⟨rfl, hP, hK, hN⟩ := hv
  have hr := B0.returns
  have hlocks := B0.notSynchronized
  have hts := atoms_spec (ws := (Cond.code yX6_quarrels cX6_quarrels 1 (some .int) :: WL)) B0.pre
  have B : Bd p s m ([Value.ref (ad 0)] : List Value).toArray c cX6_quarrels 1 RX6 D cy := ⟨B0.exec, B0.bytes, hml, findClass_of_methodNamed B0.named, fun w hw => hts w (List.mem_cons_of_mem _ hw), hK, hN⟩
  have hx := B0.exec
  have hb := B0.bytes
  have hO : AdOk ad (AW ad) := hI.self
  have hH : Hd D (AW ad) (Wd ad cy x y) s s.heap [] := ⟨hP, va_S.rf⟩
  have hl := lv_entry ([.ref (ad 0)]) (n := 1) (Nat.le_of_ble_eq_true rfl)
  rw [lg_entry_eq]
  generalize (lg_sl ([.ref (ad 0)]) ++ List.replicate (1 - (lg_sl ([.ref (ad 0)])).length) Slot.unset).toArray = ls at hl ⊢
  have hl : lv_has ls 1 [(0, .ref (ad 0))] := hl
  unfold wX6_quarrels at h
  refine lv_aload_n hx hb dX6_quarrels_0 rfl (lv_at hl 0 rfl) ?_
  refine gr_4 B hH wk1_238 dX6_quarrels_1 ?_
  refine gf_11 B hH wk1_90 dX6_quarrels_4 ?_
  exact xret_i hx hb hr hlocks hH h dX6_quarrels_7
set_option maxHeartbeats 4000000 in
set_option maxRecDepth 100000 in
theorem kX6_shelf (l : Launch) {D : va_G} {cy : Nat → ClassId} {ad : Nat → Nat} (hI : AdI ad) (a1 : Int32) (K : Int32 → ST → Prop) (x y : ST) (h : wX6_shelf a1 K x) : Met l yX6_shelf (Cond.code yX6_shelf cX6_shelf 2 (some .int) :: WL) ({ frames := 1, cells := 0, slots := 0, locals := 22 } : Room) (va_Pc [.ref (ad 0), .int a1] (PW D cy ad x y)) (va_Qi K (QW D (fun z => Wd ad cy z y)) (AW ad)) 0 0 (AW ad) := by
  refine Met.ofW (cc := cX6_shelf) (maxL := 2) (ret := (some .int)) (by decide) rfl ?_
  intro p e s m args below meth c s₁ B0 hml hv
  obtain ⟨rfl, hP, hK, hN⟩ := hv
  have hr := B0.returns
  have hlocks := B0.notSynchronized
  have hts := atoms_spec (ws := (Cond.code yX6_shelf cX6_shelf 2 (some .int) :: WL)) B0.pre
  have B : Bd p s m ([Value.ref (ad 0), Value.int a1] : List Value).toArray c cX6_shelf 2 RX6 D cy := ⟨B0.exec, B0.bytes, hml, findClass_of_methodNamed B0.named, fun w hw => hts w (List.mem_cons_of_mem _ hw), hK, hN⟩
  have hx := B0.exec
  have hb := B0.bytes
  have hO : AdOk ad (AW ad) := hI.self
  have hH : Hd D (AW ad) (Wd ad cy x y) s s.heap [] := ⟨hP, va_S.rf⟩
  have hl := lv_entry ([.ref (ad 0), .int a1]) (n := 2) (Nat.le_of_ble_eq_true rfl)
  rw [lg_entry_eq]
  generalize (lg_sl ([.ref (ad 0), .int a1]) ++ List.replicate (2 - (lg_sl ([.ref (ad 0), .int a1])).length) Slot.unset).toArray = ls at hl ⊢
  have hl : lv_has ls 2 [(0, .ref (ad 0)), (1, .int a1)] := hl
  unfold wX6_shelf at h
  refine lv_aload_n hx hb dX6_shelf_0 rfl (lv_at hl 0 rfl) ?_
  refine gr_15 B hH wk1_239 dX6_shelf_1 ?_
  refine gf_12 B hH wk1_127 dX6_shelf_4 ?_
  refine lv_bipush (v := 16) hx hb dX6_shelf_7 (by decide) ?_
  refine lv_icmp_ge (tgt := 23) hx hb dX6_shelf_9 (by decide) (fun c1 => ?_) (fun c1 => ?_)
  · replace h := h.1 c1
    refine lv_iconst (v := (-1)) hx hb dX6_shelf_23 (by decide) ?_
    exact xret_i hx hb hr hlocks hH h dX6_shelf_24
  · replace h := h.2 c1
    refine lv_iload_n hx hb dX6_shelf_12 rfl (lv_at hl 1 rfl) ?_
    refine lv_iconst (v := 1) hx hb dX6_shelf_13 (by decide) ?_
    refine lv_sipush (v := 2000) hx hb dX6_shelf_14 (by decide) ?_
    refine xSi (Wf := (fun z => Wd ad cy z y)) (n := 3) (As := [.int a1, .int 1, .int 2000]) (rest := []) B hH hO (kX6_within l hO.1 a1 1 2000 _ x y h) wk2_36 wk2_37 wk1_1 wk2_38 (by decide +kernel) rfl ⟨rfl, rfl⟩ ⟨Nat.le_of_ble_eq_true rfl, Nat.le_of_ble_eq_true rfl⟩ ⟨Nat.zero_le _, Nat.zero_le _⟩ hl.1 rfl (Nat.le_of_ble_eq_true rfl) dX6_shelf_17 (fun r2 x2 H locs h hH => ?_)
    obtain ⟨h, hz2⟩ := h
    replace hH : Hd D (AW ad) (Wd ad cy x2 y) s H locs := hH
    refine lv_if_ne (tgt := 25) hx hb dX6_shelf_20 (by decide) (fun c3 => ?_) (fun c3 => ?_)
    · replace h := h.1 c3
      refine lv_aload_n hx hb dX6_shelf_25 rfl (lv_at hl 0 rfl) ?_
      refine xVv (Wf := (fun z => Wd ad cy z y)) (n := 0) (P := 0) (ci := 6) (As := []) (rest := []) B hH hO (kX6_forgetWhatFollows l hO.1 _ x2 y h) rfl rfl wk2_78 wk2_80 wkp_2 wk1_1 wk2_81 (by decide +kernel) rfl ⟨rfl, rfl⟩ ⟨Nat.le_of_ble_eq_true rfl, Nat.le_of_ble_eq_true rfl⟩ ⟨Nat.zero_le _, Nat.zero_le _⟩ hl.1 rfl (Nat.le_of_ble_eq_true rfl) dX6_shelf_26 (fun x4 H locs h hH => ?_)
      replace hH : Hd D (AW ad) (Wd ad cy x4 y) s H locs := hH
      refine lv_aload_n hx hb dX6_shelf_29 rfl (lv_at hl 0 rfl) ?_
      refine gr_15 B hH wk1_239 dX6_shelf_30 ?_
      refine lv_iload_n hx hb dX6_shelf_33 rfl (lv_at hl 1 rfl) ?_
      refine xVi (Wf := (fun z => Wd ad cy z y)) (n := 1) (P := 15) (ci := 4) (As := [.int a1]) (rest := []) B hH hO (kX4_add l hO.1 a1 _ x4 y h) rfl rfl wk2_137 wk2_138 wk2_139 wk1_5 wk2_140 (by decide +kernel) rfl ⟨rfl, rfl⟩ ⟨Nat.le_of_ble_eq_true rfl, Nat.le_of_ble_eq_true rfl⟩ ⟨Nat.zero_le _, Nat.zero_le _⟩ hl.1 rfl (Nat.le_of_ble_eq_true rfl) dX6_shelf_34 (fun r5 x5 H locs h hH => ?_)
      replace hH : Hd D (AW ad) (Wd ad cy x5 y) s H locs := hH
      exact xret_i hx hb hr hlocks hH h dX6_shelf_37
    · replace h := h.2 c3
      refine lv_iconst (v := (-1)) hx hb dX6_shelf_23 (by decide) ?_
      exact xret_i hx hb hr hlocks hH h dX6_shelf_24
set_option maxHeartbeats 4000000 in
set_option maxRecDepth 100000 in
theorem kX6_sizes (l : Launch) {D : va_G} {cy : Nat → ClassId} {ad : Nat → Nat} (hI : AdI ad) (a1 : Int32) (a2 : Int32) (K : Int32 → ST → Prop) (x y : ST) (h : wX6_sizes a1 a2 K x) : Met l yX6_sizes (Cond.code yX6_sizes cX6_sizes 3 (some .boolean) :: WL) ({ frames := 1, cells := 0, slots := 0, locals := 22 } : Room) (va_Pc [.ref (ad 0), .int a1, .int a2] (PW D cy ad x y)) (va_Qi (fun r z => K r z ∧ (r = 0 ∨ r = 1)) (QW D (fun z => Wd ad cy z y)) (AW ad)) 0 0 (AW ad) := by
  refine Met.ofW (cc := cX6_sizes) (maxL := 3) (ret := (some .boolean)) (by decide) rfl ?_
  intro p e s m args below meth c s₁ B0 hml hv
  obtain ⟨rfl, hP, hK, hN⟩ := hv
  have hr := B0.returns
  have hlocks := B0.notSynchronized
  have hts := atoms_spec (ws := (Cond.code yX6_sizes cX6_sizes 3 (some .boolean) :: WL)) B0.pre
  have B : Bd p s m ([Value.ref (ad 0), Value.int a1, Value.int a2] : List Value).toArray c cX6_sizes 3 RX6 D cy := ⟨B0.exec, B0.bytes, hml, findClass_of_methodNamed B0.named, fun w hw => hts w (List.mem_cons_of_mem _ hw), hK, hN⟩
  have hx := B0.exec
  have hb := B0.bytes
  have hO : AdOk ad (AW ad) := hI.self
  have hH : Hd D (AW ad) (Wd ad cy x y) s s.heap [] := ⟨hP, va_S.rf⟩
  have hl := lv_entry ([.ref (ad 0), .int a1, .int a2]) (n := 3) (Nat.le_of_ble_eq_true rfl)
  rw [lg_entry_eq]
  generalize (lg_sl ([.ref (ad 0), .int a1, .int a2]) ++ List.replicate (3 - (lg_sl ([.ref (ad 0), .int a1, .int a2])).length) Slot.unset).toArray = ls at hl ⊢
  have hl : lv_has ls 3 [(0, .ref (ad 0)), (1, .int a1), (2, .int a2)] := hl
  unfold wX6_sizes at h
  refine lv_iload_n hx hb dX6_sizes_0 rfl (lv_at hl 1 rfl) ?_
  refine lv_iconst (v := (-1)) hx hb dX6_sizes_1 (by decide) ?_
  refine lv_icmp_ne (tgt := 26) hx hb dX6_sizes_2 (by decide) (fun c1 => ?_) (fun c1 => ?_)
  · replace h := h.1 c1
    refine lv_iload_n hx hb dX6_sizes_26 rfl (lv_at hl 1 rfl) ?_
    refine lv_bipush (v := (-2)) hx hb dX6_sizes_27 (by decide) ?_
    refine lv_icmp_ne (tgt := 54) hx hb dX6_sizes_29 (by decide) (fun c2 => ?_) (fun c2 => ?_)
    · replace h := h.1 c2
      refine lv_iload_n hx hb dX6_sizes_54 rfl (lv_at hl 1 rfl) ?_
      refine lv_iconst (v := 0) hx hb dX6_sizes_55 (by decide) ?_
      refine lv_bipush (v := 9) hx hb dX6_sizes_56 (by decide) ?_
      refine xSi (Wf := (fun z => Wd ad cy z y)) (n := 3) (As := [.int a1, .int 0, .int 9]) (rest := []) B hH hO (kX6_within l hO.1 a1 0 9 _ x y h) wk2_36 wk2_37 wk1_1 wk2_38 (by decide +kernel) rfl ⟨rfl, rfl⟩ ⟨Nat.le_of_ble_eq_true rfl, Nat.le_of_ble_eq_true rfl⟩ ⟨Nat.zero_le _, Nat.zero_le _⟩ hl.1 rfl (Nat.le_of_ble_eq_true rfl) dX6_sizes_58 (fun r3 x3 H locs h hH => ?_)
      obtain ⟨h, hz3⟩ := h
      replace hH : Hd D (AW ad) (Wd ad cy x3 y) s H locs := hH
      refine lv_if_eq (tgt := 87) hx hb dX6_sizes_61 (by decide) (fun c4 => ?_) (fun c4 => ?_)
      · replace h := h.1 c4
        refine lv_iconst (v := 0) hx hb dX6_sizes_87 (by decide) ?_
        exact xret_z hx hb hr hlocks hH (Or.inl rfl) h dX6_sizes_88
      · replace h := h.2 c4
        refine lv_iload_n hx hb dX6_sizes_64 rfl (lv_at hl 2 rfl) ?_
        refine lv_iconst (v := 0) hx hb dX6_sizes_65 (by decide) ?_
        refine lv_bipush (v := 100) hx hb dX6_sizes_66 (by decide) ?_
        refine xSi (Wf := (fun z => Wd ad cy z y)) (n := 3) (As := [.int a2, .int 0, .int 100]) (rest := []) B hH hO (kX6_within l hO.1 a2 0 100 _ x3 y h) wk2_36 wk2_37 wk1_1 wk2_38 (by decide +kernel) rfl ⟨rfl, rfl⟩ ⟨Nat.le_of_ble_eq_true rfl, Nat.le_of_ble_eq_true rfl⟩ ⟨Nat.zero_le _, Nat.zero_le _⟩ hl.1 rfl (Nat.le_of_ble_eq_true rfl) dX6_sizes_68 (fun r5 x5 H locs h hH => ?_)
        obtain ⟨h, hz5⟩ := h
        replace hH : Hd D (AW ad) (Wd ad cy x5 y) s H locs := hH
        refine lv_if_eq (tgt := 87) hx hb dX6_sizes_71 (by decide) (fun c6 => ?_) (fun c6 => ?_)
        · replace h := h.1 c6
          refine lv_iconst (v := 0) hx hb dX6_sizes_87 (by decide) ?_
          exact xret_z hx hb hr hlocks hH (Or.inl rfl) h dX6_sizes_88
        · replace h := h.2 c6
          refine lv_aload_n hx hb dX6_sizes_74 rfl (lv_at hl 0 rfl) ?_
          refine gr_15 B hH wk1_239 dX6_sizes_75 ?_
          refine gr_17 B hH wk1_117 dX6_sizes_78 ?_
          refine lv_iload_n hx hb dX6_sizes_81 rfl (lv_at hl 1 rfl) ?_
          refine lv_iload_n hx hb dX6_sizes_82 rfl (lv_at hl 2 rfl) ?_
          obtain ⟨b7, h⟩ := h
          refine ast_17 B hH hO b7 dX6_sizes_83 (fun x8 e8 H locs hH => ?_)
          replace h := h x8 e8
          refine lv_goto (tgt := 89) hx hb dX6_sizes_84 (by decide) ?_
          refine lv_aload_n hx hb dX6_sizes_89 rfl (lv_at hl 0 rfl) ?_
          refine xVv (Wf := (fun z => Wd ad cy z y)) (n := 0) (P := 0) (ci := 6) (As := []) (rest := []) B hH hO (kX6_forgetWhatFollows l hO.1 _ x8 y h) rfl rfl wk2_78 wk2_80 wkp_2 wk1_1 wk2_81 (by decide +kernel) rfl ⟨rfl, rfl⟩ ⟨Nat.le_of_ble_eq_true rfl, Nat.le_of_ble_eq_true rfl⟩ ⟨Nat.zero_le _, Nat.zero_le _⟩ hl.1 rfl (Nat.le_of_ble_eq_true rfl) dX6_sizes_90 (fun x9 H locs h hH => ?_)
          replace hH : Hd D (AW ad) (Wd ad cy x9 y) s H locs := hH
          refine lv_iconst (v := 1) hx hb dX6_sizes_93 (by decide) ?_
          exact xret_z hx hb hr hlocks hH (Or.inr rfl) h dX6_sizes_94
    · replace h := h.2 c2
      refine lv_iload_n hx hb dX6_sizes_32 rfl (lv_at hl 2 rfl) ?_
      refine lv_iconst (v := 1) hx hb dX6_sizes_33 (by decide) ?_
      refine lv_sipush (v := 1000) hx hb dX6_sizes_34 (by decide) ?_
      refine xSi (Wf := (fun z => Wd ad cy z y)) (n := 3) (As := [.int a2, .int 1, .int 1000]) (rest := []) B hH hO (kX6_within l hO.1 a2 1 1000 _ x y h) wk2_36 wk2_37 wk1_1 wk2_38 (by decide +kernel) rfl ⟨rfl, rfl⟩ ⟨Nat.le_of_ble_eq_true rfl, Nat.le_of_ble_eq_true rfl⟩ ⟨Nat.zero_le _, Nat.zero_le _⟩ hl.1 rfl (Nat.le_of_ble_eq_true rfl) dX6_sizes_37 (fun r10 x10 H locs h hH => ?_)
      obtain ⟨h, hz10⟩ := h
      replace hH : Hd D (AW ad) (Wd ad cy x10 y) s H locs := hH
      refine lv_if_eq (tgt := 54) hx hb dX6_sizes_40 (by decide) (fun c11 => ?_) (fun c11 => ?_)
      · replace h := h.1 c11
        refine lv_iload_n hx hb dX6_sizes_54 rfl (lv_at hl 1 rfl) ?_
        refine lv_iconst (v := 0) hx hb dX6_sizes_55 (by decide) ?_
        refine lv_bipush (v := 9) hx hb dX6_sizes_56 (by decide) ?_
        refine xSi (Wf := (fun z => Wd ad cy z y)) (n := 3) (As := [.int a1, .int 0, .int 9]) (rest := []) B hH hO (kX6_within l hO.1 a1 0 9 _ x10 y h) wk2_36 wk2_37 wk1_1 wk2_38 (by decide +kernel) rfl ⟨rfl, rfl⟩ ⟨Nat.le_of_ble_eq_true rfl, Nat.le_of_ble_eq_true rfl⟩ ⟨Nat.zero_le _, Nat.zero_le _⟩ hl.1 rfl (Nat.le_of_ble_eq_true rfl) dX6_sizes_58 (fun r12 x12 H locs h hH => ?_)
        obtain ⟨h, hz12⟩ := h
        replace hH : Hd D (AW ad) (Wd ad cy x12 y) s H locs := hH
        refine lv_if_eq (tgt := 87) hx hb dX6_sizes_61 (by decide) (fun c13 => ?_) (fun c13 => ?_)
        · replace h := h.1 c13
          refine lv_iconst (v := 0) hx hb dX6_sizes_87 (by decide) ?_
          exact xret_z hx hb hr hlocks hH (Or.inl rfl) h dX6_sizes_88
        · replace h := h.2 c13
          refine lv_iload_n hx hb dX6_sizes_64 rfl (lv_at hl 2 rfl) ?_
          refine lv_iconst (v := 0) hx hb dX6_sizes_65 (by decide) ?_
          refine lv_bipush (v := 100) hx hb dX6_sizes_66 (by decide) ?_
          refine xSi (Wf := (fun z => Wd ad cy z y)) (n := 3) (As := [.int a2, .int 0, .int 100]) (rest := []) B hH hO (kX6_within l hO.1 a2 0 100 _ x12 y h) wk2_36 wk2_37 wk1_1 wk2_38 (by decide +kernel) rfl ⟨rfl, rfl⟩ ⟨Nat.le_of_ble_eq_true rfl, Nat.le_of_ble_eq_true rfl⟩ ⟨Nat.zero_le _, Nat.zero_le _⟩ hl.1 rfl (Nat.le_of_ble_eq_true rfl) dX6_sizes_68 (fun r14 x14 H locs h hH => ?_)
          obtain ⟨h, hz14⟩ := h
          replace hH : Hd D (AW ad) (Wd ad cy x14 y) s H locs := hH
          refine lv_if_eq (tgt := 87) hx hb dX6_sizes_71 (by decide) (fun c15 => ?_) (fun c15 => ?_)
          · replace h := h.1 c15
            refine lv_iconst (v := 0) hx hb dX6_sizes_87 (by decide) ?_
            exact xret_z hx hb hr hlocks hH (Or.inl rfl) h dX6_sizes_88
          · replace h := h.2 c15
            refine lv_aload_n hx hb dX6_sizes_74 rfl (lv_at hl 0 rfl) ?_
            refine gr_15 B hH wk1_239 dX6_sizes_75 ?_
            refine gr_17 B hH wk1_117 dX6_sizes_78 ?_
            refine lv_iload_n hx hb dX6_sizes_81 rfl (lv_at hl 1 rfl) ?_
            refine lv_iload_n hx hb dX6_sizes_82 rfl (lv_at hl 2 rfl) ?_
            obtain ⟨b16, h⟩ := h
            refine ast_17 B hH hO b16 dX6_sizes_83 (fun x17 e17 H locs hH => ?_)
            replace h := h x17 e17
            refine lv_goto (tgt := 89) hx hb dX6_sizes_84 (by decide) ?_
            refine lv_aload_n hx hb dX6_sizes_89 rfl (lv_at hl 0 rfl) ?_
            refine xVv (Wf := (fun z => Wd ad cy z y)) (n := 0) (P := 0) (ci := 6) (As := []) (rest := []) B hH hO (kX6_forgetWhatFollows l hO.1 _ x17 y h) rfl rfl wk2_78 wk2_80 wkp_2 wk1_1 wk2_81 (by decide +kernel) rfl ⟨rfl, rfl⟩ ⟨Nat.le_of_ble_eq_true rfl, Nat.le_of_ble_eq_true rfl⟩ ⟨Nat.zero_le _, Nat.zero_le _⟩ hl.1 rfl (Nat.le_of_ble_eq_true rfl) dX6_sizes_90 (fun x18 H locs h hH => ?_)
            replace hH : Hd D (AW ad) (Wd ad cy x18 y) s H locs := hH
            refine lv_iconst (v := 1) hx hb dX6_sizes_93 (by decide) ?_
            exact xret_z hx hb hr hlocks hH (Or.inr rfl) h dX6_sizes_94
      · replace h := h.2 c11
        refine lv_aload_n hx hb dX6_sizes_43 rfl (lv_at hl 0 rfl) ?_
        refine gr_22 B hH wk2_0 dX6_sizes_44 ?_
        refine lv_iload_n hx hb dX6_sizes_47 rfl (lv_at hl 2 rfl) ?_
        refine pf_16 B hH hO wk1_176 dX6_sizes_48 (fun x19 e19 H locs hH => ?_)
        replace h := h x19 e19
        refine lv_goto (tgt := 89) hx hb dX6_sizes_51 (by decide) ?_
        refine lv_aload_n hx hb dX6_sizes_89 rfl (lv_at hl 0 rfl) ?_
        refine xVv (Wf := (fun z => Wd ad cy z y)) (n := 0) (P := 0) (ci := 6) (As := []) (rest := []) B hH hO (kX6_forgetWhatFollows l hO.1 _ x19 y h) rfl rfl wk2_78 wk2_80 wkp_2 wk1_1 wk2_81 (by decide +kernel) rfl ⟨rfl, rfl⟩ ⟨Nat.le_of_ble_eq_true rfl, Nat.le_of_ble_eq_true rfl⟩ ⟨Nat.zero_le _, Nat.zero_le _⟩ hl.1 rfl (Nat.le_of_ble_eq_true rfl) dX6_sizes_90 (fun x20 H locs h hH => ?_)
        replace hH : Hd D (AW ad) (Wd ad cy x20 y) s H locs := hH
        refine lv_iconst (v := 1) hx hb dX6_sizes_93 (by decide) ?_
        exact xret_z hx hb hr hlocks hH (Or.inr rfl) h dX6_sizes_94
  · replace h := h.2 c1
    refine lv_iload_n hx hb dX6_sizes_5 rfl (lv_at hl 2 rfl) ?_
    refine lv_iconst (v := 1) hx hb dX6_sizes_6 (by decide) ?_
    refine lv_bipush (v := 100) hx hb dX6_sizes_7 (by decide) ?_
    refine xSi (Wf := (fun z => Wd ad cy z y)) (n := 3) (As := [.int a2, .int 1, .int 100]) (rest := []) B hH hO (kX6_within l hO.1 a2 1 100 _ x y h) wk2_36 wk2_37 wk1_1 wk2_38 (by decide +kernel) rfl ⟨rfl, rfl⟩ ⟨Nat.le_of_ble_eq_true rfl, Nat.le_of_ble_eq_true rfl⟩ ⟨Nat.zero_le _, Nat.zero_le _⟩ hl.1 rfl (Nat.le_of_ble_eq_true rfl) dX6_sizes_9 (fun r21 x21 H locs h hH => ?_)
    obtain ⟨h, hz21⟩ := h
    replace hH : Hd D (AW ad) (Wd ad cy x21 y) s H locs := hH
    refine lv_if_eq (tgt := 26) hx hb dX6_sizes_12 (by decide) (fun c22 => ?_) (fun c22 => ?_)
    · replace h := h.1 c22
      refine lv_iload_n hx hb dX6_sizes_26 rfl (lv_at hl 1 rfl) ?_
      refine lv_bipush (v := (-2)) hx hb dX6_sizes_27 (by decide) ?_
      refine lv_icmp_ne (tgt := 54) hx hb dX6_sizes_29 (by decide) (fun c23 => ?_) (fun c23 => ?_)
      · replace h := h.1 c23
        refine lv_iload_n hx hb dX6_sizes_54 rfl (lv_at hl 1 rfl) ?_
        refine lv_iconst (v := 0) hx hb dX6_sizes_55 (by decide) ?_
        refine lv_bipush (v := 9) hx hb dX6_sizes_56 (by decide) ?_
        refine xSi (Wf := (fun z => Wd ad cy z y)) (n := 3) (As := [.int a1, .int 0, .int 9]) (rest := []) B hH hO (kX6_within l hO.1 a1 0 9 _ x21 y h) wk2_36 wk2_37 wk1_1 wk2_38 (by decide +kernel) rfl ⟨rfl, rfl⟩ ⟨Nat.le_of_ble_eq_true rfl, Nat.le_of_ble_eq_true rfl⟩ ⟨Nat.zero_le _, Nat.zero_le _⟩ hl.1 rfl (Nat.le_of_ble_eq_true rfl) dX6_sizes_58 (fun r24 x24 H locs h hH => ?_)
        obtain ⟨h, hz24⟩ := h
        replace hH : Hd D (AW ad) (Wd ad cy x24 y) s H locs := hH
        refine lv_if_eq (tgt := 87) hx hb dX6_sizes_61 (by decide) (fun c25 => ?_) (fun c25 => ?_)
        · replace h := h.1 c25
          refine lv_iconst (v := 0) hx hb dX6_sizes_87 (by decide) ?_
          exact xret_z hx hb hr hlocks hH (Or.inl rfl) h dX6_sizes_88
        · replace h := h.2 c25
          refine lv_iload_n hx hb dX6_sizes_64 rfl (lv_at hl 2 rfl) ?_
          refine lv_iconst (v := 0) hx hb dX6_sizes_65 (by decide) ?_
          refine lv_bipush (v := 100) hx hb dX6_sizes_66 (by decide) ?_
          refine xSi (Wf := (fun z => Wd ad cy z y)) (n := 3) (As := [.int a2, .int 0, .int 100]) (rest := []) B hH hO (kX6_within l hO.1 a2 0 100 _ x24 y h) wk2_36 wk2_37 wk1_1 wk2_38 (by decide +kernel) rfl ⟨rfl, rfl⟩ ⟨Nat.le_of_ble_eq_true rfl, Nat.le_of_ble_eq_true rfl⟩ ⟨Nat.zero_le _, Nat.zero_le _⟩ hl.1 rfl (Nat.le_of_ble_eq_true rfl) dX6_sizes_68 (fun r26 x26 H locs h hH => ?_)
          obtain ⟨h, hz26⟩ := h
          replace hH : Hd D (AW ad) (Wd ad cy x26 y) s H locs := hH
          refine lv_if_eq (tgt := 87) hx hb dX6_sizes_71 (by decide) (fun c27 => ?_) (fun c27 => ?_)
          · replace h := h.1 c27
            refine lv_iconst (v := 0) hx hb dX6_sizes_87 (by decide) ?_
            exact xret_z hx hb hr hlocks hH (Or.inl rfl) h dX6_sizes_88
          · replace h := h.2 c27
            refine lv_aload_n hx hb dX6_sizes_74 rfl (lv_at hl 0 rfl) ?_
            refine gr_15 B hH wk1_239 dX6_sizes_75 ?_
            refine gr_17 B hH wk1_117 dX6_sizes_78 ?_
            refine lv_iload_n hx hb dX6_sizes_81 rfl (lv_at hl 1 rfl) ?_
            refine lv_iload_n hx hb dX6_sizes_82 rfl (lv_at hl 2 rfl) ?_
            obtain ⟨b28, h⟩ := h
            refine ast_17 B hH hO b28 dX6_sizes_83 (fun x29 e29 H locs hH => ?_)
            replace h := h x29 e29
            refine lv_goto (tgt := 89) hx hb dX6_sizes_84 (by decide) ?_
            refine lv_aload_n hx hb dX6_sizes_89 rfl (lv_at hl 0 rfl) ?_
            refine xVv (Wf := (fun z => Wd ad cy z y)) (n := 0) (P := 0) (ci := 6) (As := []) (rest := []) B hH hO (kX6_forgetWhatFollows l hO.1 _ x29 y h) rfl rfl wk2_78 wk2_80 wkp_2 wk1_1 wk2_81 (by decide +kernel) rfl ⟨rfl, rfl⟩ ⟨Nat.le_of_ble_eq_true rfl, Nat.le_of_ble_eq_true rfl⟩ ⟨Nat.zero_le _, Nat.zero_le _⟩ hl.1 rfl (Nat.le_of_ble_eq_true rfl) dX6_sizes_90 (fun x30 H locs h hH => ?_)
            replace hH : Hd D (AW ad) (Wd ad cy x30 y) s H locs := hH
            refine lv_iconst (v := 1) hx hb dX6_sizes_93 (by decide) ?_
            exact xret_z hx hb hr hlocks hH (Or.inr rfl) h dX6_sizes_94
      · replace h := h.2 c23
        refine lv_iload_n hx hb dX6_sizes_32 rfl (lv_at hl 2 rfl) ?_
        refine lv_iconst (v := 1) hx hb dX6_sizes_33 (by decide) ?_
        refine lv_sipush (v := 1000) hx hb dX6_sizes_34 (by decide) ?_
        refine xSi (Wf := (fun z => Wd ad cy z y)) (n := 3) (As := [.int a2, .int 1, .int 1000]) (rest := []) B hH hO (kX6_within l hO.1 a2 1 1000 _ x21 y h) wk2_36 wk2_37 wk1_1 wk2_38 (by decide +kernel) rfl ⟨rfl, rfl⟩ ⟨Nat.le_of_ble_eq_true rfl, Nat.le_of_ble_eq_true rfl⟩ ⟨Nat.zero_le _, Nat.zero_le _⟩ hl.1 rfl (Nat.le_of_ble_eq_true rfl) dX6_sizes_37 (fun r31 x31 H locs h hH => ?_)
        obtain ⟨h, hz31⟩ := h
        replace hH : Hd D (AW ad) (Wd ad cy x31 y) s H locs := hH
        refine lv_if_eq (tgt := 54) hx hb dX6_sizes_40 (by decide) (fun c32 => ?_) (fun c32 => ?_)
        · replace h := h.1 c32
          refine lv_iload_n hx hb dX6_sizes_54 rfl (lv_at hl 1 rfl) ?_
          refine lv_iconst (v := 0) hx hb dX6_sizes_55 (by decide) ?_
          refine lv_bipush (v := 9) hx hb dX6_sizes_56 (by decide) ?_
          refine xSi (Wf := (fun z => Wd ad cy z y)) (n := 3) (As := [.int a1, .int 0, .int 9]) (rest := []) B hH hO (kX6_within l hO.1 a1 0 9 _ x31 y h) wk2_36 wk2_37 wk1_1 wk2_38 (by decide +kernel) rfl ⟨rfl, rfl⟩ ⟨Nat.le_of_ble_eq_true rfl, Nat.le_of_ble_eq_true rfl⟩ ⟨Nat.zero_le _, Nat.zero_le _⟩ hl.1 rfl (Nat.le_of_ble_eq_true rfl) dX6_sizes_58 (fun r33 x33 H locs h hH => ?_)
          obtain ⟨h, hz33⟩ := h
          replace hH : Hd D (AW ad) (Wd ad cy x33 y) s H locs := hH
          refine lv_if_eq (tgt := 87) hx hb dX6_sizes_61 (by decide) (fun c34 => ?_) (fun c34 => ?_)
          · replace h := h.1 c34
            refine lv_iconst (v := 0) hx hb dX6_sizes_87 (by decide) ?_
            exact xret_z hx hb hr hlocks hH (Or.inl rfl) h dX6_sizes_88
          · replace h := h.2 c34
            refine lv_iload_n hx hb dX6_sizes_64 rfl (lv_at hl 2 rfl) ?_
            refine lv_iconst (v := 0) hx hb dX6_sizes_65 (by decide) ?_
            refine lv_bipush (v := 100) hx hb dX6_sizes_66 (by decide) ?_
            refine xSi (Wf := (fun z => Wd ad cy z y)) (n := 3) (As := [.int a2, .int 0, .int 100]) (rest := []) B hH hO (kX6_within l hO.1 a2 0 100 _ x33 y h) wk2_36 wk2_37 wk1_1 wk2_38 (by decide +kernel) rfl ⟨rfl, rfl⟩ ⟨Nat.le_of_ble_eq_true rfl, Nat.le_of_ble_eq_true rfl⟩ ⟨Nat.zero_le _, Nat.zero_le _⟩ hl.1 rfl (Nat.le_of_ble_eq_true rfl) dX6_sizes_68 (fun r35 x35 H locs h hH => ?_)
            obtain ⟨h, hz35⟩ := h
            replace hH : Hd D (AW ad) (Wd ad cy x35 y) s H locs := hH
            refine lv_if_eq (tgt := 87) hx hb dX6_sizes_71 (by decide) (fun c36 => ?_) (fun c36 => ?_)
            · replace h := h.1 c36
              refine lv_iconst (v := 0) hx hb dX6_sizes_87 (by decide) ?_
              exact xret_z hx hb hr hlocks hH (Or.inl rfl) h dX6_sizes_88
            · replace h := h.2 c36
              refine lv_aload_n hx hb dX6_sizes_74 rfl (lv_at hl 0 rfl) ?_
              refine gr_15 B hH wk1_239 dX6_sizes_75 ?_
              refine gr_17 B hH wk1_117 dX6_sizes_78 ?_
              refine lv_iload_n hx hb dX6_sizes_81 rfl (lv_at hl 1 rfl) ?_
              refine lv_iload_n hx hb dX6_sizes_82 rfl (lv_at hl 2 rfl) ?_
              obtain ⟨b37, h⟩ := h
              refine ast_17 B hH hO b37 dX6_sizes_83 (fun x38 e38 H locs hH => ?_)
              replace h := h x38 e38
              refine lv_goto (tgt := 89) hx hb dX6_sizes_84 (by decide) ?_
              refine lv_aload_n hx hb dX6_sizes_89 rfl (lv_at hl 0 rfl) ?_
              refine xVv (Wf := (fun z => Wd ad cy z y)) (n := 0) (P := 0) (ci := 6) (As := []) (rest := []) B hH hO (kX6_forgetWhatFollows l hO.1 _ x38 y h) rfl rfl wk2_78 wk2_80 wkp_2 wk1_1 wk2_81 (by decide +kernel) rfl ⟨rfl, rfl⟩ ⟨Nat.le_of_ble_eq_true rfl, Nat.le_of_ble_eq_true rfl⟩ ⟨Nat.zero_le _, Nat.zero_le _⟩ hl.1 rfl (Nat.le_of_ble_eq_true rfl) dX6_sizes_90 (fun x39 H locs h hH => ?_)
              replace hH : Hd D (AW ad) (Wd ad cy x39 y) s H locs := hH
              refine lv_iconst (v := 1) hx hb dX6_sizes_93 (by decide) ?_
              exact xret_z hx hb hr hlocks hH (Or.inr rfl) h dX6_sizes_94
        · replace h := h.2 c32
          refine lv_aload_n hx hb dX6_sizes_43 rfl (lv_at hl 0 rfl) ?_
          refine gr_22 B hH wk2_0 dX6_sizes_44 ?_
          refine lv_iload_n hx hb dX6_sizes_47 rfl (lv_at hl 2 rfl) ?_
          refine pf_16 B hH hO wk1_176 dX6_sizes_48 (fun x40 e40 H locs hH => ?_)
          replace h := h x40 e40
          refine lv_goto (tgt := 89) hx hb dX6_sizes_51 (by decide) ?_
          refine lv_aload_n hx hb dX6_sizes_89 rfl (lv_at hl 0 rfl) ?_
          refine xVv (Wf := (fun z => Wd ad cy z y)) (n := 0) (P := 0) (ci := 6) (As := []) (rest := []) B hH hO (kX6_forgetWhatFollows l hO.1 _ x40 y h) rfl rfl wk2_78 wk2_80 wkp_2 wk1_1 wk2_81 (by decide +kernel) rfl ⟨rfl, rfl⟩ ⟨Nat.le_of_ble_eq_true rfl, Nat.le_of_ble_eq_true rfl⟩ ⟨Nat.zero_le _, Nat.zero_le _⟩ hl.1 rfl (Nat.le_of_ble_eq_true rfl) dX6_sizes_90 (fun x41 H locs h hH => ?_)
          replace hH : Hd D (AW ad) (Wd ad cy x41 y) s H locs := hH
          refine lv_iconst (v := 1) hx hb dX6_sizes_93 (by decide) ?_
          exact xret_z hx hb hr hlocks hH (Or.inr rfl) h dX6_sizes_94
    · replace h := h.2 c22
      refine lv_aload_n hx hb dX6_sizes_15 rfl (lv_at hl 0 rfl) ?_
      refine gr_15 B hH wk1_239 dX6_sizes_16 ?_
      refine lv_iload_n hx hb dX6_sizes_19 rfl (lv_at hl 2 rfl) ?_
      refine pf_13 B hH hO wk1_129 dX6_sizes_20 (fun x42 e42 H locs hH => ?_)
      replace h := h x42 e42
      refine lv_goto (tgt := 89) hx hb dX6_sizes_23 (by decide) ?_
      refine lv_aload_n hx hb dX6_sizes_89 rfl (lv_at hl 0 rfl) ?_
      refine xVv (Wf := (fun z => Wd ad cy z y)) (n := 0) (P := 0) (ci := 6) (As := []) (rest := []) B hH hO (kX6_forgetWhatFollows l hO.1 _ x42 y h) rfl rfl wk2_78 wk2_80 wkp_2 wk1_1 wk2_81 (by decide +kernel) rfl ⟨rfl, rfl⟩ ⟨Nat.le_of_ble_eq_true rfl, Nat.le_of_ble_eq_true rfl⟩ ⟨Nat.zero_le _, Nat.zero_le _⟩ hl.1 rfl (Nat.le_of_ble_eq_true rfl) dX6_sizes_90 (fun x43 H locs h hH => ?_)
      replace hH : Hd D (AW ad) (Wd ad cy x43 y) s H locs := hH
      refine lv_iconst (v := 1) hx hb dX6_sizes_93 (by decide) ?_
      exact xret_z hx hb hr hlocks hH (Or.inr rfl) h dX6_sizes_94
set_option maxHeartbeats 4000000 in
set_option maxRecDepth 100000 in
theorem kX6_makePlans (l : Launch) {D : va_G} {cy : Nat → ClassId} {ad : Nat → Nat} (hI : AdI ad) (K : ST → Prop) (x y : ST) (h : wX6_makePlans K x) : Met l yX6_makePlans (Cond.code yX6_makePlans cX6_makePlans 1 none :: WL) ({ frames := 3, cells := 0, slots := 0, locals := 68 } : Room) (va_Pc [.ref (ad 0)] (PW D cy ad x y)) (va_Qv K (QW D (fun z => Wd ad cy z y)) (AW ad)) 0 0 (AW ad) := by
  refine Met.ofW (cc := cX6_makePlans) (maxL := 1) (ret := none) (by decide) rfl ?_
  intro p e s m args below meth c s₁ B0 hml hv
  obtain ⟨rfl, hP, hK, hN⟩ := hv
  have hr := B0.returns
  have hlocks := B0.notSynchronized
  have hts := atoms_spec (ws := (Cond.code yX6_makePlans cX6_makePlans 1 none :: WL)) B0.pre
  have B : Bd p s m ([Value.ref (ad 0)] : List Value).toArray c cX6_makePlans 1 RX6 D cy := ⟨B0.exec, B0.bytes, hml, findClass_of_methodNamed B0.named, fun w hw => hts w (List.mem_cons_of_mem _ hw), hK, hN⟩
  have hx := B0.exec
  have hb := B0.bytes
  have hO : AdOk ad (AW ad) := hI.self
  have hH : Hd D (AW ad) (Wd ad cy x y) s s.heap [] := ⟨hP, va_S.rf⟩
  have hl := lv_entry ([.ref (ad 0)]) (n := 1) (Nat.le_of_ble_eq_true rfl)
  rw [lg_entry_eq]
  generalize (lg_sl ([.ref (ad 0)]) ++ List.replicate (1 - (lg_sl ([.ref (ad 0)])).length) Slot.unset).toArray = ls at hl ⊢
  have hl : lv_has ls 1 [(0, .ref (ad 0))] := hl
  unfold wX6_makePlans at h
  refine lv_aload_n hx hb dX6_makePlans_0 rfl (lv_at hl 0 rfl) ?_
  refine gf_1 B hH wk2_3 dX6_makePlans_1 ?_
  refine lv_if_ne (tgt := 49) hx hb dX6_makePlans_4 (by decide) (fun c1 => ?_) (fun c1 => ?_)
  · replace h := h.1 c1
    exact xret_v hx hb hr hlocks hH h dX6_makePlans_49
  · replace h := h.2 c1
    refine lv_aload_n hx hb dX6_makePlans_7 rfl (lv_at hl 0 rfl) ?_
    refine gr_15 B hH wk1_239 dX6_makePlans_8 ?_
    refine lv_aload_n hx hb dX6_makePlans_11 rfl (lv_at hl 0 rfl) ?_
    refine gr_4 B hH wk1_238 dX6_makePlans_12 ?_
    refine lv_aload_n hx hb dX6_makePlans_15 rfl (lv_at hl 0 rfl) ?_
    refine gf_0 B hH wk2_2 dX6_makePlans_16 ?_
    refine xVv (Wf := (fun z => Wd ad cy z y)) (n := 2) (P := 15) (ci := 4) (As := [.ref (ad 4), .int (gI x 0)]) (rest := []) B hH hO (kX4_lay l hO.1 (gI x 0) _ x y h) rfl rfl wk2_153 wk2_154 wk2_155 wk1_5 wk2_156 (by decide +kernel) rfl ⟨rfl, rfl⟩ ⟨Nat.le_of_ble_eq_true rfl, Nat.le_of_ble_eq_true rfl⟩ ⟨Nat.zero_le _, Nat.zero_le _⟩ hl.1 rfl (Nat.le_of_ble_eq_true rfl) dX6_makePlans_19 (fun x2 H locs h hH => ?_)
    replace hH : Hd D (AW ad) (Wd ad cy x2 y) s H locs := hH
    refine lv_aload_n hx hb dX6_makePlans_22 rfl (lv_at hl 0 rfl) ?_
    refine gr_22 B hH wk2_0 dX6_makePlans_23 ?_
    refine lv_aload_n hx hb dX6_makePlans_26 rfl (lv_at hl 0 rfl) ?_
    refine gr_4 B hH wk1_238 dX6_makePlans_27 ?_
    refine lv_aload_n hx hb dX6_makePlans_30 rfl (lv_at hl 0 rfl) ?_
    refine gf_0 B hH wk2_2 dX6_makePlans_31 ?_
    refine xVv (Wf := (fun z => Wd ad cy z y)) (n := 2) (P := 22) (ci := 1) (As := [.ref (ad 4), .int (gI x2 0)]) (rest := []) B hH hO (kX1_pack l hO.1 (gI x2 0) _ x2 y h) rfl rfl wk2_169 wk2_170 wk2_171 wk1_6 wk2_172 (by decide +kernel) rfl ⟨rfl, rfl⟩ ⟨Nat.le_of_ble_eq_true rfl, Nat.le_of_ble_eq_true rfl⟩ ⟨Nat.zero_le _, Nat.zero_le _⟩ hl.1 rfl (Nat.le_of_ble_eq_true rfl) dX6_makePlans_34 (fun x3 H locs h hH => ?_)
    replace hH : Hd D (AW ad) (Wd ad cy x3 y) s H locs := hH
    refine lv_aload_n hx hb dX6_makePlans_37 rfl (lv_at hl 0 rfl) ?_
    refine gr_22 B hH wk2_0 dX6_makePlans_38 ?_
    refine xVv (Wf := (fun z => Wd ad cy z y)) (n := 0) (P := 22) (ci := 1) (As := []) (rest := []) B hH hO (kX1_meet l hO.1 _ x3 y h) rfl rfl wk2_173 wk2_174 wk2_175 wk1_6 wk2_176 (by decide +kernel) rfl ⟨rfl, rfl⟩ ⟨Nat.le_of_ble_eq_true rfl, Nat.le_of_ble_eq_true rfl⟩ ⟨Nat.zero_le _, Nat.zero_le _⟩ hl.1 rfl (Nat.le_of_ble_eq_true rfl) dX6_makePlans_41 (fun x4 H locs h hH => ?_)
    replace hH : Hd D (AW ad) (Wd ad cy x4 y) s H locs := hH
    refine lv_aload_n hx hb dX6_makePlans_44 rfl (lv_at hl 0 rfl) ?_
    refine lv_iconst (v := 1) hx hb dX6_makePlans_45 (by decide) ?_
    refine pf_1 B hH hO wk2_3 (Or.inr rfl) dX6_makePlans_46 (fun x5 e5 H locs hH => ?_)
    replace h := h x5 e5
    exact xret_v hx hb hr hlocks hH h dX6_makePlans_49
set_option maxHeartbeats 4000000 in
set_option maxRecDepth 100000 in
theorem kX6_laid (l : Launch) {D : va_G} {cy : Nat → ClassId} {ad : Nat → Nat} (hI : AdI ad) (a1 : Int32) (a2 : Int32) (K : Int32 → ST → Prop) (x y : ST) (h : wX6_laid a1 a2 K x) : Met l yX6_laid (Cond.code yX6_laid cX6_laid 3 (some .int) :: WL) ({ frames := 4, cells := 0, slots := 0, locals := 88 } : Room) (va_Pc [.ref (ad 0), .int a1, .int a2] (PW D cy ad x y)) (va_Qi K (QW D (fun z => Wd ad cy z y)) (AW ad)) 0 0 (AW ad) := by
  refine Met.ofW (cc := cX6_laid) (maxL := 3) (ret := (some .int)) (by decide) rfl ?_
  intro p e s m args below meth c s₁ B0 hml hv
  obtain ⟨rfl, hP, hK, hN⟩ := hv
  have hr := B0.returns
  have hlocks := B0.notSynchronized
  have hts := atoms_spec (ws := (Cond.code yX6_laid cX6_laid 3 (some .int) :: WL)) B0.pre
  have B : Bd p s m ([Value.ref (ad 0), Value.int a1, Value.int a2] : List Value).toArray c cX6_laid 3 RX6 D cy := ⟨B0.exec, B0.bytes, hml, findClass_of_methodNamed B0.named, fun w hw => hts w (List.mem_cons_of_mem _ hw), hK, hN⟩
  have hx := B0.exec
  have hb := B0.bytes
  have hO : AdOk ad (AW ad) := hI.self
  have hH : Hd D (AW ad) (Wd ad cy x y) s s.heap [] := ⟨hP, va_S.rf⟩
  have hl := lv_entry ([.ref (ad 0), .int a1, .int a2]) (n := 3) (Nat.le_of_ble_eq_true rfl)
  rw [lg_entry_eq]
  generalize (lg_sl ([.ref (ad 0), .int a1, .int a2]) ++ List.replicate (3 - (lg_sl ([.ref (ad 0), .int a1, .int a2])).length) Slot.unset).toArray = ls at hl ⊢
  have hl : lv_has ls 3 [(0, .ref (ad 0)), (1, .int a1), (2, .int a2)] := hl
  unfold wX6_laid at h
  refine lv_aload_n hx hb dX6_laid_0 rfl (lv_at hl 0 rfl) ?_
  refine gr_4 B hH wk1_238 dX6_laid_1 ?_
  refine lv_iload_n hx hb dX6_laid_4 rfl (lv_at hl 1 rfl) ?_
  refine xVi (Wf := (fun z => Wd ad cy z y)) (n := 1) (P := 4) (ci := 0) (As := [.int a1]) (rest := []) B hH hO (kX0_has l hO.1 a1 _ x y h) rfl rfl wk2_119 wk2_120 wk2_121 wk1_4 wk2_122 (by decide +kernel) rfl ⟨rfl, rfl⟩ ⟨Nat.le_of_ble_eq_true rfl, Nat.le_of_ble_eq_true rfl⟩ ⟨Nat.zero_le _, Nat.zero_le _⟩ hl.1 rfl (Nat.le_of_ble_eq_true rfl) dX6_laid_5 (fun r1 x1 H locs h hH => ?_)
  obtain ⟨h, hz1⟩ := h
  replace hH : Hd D (AW ad) (Wd ad cy x1 y) s H locs := hH
  refine lv_if_ne (tgt := 13) hx hb dX6_laid_8 (by decide) (fun c2 => ?_) (fun c2 => ?_)
  · replace h := h.1 c2
    refine lv_aload_n hx hb dX6_laid_13 rfl (lv_at hl 0 rfl) ?_
    refine xVv (Wf := (fun z => Wd ad cy z y)) (n := 0) (P := 0) (ci := 6) (As := []) (rest := []) B hH hO (kX6_makePlans l hO.1 _ x1 y h) rfl rfl wk2_149 wk2_151 wkp_5 wk1_1 wk2_152 (by decide +kernel) rfl ⟨rfl, rfl⟩ ⟨Nat.le_of_ble_eq_true rfl, Nat.le_of_ble_eq_true rfl⟩ ⟨Nat.zero_le _, Nat.zero_le _⟩ hl.1 rfl (Nat.le_of_ble_eq_true rfl) dX6_laid_14 (fun x3 H locs h hH => ?_)
    replace hH : Hd D (AW ad) (Wd ad cy x3 y) s H locs := hH
    refine lv_iload_n hx hb dX6_laid_17 rfl (lv_at hl 2 rfl) ?_
    by_cases c4 : a2 = 0
    · replace h := h.1 c4
      refine lv_lookup (off := 26) (tgt := 44) hx hb dX6_laid_18 (by decide) (by rw [c4]; first | rfl | done) (by decide) ?_
      refine lv_aload_n hx hb dX6_laid_44 rfl (lv_at hl 0 rfl) ?_
      refine gr_15 B hH wk1_239 dX6_laid_45 ?_
      refine gr_20 B hH wk1_123 dX6_laid_48 ?_
      refine lv_iload_n hx hb dX6_laid_51 rfl (lv_at hl 1 rfl) ?_
      obtain ⟨b6, h⟩ := h
      refine ald_20 B hH b6 dX6_laid_52 ?_
      exact xret_i hx hb hr hlocks hH h dX6_laid_53
    · by_cases c5 : a2 = 1
      · replace h := h.2.1 c5
        refine lv_lookup (off := 36) (tgt := 54) hx hb dX6_laid_18 (by decide) (by rw [c5]; first | rfl | done) (by decide) ?_
        refine lv_aload_n hx hb dX6_laid_54 rfl (lv_at hl 0 rfl) ?_
        refine gr_15 B hH wk1_239 dX6_laid_55 ?_
        refine gr_21 B hH wk1_125 dX6_laid_58 ?_
        refine lv_iload_n hx hb dX6_laid_61 rfl (lv_at hl 1 rfl) ?_
        obtain ⟨b7, h⟩ := h
        refine ald_21 B hH b7 dX6_laid_62 ?_
        exact xret_i hx hb hr hlocks hH h dX6_laid_63
      · replace h := h.2.2 c4 c5
        refine lv_lookup (off := 46) (tgt := 64) hx hb dX6_laid_18 (by decide) ((lv_osw c4 (by decide)).trans ((lv_osw c5 (by decide)).trans rfl)) (by decide) ?_
        refine lv_iconst (v := (-1)) hx hb dX6_laid_64 (by decide) ?_
        exact xret_i hx hb hr hlocks hH h dX6_laid_65
  · replace h := h.2 c2
    refine lv_iconst (v := (-1)) hx hb dX6_laid_11 (by decide) ?_
    exact xret_i hx hb hr hlocks hH h dX6_laid_12
set_option maxHeartbeats 4000000 in
set_option maxRecDepth 100000 in
theorem kX6_shelfOf (l : Launch) {D : va_G} {cy : Nat → ClassId} {ad : Nat → Nat} (hI : AdI ad) (a1 : Int32) (a2 : Int32) (K : Int32 → ST → Prop) (x y : ST) (h : wX6_shelfOf a1 a2 K x) : Met l yX6_shelfOf (Cond.code yX6_shelfOf cX6_shelfOf 3 (some .int) :: WL) ({ frames := 4, cells := 0, slots := 0, locals := 88 } : Room) (va_Pc [.ref (ad 0), .int a1, .int a2] (PW D cy ad x y)) (va_Qi K (QW D (fun z => Wd ad cy z y)) (AW ad)) 0 0 (AW ad) := by
  refine Met.ofW (cc := cX6_shelfOf) (maxL := 3) (ret := (some .int)) (by decide) rfl ?_
  intro p e s m args below meth c s₁ B0 hml hv
  obtain ⟨rfl, hP, hK, hN⟩ := hv
  have hr := B0.returns
  have hlocks := B0.notSynchronized
  have hts := atoms_spec (ws := (Cond.code yX6_shelfOf cX6_shelfOf 3 (some .int) :: WL)) B0.pre
  have B : Bd p s m ([Value.ref (ad 0), Value.int a1, Value.int a2] : List Value).toArray c cX6_shelfOf 3 RX6 D cy := ⟨B0.exec, B0.bytes, hml, findClass_of_methodNamed B0.named, fun w hw => hts w (List.mem_cons_of_mem _ hw), hK, hN⟩
  have hx := B0.exec
  have hb := B0.bytes
  have hO : AdOk ad (AW ad) := hI.self
  have hH : Hd D (AW ad) (Wd ad cy x y) s s.heap [] := ⟨hP, va_S.rf⟩
  have hl := lv_entry ([.ref (ad 0), .int a1, .int a2]) (n := 3) (Nat.le_of_ble_eq_true rfl)
  rw [lg_entry_eq]
  generalize (lg_sl ([.ref (ad 0), .int a1, .int a2]) ++ List.replicate (3 - (lg_sl ([.ref (ad 0), .int a1, .int a2])).length) Slot.unset).toArray = ls at hl ⊢
  have hl : lv_has ls 3 [(0, .ref (ad 0)), (1, .int a1), (2, .int a2)] := hl
  unfold wX6_shelfOf at h
  refine lv_iload_n hx hb dX6_shelfOf_0 rfl (lv_at hl 1 rfl) ?_
  refine lv_iconst (v := 0) hx hb dX6_shelfOf_1 (by decide) ?_
  refine lv_aload_n hx hb dX6_shelfOf_2 rfl (lv_at hl 0 rfl) ?_
  refine gr_15 B hH wk1_239 dX6_shelfOf_3 ?_
  refine gf_12 B hH wk1_127 dX6_shelfOf_6 ?_
  refine lv_iconst (v := 1) hx hb dX6_shelfOf_9 (by decide) ?_
  refine lv_isub hx hb dX6_shelfOf_10 ?_
  refine xSi (Wf := (fun z => Wd ad cy z y)) (n := 3) (As := [.int a1, .int 0, .int (((gI x 12) - 1))]) (rest := []) B hH hO (kX6_within l hO.1 a1 0 ((gI x 12) - 1) _ x y h) wk2_36 wk2_37 wk1_1 wk2_38 (by decide +kernel) rfl ⟨rfl, rfl⟩ ⟨Nat.le_of_ble_eq_true rfl, Nat.le_of_ble_eq_true rfl⟩ ⟨Nat.zero_le _, Nat.zero_le _⟩ hl.1 rfl (Nat.le_of_ble_eq_true rfl) dX6_shelfOf_11 (fun r1 x1 H locs h hH => ?_)
  obtain ⟨h, hz1⟩ := h
  replace hH : Hd D (AW ad) (Wd ad cy x1 y) s H locs := hH
  refine lv_if_ne (tgt := 19) hx hb dX6_shelfOf_14 (by decide) (fun c2 => ?_) (fun c2 => ?_)
  · replace h := h.1 c2
    refine lv_aload_n hx hb dX6_shelfOf_19 rfl (lv_at hl 0 rfl) ?_
    refine xVv (Wf := (fun z => Wd ad cy z y)) (n := 0) (P := 0) (ci := 6) (As := []) (rest := []) B hH hO (kX6_makePlans l hO.1 _ x1 y h) rfl rfl wk2_149 wk2_151 wkp_5 wk1_1 wk2_152 (by decide +kernel) rfl ⟨rfl, rfl⟩ ⟨Nat.le_of_ble_eq_true rfl, Nat.le_of_ble_eq_true rfl⟩ ⟨Nat.zero_le _, Nat.zero_le _⟩ hl.1 rfl (Nat.le_of_ble_eq_true rfl) dX6_shelfOf_20 (fun x3 H locs h hH => ?_)
    replace hH : Hd D (AW ad) (Wd ad cy x3 y) s H locs := hH
    refine lv_iload_n hx hb dX6_shelfOf_23 rfl (lv_at hl 2 rfl) ?_
    by_cases c4 : a2 = 0
    · replace h := h.1 c4
      refine lv_lookup (off := 28) (tgt := 52) hx hb dX6_shelfOf_24 (by decide) (by rw [c4]; first | rfl | done) (by decide) ?_
      refine lv_aload_n hx hb dX6_shelfOf_52 rfl (lv_at hl 0 rfl) ?_
      refine gr_15 B hH wk1_239 dX6_shelfOf_53 ?_
      refine gr_18 B hH wk1_119 dX6_shelfOf_56 ?_
      refine lv_iload_n hx hb dX6_shelfOf_59 rfl (lv_at hl 1 rfl) ?_
      obtain ⟨b6, h⟩ := h
      refine ald_18 B hH b6 dX6_shelfOf_60 ?_
      exact xret_i hx hb hr hlocks hH h dX6_shelfOf_61
    · by_cases c5 : a2 = 1
      · replace h := h.2.1 c5
        refine lv_lookup (off := 38) (tgt := 62) hx hb dX6_shelfOf_24 (by decide) (by rw [c5]; first | rfl | done) (by decide) ?_
        refine lv_aload_n hx hb dX6_shelfOf_62 rfl (lv_at hl 0 rfl) ?_
        refine gr_15 B hH wk1_239 dX6_shelfOf_63 ?_
        refine lv_iload_n hx hb dX6_shelfOf_66 rfl (lv_at hl 1 rfl) ?_
        refine xVi (Wf := (fun z => Wd ad cy z y)) (n := 1) (P := 15) (ci := 4) (As := [.int a1]) (rest := []) B hH hO (kX4_room l hO.1 a1 _ x3 y h) rfl rfl wk2_192 wk2_162 wk2_163 wk1_5 wk2_164 (by decide +kernel) rfl ⟨rfl, rfl⟩ ⟨Nat.le_of_ble_eq_true rfl, Nat.le_of_ble_eq_true rfl⟩ ⟨Nat.zero_le _, Nat.zero_le _⟩ hl.1 rfl (Nat.le_of_ble_eq_true rfl) dX6_shelfOf_67 (fun r7 x7 H locs h hH => ?_)
        replace hH : Hd D (AW ad) (Wd ad cy x7 y) s H locs := hH
        refine lv_aload_n hx hb dX6_shelfOf_70 rfl (lv_at hl 0 rfl) ?_
        refine gr_15 B hH wk1_239 dX6_shelfOf_71 ?_
        refine gr_19 B hH wk1_121 dX6_shelfOf_74 ?_
        refine lv_iload_n hx hb dX6_shelfOf_77 rfl (lv_at hl 1 rfl) ?_
        obtain ⟨b8, h⟩ := h
        refine ald_19 B hH b8 dX6_shelfOf_78 ?_
        refine lv_isub hx hb dX6_shelfOf_79 ?_
        exact xret_i hx hb hr hlocks hH h dX6_shelfOf_80
      · replace h := h.2.2 c4 c5
        refine lv_lookup (off := 57) (tgt := 81) hx hb dX6_shelfOf_24 (by decide) ((lv_osw c4 (by decide)).trans ((lv_osw c5 (by decide)).trans rfl)) (by decide) ?_
        refine lv_iconst (v := (-1)) hx hb dX6_shelfOf_81 (by decide) ?_
        exact xret_i hx hb hr hlocks hH h dX6_shelfOf_82
  · replace h := h.2 c2
    refine lv_iconst (v := (-1)) hx hb dX6_shelfOf_17 (by decide) ?_
    exact xret_i hx hb hr hlocks hH h dX6_shelfOf_18
set_option maxHeartbeats 4000000 in
set_option maxRecDepth 100000 in
theorem kX6_counts (l : Launch) {D : va_G} {cy : Nat → ClassId} {ad : Nat → Nat} (hI : AdI ad) (a1 : Int32) (K : Int32 → ST → Prop) (x y : ST) (h : wX6_counts a1 K x) : Met l yX6_counts (Cond.code yX6_counts cX6_counts 2 (some .int) :: WL) ({ frames := 4, cells := 0, slots := 0, locals := 88 } : Room) (va_Pc [.ref (ad 0), .int a1] (PW D cy ad x y)) (va_Qi K (QW D (fun z => Wd ad cy z y)) (AW ad)) 0 0 (AW ad) := by
  refine Met.ofW (cc := cX6_counts) (maxL := 2) (ret := (some .int)) (by decide) rfl ?_
  intro p e s m args below meth c s₁ B0 hml hv
  obtain ⟨rfl, hP, hK, hN⟩ := hv
  have hr := B0.returns
  have hlocks := B0.notSynchronized
  have hts := atoms_spec (ws := (Cond.code yX6_counts cX6_counts 2 (some .int) :: WL)) B0.pre
  have B : Bd p s m ([Value.ref (ad 0), Value.int a1] : List Value).toArray c cX6_counts 2 RX6 D cy := ⟨B0.exec, B0.bytes, hml, findClass_of_methodNamed B0.named, fun w hw => hts w (List.mem_cons_of_mem _ hw), hK, hN⟩
  have hx := B0.exec
  have hb := B0.bytes
  have hO : AdOk ad (AW ad) := hI.self
  have hH : Hd D (AW ad) (Wd ad cy x y) s s.heap [] := ⟨hP, va_S.rf⟩
  have hl := lv_entry ([.ref (ad 0), .int a1]) (n := 2) (Nat.le_of_ble_eq_true rfl)
  rw [lg_entry_eq]
  generalize (lg_sl ([.ref (ad 0), .int a1]) ++ List.replicate (2 - (lg_sl ([.ref (ad 0), .int a1])).length) Slot.unset).toArray = ls at hl ⊢
  have hl : lv_has ls 2 [(0, .ref (ad 0)), (1, .int a1)] := hl
  unfold wX6_counts at h
  refine lv_aload_n hx hb dX6_counts_0 rfl (lv_at hl 0 rfl) ?_
  refine xVv (Wf := (fun z => Wd ad cy z y)) (n := 0) (P := 0) (ci := 6) (As := []) (rest := []) B hH hO (kX6_makePlans l hO.1 _ x y h) rfl rfl wk2_149 wk2_151 wkp_5 wk1_1 wk2_152 (by decide +kernel) rfl ⟨rfl, rfl⟩ ⟨Nat.le_of_ble_eq_true rfl, Nat.le_of_ble_eq_true rfl⟩ ⟨Nat.zero_le _, Nat.zero_le _⟩ hl.1 rfl (Nat.le_of_ble_eq_true rfl) dX6_counts_1 (fun x1 H locs h hH => ?_)
  replace hH : Hd D (AW ad) (Wd ad cy x1 y) s H locs := hH
  refine lv_iload_n hx hb dX6_counts_4 rfl (lv_at hl 1 rfl) ?_
  by_cases c2 : a1 = 0
  · replace h := h.1 c2
    refine lv_tableIn (tgt := 32) hx hb dX6_counts_5 (by rw [c2]; decide) (by rw [c2]; decide) (by rw [c2]; rfl) (by decide) ?_
    refine lv_aload_n hx hb dX6_counts_32 rfl (lv_at hl 0 rfl) ?_
    refine gr_15 B hH wk1_239 dX6_counts_33 ?_
    refine gf_14 B hH wk1_131 dX6_counts_36 ?_
    exact xret_i hx hb hr hlocks hH h dX6_counts_39
  · by_cases c3 : a1 = 1
    · replace h := h.2.1 c3
      refine lv_tableIn (tgt := 40) hx hb dX6_counts_5 (by rw [c3]; decide) (by rw [c3]; decide) (by rw [c3]; rfl) (by decide) ?_
      refine lv_aload_n hx hb dX6_counts_40 rfl (lv_at hl 0 rfl) ?_
      refine gr_15 B hH wk1_239 dX6_counts_41 ?_
      refine gf_15 B hH wk1_133 dX6_counts_44 ?_
      exact xret_i hx hb hr hlocks hH h dX6_counts_47
    · by_cases c4 : a1 = 2
      · replace h := h.2.2.1 c4
        refine lv_tableIn (tgt := 48) hx hb dX6_counts_5 (by rw [c4]; decide) (by rw [c4]; decide) (by rw [c4]; rfl) (by decide) ?_
        refine lv_aload_n hx hb dX6_counts_48 rfl (lv_at hl 0 rfl) ?_
        refine gr_22 B hH wk2_0 dX6_counts_49 ?_
        refine gf_17 B hH wk1_178 dX6_counts_52 ?_
        exact xret_i hx hb hr hlocks hH h dX6_counts_55
      · replace h := h.2.2.2 c2 c3 c4
        refine lv_tableOut (tgt := 56) hx hb dX6_counts_5 (tb_out (N := 3) (by decide) (by decide) (fun j hj => by match j, hj with | 0, _ => exact c2 | 1, _ => exact c3 | 2, _ => exact c4 | j + 3, hj => exact absurd hj (by omega))) (by decide) ?_
        refine lv_iconst (v := (-1)) hx hb dX6_counts_56 (by decide) ?_
        exact xret_i hx hb hr hlocks hH h dX6_counts_57
set_option maxHeartbeats 4000000 in
set_option maxRecDepth 100000 in
theorem kX6_way (l : Launch) {D : va_G} {cy : Nat → ClassId} {ad : Nat → Nat} (hI : AdI ad) (a1 : Int32) (a2 : Int32) (K : Int32 → ST → Prop) (x y : ST) (h : wX6_way a1 a2 K x) : Met l yX6_way (Cond.code yX6_way cX6_way 3 (some .boolean) :: WL) ({ frames := 1, cells := 0, slots := 0, locals := 22 } : Room) (va_Pc [.ref (ad 0), .int a1, .int a2] (PW D cy ad x y)) (va_Qi (fun r z => K r z ∧ (r = 0 ∨ r = 1)) (QW D (fun z => Wd ad cy z y)) (AW ad)) 0 0 (AW ad) := by
  refine Met.ofW (cc := cX6_way) (maxL := 3) (ret := (some .boolean)) (by decide) rfl ?_
  intro p e s m args below meth c s₁ B0 hml hv
  obtain ⟨rfl, hP, hK, hN⟩ := hv
  have hr := B0.returns
  have hlocks := B0.notSynchronized
  have hts := atoms_spec (ws := (Cond.code yX6_way cX6_way 3 (some .boolean) :: WL)) B0.pre
  have B : Bd p s m ([Value.ref (ad 0), Value.int a1, Value.int a2] : List Value).toArray c cX6_way 3 RX6 D cy := ⟨B0.exec, B0.bytes, hml, findClass_of_methodNamed B0.named, fun w hw => hts w (List.mem_cons_of_mem _ hw), hK, hN⟩
  have hx := B0.exec
  have hb := B0.bytes
  have hO : AdOk ad (AW ad) := hI.self
  have hH : Hd D (AW ad) (Wd ad cy x y) s s.heap [] := ⟨hP, va_S.rf⟩
  have hl := lv_entry ([.ref (ad 0), .int a1, .int a2]) (n := 3) (Nat.le_of_ble_eq_true rfl)
  rw [lg_entry_eq]
  generalize (lg_sl ([.ref (ad 0), .int a1, .int a2]) ++ List.replicate (3 - (lg_sl ([.ref (ad 0), .int a1, .int a2])).length) Slot.unset).toArray = ls at hl ⊢
  have hl : lv_has ls 3 [(0, .ref (ad 0)), (1, .int a1), (2, .int a2)] := hl
  unfold wX6_way at h
  refine lv_iload_n hx hb dX6_way_0 rfl (lv_at hl 1 rfl) ?_
  refine lv_iconst (v := 0) hx hb dX6_way_1 (by decide) ?_
  refine lv_iconst (v := 4) hx hb dX6_way_2 (by decide) ?_
  refine xSi (Wf := (fun z => Wd ad cy z y)) (n := 3) (As := [.int a1, .int 0, .int 4]) (rest := []) B hH hO (kX6_within l hO.1 a1 0 4 _ x y h) wk2_36 wk2_37 wk1_1 wk2_38 (by decide +kernel) rfl ⟨rfl, rfl⟩ ⟨Nat.le_of_ble_eq_true rfl, Nat.le_of_ble_eq_true rfl⟩ ⟨Nat.zero_le _, Nat.zero_le _⟩ hl.1 rfl (Nat.le_of_ble_eq_true rfl) dX6_way_3 (fun r1 x1 H locs h hH => ?_)
  obtain ⟨h, hz1⟩ := h
  replace hH : Hd D (AW ad) (Wd ad cy x1 y) s H locs := hH
  refine lv_if_eq (tgt := 19) hx hb dX6_way_6 (by decide) (fun c2 => ?_) (fun c2 => ?_)
  · replace h := h.1 c2
    refine lv_iconst (v := 0) hx hb dX6_way_19 (by decide) ?_
    exact xret_z hx hb hr hlocks hH (Or.inl rfl) h dX6_way_20
  · replace h := h.2 c2
    refine lv_iload_n hx hb dX6_way_9 rfl (lv_at hl 2 rfl) ?_
    refine lv_iconst (v := 1) hx hb dX6_way_10 (by decide) ?_
    refine lv_bipush (v := 100) hx hb dX6_way_11 (by decide) ?_
    refine xSi (Wf := (fun z => Wd ad cy z y)) (n := 3) (As := [.int a2, .int 1, .int 100]) (rest := []) B hH hO (kX6_within l hO.1 a2 1 100 _ x1 y h) wk2_36 wk2_37 wk1_1 wk2_38 (by decide +kernel) rfl ⟨rfl, rfl⟩ ⟨Nat.le_of_ble_eq_true rfl, Nat.le_of_ble_eq_true rfl⟩ ⟨Nat.zero_le _, Nat.zero_le _⟩ hl.1 rfl (Nat.le_of_ble_eq_true rfl) dX6_way_13 (fun r3 x3 H locs h hH => ?_)
    obtain ⟨h, hz3⟩ := h
    replace hH : Hd D (AW ad) (Wd ad cy x3 y) s H locs := hH
    refine lv_if_ne (tgt := 21) hx hb dX6_way_16 (by decide) (fun c4 => ?_) (fun c4 => ?_)
    · replace h := h.1 c4
      refine lv_aload_n hx hb dX6_way_21 rfl (lv_at hl 0 rfl) ?_
      refine gr_22 B hH wk2_0 dX6_way_22 ?_
      refine gr_23 B hH wk1_162 dX6_way_25 ?_
      refine lv_iload_n hx hb dX6_way_28 rfl (lv_at hl 1 rfl) ?_
      refine lv_iload_n hx hb dX6_way_29 rfl (lv_at hl 2 rfl) ?_
      obtain ⟨b5, h⟩ := h
      refine ast_23 B hH hO b5 dX6_way_30 (fun x6 e6 H locs hH => ?_)
      replace h := h x6 e6
      refine lv_aload_n hx hb dX6_way_31 rfl (lv_at hl 0 rfl) ?_
      refine xVv (Wf := (fun z => Wd ad cy z y)) (n := 0) (P := 0) (ci := 6) (As := []) (rest := []) B hH hO (kX6_forgetWhatFollows l hO.1 _ x6 y h) rfl rfl wk2_78 wk2_80 wkp_2 wk1_1 wk2_81 (by decide +kernel) rfl ⟨rfl, rfl⟩ ⟨Nat.le_of_ble_eq_true rfl, Nat.le_of_ble_eq_true rfl⟩ ⟨Nat.zero_le _, Nat.zero_le _⟩ hl.1 rfl (Nat.le_of_ble_eq_true rfl) dX6_way_32 (fun x7 H locs h hH => ?_)
      replace hH : Hd D (AW ad) (Wd ad cy x7 y) s H locs := hH
      refine lv_iconst (v := 1) hx hb dX6_way_35 (by decide) ?_
      exact xret_z hx hb hr hlocks hH (Or.inr rfl) h dX6_way_36
    · replace h := h.2 c4
      refine lv_iconst (v := 0) hx hb dX6_way_19 (by decide) ?_
      exact xret_z hx hb hr hlocks hH (Or.inl rfl) h dX6_way_20
set_option maxHeartbeats 4000000 in
set_option maxRecDepth 100000 in
theorem kX6_crate (l : Launch) {D : va_G} {cy : Nat → ClassId} {ad : Nat → Nat} (hI : AdI ad) (a1 : Int32) (a2 : Int32) (K : Int32 → ST → Prop) (x y : ST) (h : wX6_crate a1 a2 K x) : Met l yX6_crate (Cond.code yX6_crate cX6_crate 3 (some .int) :: WL) ({ frames := 4, cells := 0, slots := 0, locals := 88 } : Room) (va_Pc [.ref (ad 0), .int a1, .int a2] (PW D cy ad x y)) (va_Qi K (QW D (fun z => Wd ad cy z y)) (AW ad)) 0 0 (AW ad) := by
  refine Met.ofW (cc := cX6_crate) (maxL := 3) (ret := (some .int)) (by decide) rfl ?_
  intro p e s m args below meth c s₁ B0 hml hv
  obtain ⟨rfl, hP, hK, hN⟩ := hv
  have hr := B0.returns
  have hlocks := B0.notSynchronized
  have hts := atoms_spec (ws := (Cond.code yX6_crate cX6_crate 3 (some .int) :: WL)) B0.pre
  have B : Bd p s m ([Value.ref (ad 0), Value.int a1, Value.int a2] : List Value).toArray c cX6_crate 3 RX6 D cy := ⟨B0.exec, B0.bytes, hml, findClass_of_methodNamed B0.named, fun w hw => hts w (List.mem_cons_of_mem _ hw), hK, hN⟩
  have hx := B0.exec
  have hb := B0.bytes
  have hO : AdOk ad (AW ad) := hI.self
  have hH : Hd D (AW ad) (Wd ad cy x y) s s.heap [] := ⟨hP, va_S.rf⟩
  have hl := lv_entry ([.ref (ad 0), .int a1, .int a2]) (n := 3) (Nat.le_of_ble_eq_true rfl)
  rw [lg_entry_eq]
  generalize (lg_sl ([.ref (ad 0), .int a1, .int a2]) ++ List.replicate (3 - (lg_sl ([.ref (ad 0), .int a1, .int a2])).length) Slot.unset).toArray = ls at hl ⊢
  have hl : lv_has ls 3 [(0, .ref (ad 0)), (1, .int a1), (2, .int a2)] := hl
  unfold wX6_crate at h
  refine lv_aload_n hx hb dX6_crate_0 rfl (lv_at hl 0 rfl) ?_
  refine xVv (Wf := (fun z => Wd ad cy z y)) (n := 0) (P := 0) (ci := 6) (As := []) (rest := []) B hH hO (kX6_makePlans l hO.1 _ x y h) rfl rfl wk2_149 wk2_151 wkp_5 wk1_1 wk2_152 (by decide +kernel) rfl ⟨rfl, rfl⟩ ⟨Nat.le_of_ble_eq_true rfl, Nat.le_of_ble_eq_true rfl⟩ ⟨Nat.zero_le _, Nat.zero_le _⟩ hl.1 rfl (Nat.le_of_ble_eq_true rfl) dX6_crate_1 (fun x1 H locs h hH => ?_)
  replace hH : Hd D (AW ad) (Wd ad cy x1 y) s H locs := hH
  refine lv_iload_n hx hb dX6_crate_4 rfl (lv_at hl 1 rfl) ?_
  refine lv_iconst (v := 0) hx hb dX6_crate_5 (by decide) ?_
  refine lv_aload_n hx hb dX6_crate_6 rfl (lv_at hl 0 rfl) ?_
  refine gr_22 B hH wk2_0 dX6_crate_7 ?_
  refine gf_17 B hH wk1_178 dX6_crate_10 ?_
  refine lv_iconst (v := 1) hx hb dX6_crate_13 (by decide) ?_
  refine lv_isub hx hb dX6_crate_14 ?_
  refine xSi (Wf := (fun z => Wd ad cy z y)) (n := 3) (As := [.int a1, .int 0, .int (((gI x1 17) - 1))]) (rest := []) B hH hO (kX6_within l hO.1 a1 0 ((gI x1 17) - 1) _ x1 y h) wk2_36 wk2_37 wk1_1 wk2_38 (by decide +kernel) rfl ⟨rfl, rfl⟩ ⟨Nat.le_of_ble_eq_true rfl, Nat.le_of_ble_eq_true rfl⟩ ⟨Nat.zero_le _, Nat.zero_le _⟩ hl.1 rfl (Nat.le_of_ble_eq_true rfl) dX6_crate_15 (fun r2 x2 H locs h hH => ?_)
  obtain ⟨h, hz2⟩ := h
  replace hH : Hd D (AW ad) (Wd ad cy x2 y) s H locs := hH
  refine lv_if_ne (tgt := 23) hx hb dX6_crate_18 (by decide) (fun c3 => ?_) (fun c3 => ?_)
  · replace h := h.1 c3
    refine lv_iload_n hx hb dX6_crate_23 rfl (lv_at hl 2 rfl) ?_
    by_cases c4 : a2 = 0
    · replace h := h.1 c4
      refine lv_tableIn (tgt := 64) hx hb dX6_crate_24 (by rw [c4]; decide) (by rw [c4]; decide) (by rw [c4]; rfl) (by decide) ?_
      refine lv_aload_n hx hb dX6_crate_64 rfl (lv_at hl 0 rfl) ?_
      refine gr_22 B hH wk2_0 dX6_crate_65 ?_
      refine gr_24 B hH wk1_164 dX6_crate_68 ?_
      refine lv_iload_n hx hb dX6_crate_71 rfl (lv_at hl 1 rfl) ?_
      obtain ⟨b10, h⟩ := h
      refine ald_24 B hH b10 dX6_crate_72 ?_
      exact xret_i hx hb hr hlocks hH h dX6_crate_73
    · by_cases c5 : a2 = 1
      · replace h := h.2.1 c5
        refine lv_tableIn (tgt := 74) hx hb dX6_crate_24 (by rw [c5]; decide) (by rw [c5]; decide) (by rw [c5]; rfl) (by decide) ?_
        refine lv_aload_n hx hb dX6_crate_74 rfl (lv_at hl 0 rfl) ?_
        refine gr_22 B hH wk2_0 dX6_crate_75 ?_
        refine gr_25 B hH wk1_166 dX6_crate_78 ?_
        refine lv_iload_n hx hb dX6_crate_81 rfl (lv_at hl 1 rfl) ?_
        obtain ⟨b11, h⟩ := h
        refine ald_25 B hH b11 dX6_crate_82 ?_
        exact xret_i hx hb hr hlocks hH h dX6_crate_83
      · by_cases c6 : a2 = 2
        · replace h := h.2.2.1 c6
          refine lv_tableIn (tgt := 84) hx hb dX6_crate_24 (by rw [c6]; decide) (by rw [c6]; decide) (by rw [c6]; rfl) (by decide) ?_
          refine lv_aload_n hx hb dX6_crate_84 rfl (lv_at hl 0 rfl) ?_
          refine gr_22 B hH wk2_0 dX6_crate_85 ?_
          refine gr_26 B hH wk1_168 dX6_crate_88 ?_
          refine lv_iload_n hx hb dX6_crate_91 rfl (lv_at hl 1 rfl) ?_
          obtain ⟨b12, h⟩ := h
          refine ald_26 B hH b12 dX6_crate_92 ?_
          exact xret_i hx hb hr hlocks hH h dX6_crate_93
        · by_cases c7 : a2 = 3
          · replace h := h.2.2.2.1 c7
            refine lv_tableIn (tgt := 94) hx hb dX6_crate_24 (by rw [c7]; decide) (by rw [c7]; decide) (by rw [c7]; rfl) (by decide) ?_
            refine lv_aload_n hx hb dX6_crate_94 rfl (lv_at hl 0 rfl) ?_
            refine gr_22 B hH wk2_0 dX6_crate_95 ?_
            refine gr_27 B hH wk1_170 dX6_crate_98 ?_
            refine lv_iload_n hx hb dX6_crate_101 rfl (lv_at hl 1 rfl) ?_
            obtain ⟨b13, h⟩ := h
            refine ald_27 B hH b13 dX6_crate_102 ?_
            exact xret_i hx hb hr hlocks hH h dX6_crate_103
          · by_cases c8 : a2 = 4
            · replace h := h.2.2.2.2.1 c8
              refine lv_tableIn (tgt := 104) hx hb dX6_crate_24 (by rw [c8]; decide) (by rw [c8]; decide) (by rw [c8]; rfl) (by decide) ?_
              refine lv_aload_n hx hb dX6_crate_104 rfl (lv_at hl 0 rfl) ?_
              refine gr_22 B hH wk2_0 dX6_crate_105 ?_
              refine gr_28 B hH wk1_172 dX6_crate_108 ?_
              refine lv_iload_n hx hb dX6_crate_111 rfl (lv_at hl 1 rfl) ?_
              obtain ⟨b14, h⟩ := h
              refine ald_28 B hH b14 dX6_crate_112 ?_
              exact xret_i hx hb hr hlocks hH h dX6_crate_113
            · by_cases c9 : a2 = 5
              · replace h := h.2.2.2.2.2.1 c9
                refine lv_tableIn (tgt := 114) hx hb dX6_crate_24 (by rw [c9]; decide) (by rw [c9]; decide) (by rw [c9]; rfl) (by decide) ?_
                refine lv_iload_n hx hb dX6_crate_114 rfl (lv_at hl 1 rfl) ?_
                refine lv_aload_n hx hb dX6_crate_115 rfl (lv_at hl 0 rfl) ?_
                refine gr_22 B hH wk2_0 dX6_crate_116 ?_
                refine gf_18 B hH wk1_180 dX6_crate_119 ?_
                refine lv_icmp_ge (tgt := 129) hx hb dX6_crate_122 (by decide) (fun c15 => ?_) (fun c15 => ?_)
                · replace h := h.1 c15
                  refine lv_iconst (v := 1) hx hb dX6_crate_129 (by decide) ?_
                  exact xret_i hx hb hr hlocks hH h dX6_crate_130
                · replace h := h.2 c15
                  refine lv_iconst (v := 0) hx hb dX6_crate_125 (by decide) ?_
                  refine lv_goto (tgt := 130) hx hb dX6_crate_126 (by decide) ?_
                  exact xret_i hx hb hr hlocks hH h dX6_crate_130
              · replace h := h.2.2.2.2.2.2 c4 c5 c6 c7 c8 c9
                refine lv_tableOut (tgt := 131) hx hb dX6_crate_24 (tb_out (N := 6) (by decide) (by decide) (fun j hj => by match j, hj with | 0, _ => exact c4 | 1, _ => exact c5 | 2, _ => exact c6 | 3, _ => exact c7 | 4, _ => exact c8 | 5, _ => exact c9 | j + 6, hj => exact absurd hj (by omega))) (by decide) ?_
                refine lv_iconst (v := (-1)) hx hb dX6_crate_131 (by decide) ?_
                exact xret_i hx hb hr hlocks hH h dX6_crate_132
  · replace h := h.2 c3
    refine lv_iconst (v := (-1)) hx hb dX6_crate_21 (by decide) ?_
    exact xret_i hx hb hr hlocks hH h dX6_crate_22
set_option maxHeartbeats 4000000 in
set_option maxRecDepth 100000 in
theorem kX6_meeting (l : Launch) {D : va_G} {cy : Nat → ClassId} {ad : Nat → Nat} (hI : AdI ad) (a1 : Int32) (K : Int32 → ST → Prop) (x y : ST) (h : wX6_meeting a1 K x) : Met l yX6_meeting (Cond.code yX6_meeting cX6_meeting 2 (some .int) :: WL) ({ frames := 4, cells := 0, slots := 0, locals := 88 } : Room) (va_Pc [.ref (ad 0), .int a1] (PW D cy ad x y)) (va_Qi K (QW D (fun z => Wd ad cy z y)) (AW ad)) 0 0 (AW ad) := by
  refine Met.ofW (cc := cX6_meeting) (maxL := 2) (ret := (some .int)) (by decide) rfl ?_
  intro p e s m args below meth c s₁ B0 hml hv
  obtain ⟨rfl, hP, hK, hN⟩ := hv
  have hr := B0.returns
  have hlocks := B0.notSynchronized
  have hts := atoms_spec (ws := (Cond.code yX6_meeting cX6_meeting 2 (some .int) :: WL)) B0.pre
  have B : Bd p s m ([Value.ref (ad 0), Value.int a1] : List Value).toArray c cX6_meeting 2 RX6 D cy := ⟨B0.exec, B0.bytes, hml, findClass_of_methodNamed B0.named, fun w hw => hts w (List.mem_cons_of_mem _ hw), hK, hN⟩
  have hx := B0.exec
  have hb := B0.bytes
  have hO : AdOk ad (AW ad) := hI.self
  have hH : Hd D (AW ad) (Wd ad cy x y) s s.heap [] := ⟨hP, va_S.rf⟩
  have hl := lv_entry ([.ref (ad 0), .int a1]) (n := 2) (Nat.le_of_ble_eq_true rfl)
  rw [lg_entry_eq]
  generalize (lg_sl ([.ref (ad 0), .int a1]) ++ List.replicate (2 - (lg_sl ([.ref (ad 0), .int a1])).length) Slot.unset).toArray = ls at hl ⊢
  have hl : lv_has ls 2 [(0, .ref (ad 0)), (1, .int a1)] := hl
  unfold wX6_meeting at h
  refine lv_aload_n hx hb dX6_meeting_0 rfl (lv_at hl 0 rfl) ?_
  refine xVv (Wf := (fun z => Wd ad cy z y)) (n := 0) (P := 0) (ci := 6) (As := []) (rest := []) B hH hO (kX6_makePlans l hO.1 _ x y h) rfl rfl wk2_149 wk2_151 wkp_5 wk1_1 wk2_152 (by decide +kernel) rfl ⟨rfl, rfl⟩ ⟨Nat.le_of_ble_eq_true rfl, Nat.le_of_ble_eq_true rfl⟩ ⟨Nat.zero_le _, Nat.zero_le _⟩ hl.1 rfl (Nat.le_of_ble_eq_true rfl) dX6_meeting_1 (fun x1 H locs h hH => ?_)
  replace hH : Hd D (AW ad) (Wd ad cy x1 y) s H locs := hH
  refine lv_iload_n hx hb dX6_meeting_4 rfl (lv_at hl 1 rfl) ?_
  by_cases c2 : a1 = 0
  · replace h := h.1 c2
    refine lv_lookup (off := 27) (tgt := 32) hx hb dX6_meeting_5 (by decide) (by rw [c2]; first | rfl | done) (by decide) ?_
    refine lv_aload_n hx hb dX6_meeting_32 rfl (lv_at hl 0 rfl) ?_
    refine gr_22 B hH wk2_0 dX6_meeting_33 ?_
    refine gf_18 B hH wk1_180 dX6_meeting_36 ?_
    exact xret_i hx hb hr hlocks hH h dX6_meeting_39
  · by_cases c3 : a1 = 1
    · replace h := h.2.1 c3
      refine lv_lookup (off := 35) (tgt := 40) hx hb dX6_meeting_5 (by decide) (by rw [c3]; first | rfl | done) (by decide) ?_
      refine lv_aload_n hx hb dX6_meeting_40 rfl (lv_at hl 0 rfl) ?_
      refine gr_22 B hH wk2_0 dX6_meeting_41 ?_
      refine gf_19 B hH wk1_182 dX6_meeting_44 ?_
      exact xret_i hx hb hr hlocks hH h dX6_meeting_47
    · replace h := h.2.2 c2 c3
      refine lv_lookup (off := 43) (tgt := 48) hx hb dX6_meeting_5 (by decide) ((lv_osw c2 (by decide)).trans ((lv_osw c3 (by decide)).trans rfl)) (by decide) ?_
      refine lv_iconst (v := (-1)) hx hb dX6_meeting_48 (by decide) ?_
      exact xret_i hx hb hr hlocks hH h dX6_meeting_49
set_option maxHeartbeats 4000000 in
set_option maxRecDepth 100000 in
theorem kX6_where (l : Launch) {D : va_G} {cy : Nat → ClassId} {ad : Nat → Nat} (hI : AdI ad) (a1 : Int32) (a2 : Int32) (a3 : Int32) (K : Int32 → ST → Prop) (x y : ST) (h : wX6_where a1 a2 a3 K x) : Met l yX6_where (Cond.code yX6_where cX6_where 4 (some .int) :: WL) ({ frames := 4, cells := 0, slots := 0, locals := 88 } : Room) (va_Pc [.ref (ad 0), .int a1, .int a2, .int a3] (PW D cy ad x y)) (va_Qi K (QW D (fun z => Wd ad cy z y)) (AW ad)) 0 0 (AW ad) := by
  refine Met.ofW (cc := cX6_where) (maxL := 4) (ret := (some .int)) (by decide) rfl ?_
  intro p e s m args below meth c s₁ B0 hml hv
  obtain ⟨rfl, hP, hK, hN⟩ := hv
  have hr := B0.returns
  have hlocks := B0.notSynchronized
  have hts := atoms_spec (ws := (Cond.code yX6_where cX6_where 4 (some .int) :: WL)) B0.pre
  have B : Bd p s m ([Value.ref (ad 0), Value.int a1, Value.int a2, Value.int a3] : List Value).toArray c cX6_where 4 RX6 D cy := ⟨B0.exec, B0.bytes, hml, findClass_of_methodNamed B0.named, fun w hw => hts w (List.mem_cons_of_mem _ hw), hK, hN⟩
  have hx := B0.exec
  have hb := B0.bytes
  have hO : AdOk ad (AW ad) := hI.self
  have hH : Hd D (AW ad) (Wd ad cy x y) s s.heap [] := ⟨hP, va_S.rf⟩
  have hl := lv_entry ([.ref (ad 0), .int a1, .int a2, .int a3]) (n := 4) (Nat.le_of_ble_eq_true rfl)
  rw [lg_entry_eq]
  generalize (lg_sl ([.ref (ad 0), .int a1, .int a2, .int a3]) ++ List.replicate (4 - (lg_sl ([.ref (ad 0), .int a1, .int a2, .int a3])).length) Slot.unset).toArray = ls at hl ⊢
  have hl : lv_has ls 4 [(0, .ref (ad 0)), (1, .int a1), (2, .int a2), (3, .int a3)] := hl
  unfold wX6_where at h
  refine lv_aload_n hx hb dX6_where_0 rfl (lv_at hl 0 rfl) ?_
  refine gr_4 B hH wk1_238 dX6_where_1 ?_
  refine lv_iload_n hx hb dX6_where_4 rfl (lv_at hl 1 rfl) ?_
  refine xVi (Wf := (fun z => Wd ad cy z y)) (n := 1) (P := 4) (ci := 0) (As := [.int a1]) (rest := []) B hH hO (kX0_has l hO.1 a1 _ x y h) rfl rfl wk2_119 wk2_120 wk2_121 wk1_4 wk2_122 (by decide +kernel) rfl ⟨rfl, rfl⟩ ⟨Nat.le_of_ble_eq_true rfl, Nat.le_of_ble_eq_true rfl⟩ ⟨Nat.zero_le _, Nat.zero_le _⟩ hl.1 rfl (Nat.le_of_ble_eq_true rfl) dX6_where_5 (fun r1 x1 H locs h hH => ?_)
  obtain ⟨h, hz1⟩ := h
  replace hH : Hd D (AW ad) (Wd ad cy x1 y) s H locs := hH
  refine lv_if_eq (tgt := 21) hx hb dX6_where_8 (by decide) (fun c2 => ?_) (fun c2 => ?_)
  · replace h := h.1 c2
    refine lv_iconst (v := (-1)) hx hb dX6_where_21 (by decide) ?_
    exact xret_i hx hb hr hlocks hH h dX6_where_22
  · replace h := h.2 c2
    refine lv_iload_n hx hb dX6_where_11 rfl (lv_at hl 2 rfl) ?_
    refine lv_iconst (v := 0) hx hb dX6_where_12 (by decide) ?_
    refine lv_ldc hx hb B.2.2.2.1 (B.2.2.2.2.1 _ wk2_213) dX6_where_13 ?_
    refine xSi (Wf := (fun z => Wd ad cy z y)) (n := 3) (As := [.int a2, .int 0, .int 100000]) (rest := []) B hH hO (kX6_within l hO.1 a2 0 100000 _ x1 y h) wk2_36 wk2_37 wk1_1 wk2_38 (by decide +kernel) rfl ⟨rfl, rfl⟩ ⟨Nat.le_of_ble_eq_true rfl, Nat.le_of_ble_eq_true rfl⟩ ⟨Nat.zero_le _, Nat.zero_le _⟩ hl.1 rfl (Nat.le_of_ble_eq_true rfl) dX6_where_15 (fun r3 x3 H locs h hH => ?_)
    obtain ⟨h, hz3⟩ := h
    replace hH : Hd D (AW ad) (Wd ad cy x3 y) s H locs := hH
    refine lv_if_ne (tgt := 23) hx hb dX6_where_18 (by decide) (fun c4 => ?_) (fun c4 => ?_)
    · replace h := h.1 c4
      refine lv_aload_n hx hb dX6_where_23 rfl (lv_at hl 0 rfl) ?_
      refine xVv (Wf := (fun z => Wd ad cy z y)) (n := 0) (P := 0) (ci := 6) (As := []) (rest := []) B hH hO (kX6_makePlans l hO.1 _ x3 y h) rfl rfl wk2_149 wk2_151 wkp_5 wk1_1 wk2_152 (by decide +kernel) rfl ⟨rfl, rfl⟩ ⟨Nat.le_of_ble_eq_true rfl, Nat.le_of_ble_eq_true rfl⟩ ⟨Nat.zero_le _, Nat.zero_le _⟩ hl.1 rfl (Nat.le_of_ble_eq_true rfl) dX6_where_24 (fun x5 H locs h hH => ?_)
      replace hH : Hd D (AW ad) (Wd ad cy x5 y) s H locs := hH
      refine lv_iload_n hx hb dX6_where_27 rfl (lv_at hl 3 rfl) ?_
      by_cases c6 : a3 = 0
      · replace h := h.1 c6
        refine lv_tableIn (tgt := 56) hx hb dX6_where_28 (by rw [c6]; decide) (by rw [c6]; decide) (by rw [c6]; rfl) (by decide) ?_
        refine lv_aload_n hx hb dX6_where_56 rfl (lv_at hl 0 rfl) ?_
        refine gr_22 B hH wk2_0 dX6_where_57 ?_
        refine lv_iload_n hx hb dX6_where_60 rfl (lv_at hl 1 rfl) ?_
        refine lv_iload_n hx hb dX6_where_61 rfl (lv_at hl 2 rfl) ?_
        refine xVi (Wf := (fun z => Wd ad cy z y)) (n := 2) (P := 22) (ci := 1) (As := [.int a1, .int a2]) (rest := []) B hH hO (kX1_stageOf l hO.1 a1 a2 _ x5 y h) rfl rfl wk2_214 wk2_215 wk2_216 wk1_6 wk2_217 (by decide +kernel) rfl ⟨rfl, rfl⟩ ⟨Nat.le_of_ble_eq_true rfl, Nat.le_of_ble_eq_true rfl⟩ ⟨Nat.zero_le _, Nat.zero_le _⟩ hl.1 rfl (Nat.le_of_ble_eq_true rfl) dX6_where_62 (fun r9 x9 H locs h hH => ?_)
        replace hH : Hd D (AW ad) (Wd ad cy x9 y) s H locs := hH
        exact xret_i hx hb hr hlocks hH h dX6_where_65
      · by_cases c7 : a3 = 1
        · replace h := h.2.1 c7
          refine lv_tableIn (tgt := 66) hx hb dX6_where_28 (by rw [c7]; decide) (by rw [c7]; decide) (by rw [c7]; rfl) (by decide) ?_
          refine lv_aload_n hx hb dX6_where_66 rfl (lv_at hl 0 rfl) ?_
          refine gr_22 B hH wk2_0 dX6_where_67 ?_
          refine lv_iload_n hx hb dX6_where_70 rfl (lv_at hl 1 rfl) ?_
          refine lv_iload_n hx hb dX6_where_71 rfl (lv_at hl 2 rfl) ?_
          refine xVi (Wf := (fun z => Wd ad cy z y)) (n := 2) (P := 22) (ci := 1) (As := [.int a1, .int a2]) (rest := []) B hH hO (kX1_readerHas l hO.1 a1 a2 _ x5 y h) rfl rfl wk2_218 wk2_219 wk2_220 wk1_6 wk2_221 (by decide +kernel) rfl ⟨rfl, rfl⟩ ⟨Nat.le_of_ble_eq_true rfl, Nat.le_of_ble_eq_true rfl⟩ ⟨Nat.zero_le _, Nat.zero_le _⟩ hl.1 rfl (Nat.le_of_ble_eq_true rfl) dX6_where_72 (fun r10 x10 H locs h hH => ?_)
          replace hH : Hd D (AW ad) (Wd ad cy x10 y) s H locs := hH
          exact xret_i hx hb hr hlocks hH h dX6_where_75
        · by_cases c8 : a3 = 2
          · replace h := h.2.2.1 c8
            refine lv_tableIn (tgt := 76) hx hb dX6_where_28 (by rw [c8]; decide) (by rw [c8]; decide) (by rw [c8]; rfl) (by decide) ?_
            refine lv_aload_n hx hb dX6_where_76 rfl (lv_at hl 0 rfl) ?_
            refine gr_22 B hH wk2_0 dX6_where_77 ?_
            refine gr_29 B hH wk1_174 dX6_where_80 ?_
            refine lv_iload_n hx hb dX6_where_83 rfl (lv_at hl 1 rfl) ?_
            obtain ⟨b11, h⟩ := h
            refine ald_29 B hH b11 dX6_where_84 ?_
            exact xret_i hx hb hr hlocks hH h dX6_where_85
          · replace h := h.2.2.2 c6 c7 c8
            refine lv_tableOut (tgt := 86) hx hb dX6_where_28 (tb_out (N := 3) (by decide) (by decide) (fun j hj => by match j, hj with | 0, _ => exact c6 | 1, _ => exact c7 | 2, _ => exact c8 | j + 3, hj => exact absurd hj (by omega))) (by decide) ?_
            refine lv_iconst (v := (-1)) hx hb dX6_where_86 (by decide) ?_
            exact xret_i hx hb hr hlocks hH h dX6_where_87
    · replace h := h.2 c4
      refine lv_iconst (v := (-1)) hx hb dX6_where_21 (by decide) ?_
      exact xret_i hx hb hr hlocks hH h dX6_where_22
set_option maxHeartbeats 4000000 in
set_option maxRecDepth 100000 in
theorem kX6_row (l : Launch) {D : va_G} {cy : Nat → ClassId} {ad : Nat → Nat} (hI : AdI ad) (K : Int32 → ST → Prop) (x y : ST) (h : wX6_row K x) : Met l yX6_row (Cond.code yX6_row cX6_row 1 (some .int) :: WL) ({ frames := 4, cells := 0, slots := 0, locals := 88 } : Room) (va_Pc [.ref (ad 0)] (PW D cy ad x y)) (va_Qi K (QW D (fun z => Wd ad cy z y)) (AW ad)) 0 0 (AW ad) := by
  refine Met.ofW (cc := cX6_row) (maxL := 1) (ret := (some .int)) (by decide) rfl ?_
  intro p e s m args below meth c s₁ B0 hml hv
  obtain ⟨rfl, hP, hK, hN⟩ := hv
  have hr := B0.returns
  have hlocks := B0.notSynchronized
  have hts := atoms_spec (ws := (Cond.code yX6_row cX6_row 1 (some .int) :: WL)) B0.pre
  have B : Bd p s m ([Value.ref (ad 0)] : List Value).toArray c cX6_row 1 RX6 D cy := ⟨B0.exec, B0.bytes, hml, findClass_of_methodNamed B0.named, fun w hw => hts w (List.mem_cons_of_mem _ hw), hK, hN⟩
  have hx := B0.exec
  have hb := B0.bytes
  have hO : AdOk ad (AW ad) := hI.self
  have hH : Hd D (AW ad) (Wd ad cy x y) s s.heap [] := ⟨hP, va_S.rf⟩
  have hl := lv_entry ([.ref (ad 0)]) (n := 1) (Nat.le_of_ble_eq_true rfl)
  rw [lg_entry_eq]
  generalize (lg_sl ([.ref (ad 0)]) ++ List.replicate (1 - (lg_sl ([.ref (ad 0)])).length) Slot.unset).toArray = ls at hl ⊢
  have hl : lv_has ls 1 [(0, .ref (ad 0))] := hl
  unfold wX6_row at h
  refine lv_aload_n hx hb dX6_row_0 rfl (lv_at hl 0 rfl) ?_
  refine xVv (Wf := (fun z => Wd ad cy z y)) (n := 0) (P := 0) (ci := 6) (As := []) (rest := []) B hH hO (kX6_makePlans l hO.1 _ x y h) rfl rfl wk2_149 wk2_151 wkp_5 wk1_1 wk2_152 (by decide +kernel) rfl ⟨rfl, rfl⟩ ⟨Nat.le_of_ble_eq_true rfl, Nat.le_of_ble_eq_true rfl⟩ ⟨Nat.zero_le _, Nat.zero_le _⟩ hl.1 rfl (Nat.le_of_ble_eq_true rfl) dX6_row_1 (fun x1 H locs h hH => ?_)
  replace hH : Hd D (AW ad) (Wd ad cy x1 y) s H locs := hH
  refine lv_aload_n hx hb dX6_row_4 rfl (lv_at hl 0 rfl) ?_
  refine gr_30 B hH wk2_1 dX6_row_5 ?_
  refine lv_aload_n hx hb dX6_row_8 rfl (lv_at hl 0 rfl) ?_
  refine gr_4 B hH wk1_238 dX6_row_9 ?_
  refine gr_8 B hH wk1_75 dX6_row_12 ?_
  refine lv_aload_n hx hb dX6_row_15 rfl (lv_at hl 0 rfl) ?_
  refine gf_0 B hH wk2_2 dX6_row_16 ?_
  obtain ⟨b2, h⟩ := h
  refine aar_8 B hH b2 dX6_row_19 ?_
  refine lv_aload_n hx hb dX6_row_20 rfl (lv_at hl 0 rfl) ?_
  refine gr_4 B hH wk1_238 dX6_row_21 ?_
  refine gf_10 B hH wk1_87 dX6_row_24 ?_
  refine lv_aload_n hx hb dX6_row_27 rfl (lv_at hl 0 rfl) ?_
  refine gr_15 B hH wk1_239 dX6_row_28 ?_
  refine gr_20 B hH wk1_123 dX6_row_31 ?_
  refine xVv (Wf := (fun z => Wd ad cy z y)) (n := 3) (P := 30) (ci := 3) (As := [.ref (ad (9 + (gI x1 0).toNatClampNeg)), .int (gI x1 10), .ref (ad 20)]) (rest := []) B hH hO (kX3_fill l hO.1 ((gI x1 0).toNatClampNeg) (gI x1 10) _ x1 y (vp_in2 b2) h) rfl rfl wk2_226 wk2_227 wk2_228 wk1_7 wk2_229 (by decide +kernel) rfl ⟨rfl, rfl⟩ ⟨Nat.le_of_ble_eq_true rfl, Nat.le_of_ble_eq_true rfl⟩ ⟨Nat.zero_le _, Nat.zero_le _⟩ hl.1 rfl (Nat.le_of_ble_eq_true rfl) dX6_row_34 (fun x3 H locs h hH => ?_)
  replace hH : Hd D (AW ad) (Wd ad cy x3 y) s H locs := hH
  refine lv_aload_n hx hb dX6_row_37 rfl (lv_at hl 0 rfl) ?_
  refine lv_iconst (v := 0) hx hb dX6_row_38 (by decide) ?_
  refine pf_2 B hH hO wk2_4 (Or.inl rfl) dX6_row_39 (fun x4 e4 H locs hH => ?_)
  replace h := h x4 e4
  refine lv_aload_n hx hb dX6_row_42 rfl (lv_at hl 0 rfl) ?_
  refine gr_30 B hH wk2_1 dX6_row_43 ?_
  refine gf_20 B hH wk1_219 dX6_row_46 ?_
  exact xret_i hx hb hr hlocks hH h dX6_row_49
set_option maxHeartbeats 4000000 in
set_option maxRecDepth 100000 in
theorem kX6_at (l : Launch) {D : va_G} {cy : Nat → ClassId} {ad : Nat → Nat} (hI : AdI ad) (a1 : Int32) (K : Int32 → ST → Prop) (x y : ST) (h : wX6_at a1 K x) : Met l yX6_at (Cond.code yX6_at cX6_at 2 (some .int) :: WL) ({ frames := 2, cells := 0, slots := 0, locals := 43 } : Room) (va_Pc [.ref (ad 0), .int a1] (PW D cy ad x y)) (va_Qi K (QW D (fun z => Wd ad cy z y)) (AW ad)) 0 0 (AW ad) := by
  refine Met.ofW (cc := cX6_at) (maxL := 2) (ret := (some .int)) (by decide) rfl ?_
  intro p e s m args below meth c s₁ B0 hml hv
  obtain ⟨rfl, hP, hK, hN⟩ := hv
  have hr := B0.returns
  have hlocks := B0.notSynchronized
  have hts := atoms_spec (ws := (Cond.code yX6_at cX6_at 2 (some .int) :: WL)) B0.pre
  have B : Bd p s m ([Value.ref (ad 0), Value.int a1] : List Value).toArray c cX6_at 2 RX6 D cy := ⟨B0.exec, B0.bytes, hml, findClass_of_methodNamed B0.named, fun w hw => hts w (List.mem_cons_of_mem _ hw), hK, hN⟩
  have hx := B0.exec
  have hb := B0.bytes
  have hO : AdOk ad (AW ad) := hI.self
  have hH : Hd D (AW ad) (Wd ad cy x y) s s.heap [] := ⟨hP, va_S.rf⟩
  have hl := lv_entry ([.ref (ad 0), .int a1]) (n := 2) (Nat.le_of_ble_eq_true rfl)
  rw [lg_entry_eq]
  generalize (lg_sl ([.ref (ad 0), .int a1]) ++ List.replicate (2 - (lg_sl ([.ref (ad 0), .int a1])).length) Slot.unset).toArray = ls at hl ⊢
  have hl : lv_has ls 2 [(0, .ref (ad 0)), (1, .int a1)] := hl
  unfold wX6_at at h
  refine lv_aload_n hx hb dX6_at_0 rfl (lv_at hl 0 rfl) ?_
  refine gr_30 B hH wk2_1 dX6_at_1 ?_
  refine lv_iload_n hx hb dX6_at_4 rfl (lv_at hl 1 rfl) ?_
  refine xVi (Wf := (fun z => Wd ad cy z y)) (n := 1) (P := 30) (ci := 3) (As := [.int a1]) (rest := []) B hH hO (kX3_has l hO.1 a1 _ x y h) rfl rfl wk2_234 wk2_235 wk2_236 wk1_7 wk2_237 (by decide +kernel) rfl ⟨rfl, rfl⟩ ⟨Nat.le_of_ble_eq_true rfl, Nat.le_of_ble_eq_true rfl⟩ ⟨Nat.zero_le _, Nat.zero_le _⟩ hl.1 rfl (Nat.le_of_ble_eq_true rfl) dX6_at_5 (fun r1 x1 H locs h hH => ?_)
  obtain ⟨h, hz1⟩ := h
  replace hH : Hd D (AW ad) (Wd ad cy x1 y) s H locs := hH
  refine lv_if_eq (tgt := 23) hx hb dX6_at_8 (by decide) (fun c2 => ?_) (fun c2 => ?_)
  · replace h := h.1 c2
    refine lv_iconst (v := (-1)) hx hb dX6_at_23 (by decide) ?_
    exact xret_i hx hb hr hlocks hH h dX6_at_24
  · replace h := h.2 c2
    refine lv_aload_n hx hb dX6_at_11 rfl (lv_at hl 0 rfl) ?_
    refine gr_30 B hH wk2_1 dX6_at_12 ?_
    refine gr_31 B hH wk1_213 dX6_at_15 ?_
    refine lv_iload_n hx hb dX6_at_18 rfl (lv_at hl 1 rfl) ?_
    obtain ⟨b3, h⟩ := h
    refine ald_31 B hH b3 dX6_at_19 ?_
    refine lv_goto (tgt := 24) hx hb dX6_at_20 (by decide) ?_
    exact xret_i hx hb hr hlocks hH h dX6_at_24
set_option maxHeartbeats 4000000 in
set_option maxRecDepth 100000 in
theorem kX6_misplace (l : Launch) {D : va_G} {cy : Nat → ClassId} {ad : Nat → Nat} (hI : AdI ad) (a1 : Int32) (a2 : Int32) (K : Int32 → ST → Prop) (x y : ST) (h : wX6_misplace a1 a2 K x) : Met l yX6_misplace (Cond.code yX6_misplace cX6_misplace 3 (some .boolean) :: WL) ({ frames := 2, cells := 0, slots := 0, locals := 43 } : Room) (va_Pc [.ref (ad 0), .int a1, .int a2] (PW D cy ad x y)) (va_Qi (fun r z => K r z ∧ (r = 0 ∨ r = 1)) (QW D (fun z => Wd ad cy z y)) (AW ad)) 0 0 (AW ad) := by
  refine Met.ofW (cc := cX6_misplace) (maxL := 3) (ret := (some .boolean)) (by decide) rfl ?_
  intro p e s m args below meth c s₁ B0 hml hv
  obtain ⟨rfl, hP, hK, hN⟩ := hv
  have hr := B0.returns
  have hlocks := B0.notSynchronized
  have hts := atoms_spec (ws := (Cond.code yX6_misplace cX6_misplace 3 (some .boolean) :: WL)) B0.pre
  have B : Bd p s m ([Value.ref (ad 0), Value.int a1, Value.int a2] : List Value).toArray c cX6_misplace 3 RX6 D cy := ⟨B0.exec, B0.bytes, hml, findClass_of_methodNamed B0.named, fun w hw => hts w (List.mem_cons_of_mem _ hw), hK, hN⟩
  have hx := B0.exec
  have hb := B0.bytes
  have hO : AdOk ad (AW ad) := hI.self
  have hH : Hd D (AW ad) (Wd ad cy x y) s s.heap [] := ⟨hP, va_S.rf⟩
  have hl := lv_entry ([.ref (ad 0), .int a1, .int a2]) (n := 3) (Nat.le_of_ble_eq_true rfl)
  rw [lg_entry_eq]
  generalize (lg_sl ([.ref (ad 0), .int a1, .int a2]) ++ List.replicate (3 - (lg_sl ([.ref (ad 0), .int a1, .int a2])).length) Slot.unset).toArray = ls at hl ⊢
  have hl : lv_has ls 3 [(0, .ref (ad 0)), (1, .int a1), (2, .int a2)] := hl
  unfold wX6_misplace at h
  refine lv_aload_n hx hb dX6_misplace_0 rfl (lv_at hl 0 rfl) ?_
  refine gr_30 B hH wk2_1 dX6_misplace_1 ?_
  refine lv_iload_n hx hb dX6_misplace_4 rfl (lv_at hl 1 rfl) ?_
  refine xVi (Wf := (fun z => Wd ad cy z y)) (n := 1) (P := 30) (ci := 3) (As := [.int a1]) (rest := []) B hH hO (kX3_has l hO.1 a1 _ x y h) rfl rfl wk2_234 wk2_235 wk2_236 wk1_7 wk2_237 (by decide +kernel) rfl ⟨rfl, rfl⟩ ⟨Nat.le_of_ble_eq_true rfl, Nat.le_of_ble_eq_true rfl⟩ ⟨Nat.zero_le _, Nat.zero_le _⟩ hl.1 rfl (Nat.le_of_ble_eq_true rfl) dX6_misplace_5 (fun r1 x1 H locs h hH => ?_)
  obtain ⟨h, hz1⟩ := h
  replace hH : Hd D (AW ad) (Wd ad cy x1 y) s H locs := hH
  refine lv_if_eq (tgt := 27) hx hb dX6_misplace_8 (by decide) (fun c2 => ?_) (fun c2 => ?_)
  · replace h := h.1 c2
    refine lv_iconst (v := 0) hx hb dX6_misplace_27 (by decide) ?_
    exact xret_z hx hb hr hlocks hH (Or.inl rfl) h dX6_misplace_28
  · replace h := h.2 c2
    refine lv_aload_n hx hb dX6_misplace_11 rfl (lv_at hl 0 rfl) ?_
    refine gr_30 B hH wk2_1 dX6_misplace_12 ?_
    refine lv_iload_n hx hb dX6_misplace_15 rfl (lv_at hl 2 rfl) ?_
    refine xVi (Wf := (fun z => Wd ad cy z y)) (n := 1) (P := 30) (ci := 3) (As := [.int a2]) (rest := []) B hH hO (kX3_has l hO.1 a2 _ x1 y h) rfl rfl wk2_234 wk2_235 wk2_236 wk1_7 wk2_237 (by decide +kernel) rfl ⟨rfl, rfl⟩ ⟨Nat.le_of_ble_eq_true rfl, Nat.le_of_ble_eq_true rfl⟩ ⟨Nat.zero_le _, Nat.zero_le _⟩ hl.1 rfl (Nat.le_of_ble_eq_true rfl) dX6_misplace_16 (fun r3 x3 H locs h hH => ?_)
    obtain ⟨h, hz3⟩ := h
    replace hH : Hd D (AW ad) (Wd ad cy x3 y) s H locs := hH
    refine lv_if_eq (tgt := 27) hx hb dX6_misplace_19 (by decide) (fun c4 => ?_) (fun c4 => ?_)
    · replace h := h.1 c4
      refine lv_iconst (v := 0) hx hb dX6_misplace_27 (by decide) ?_
      exact xret_z hx hb hr hlocks hH (Or.inl rfl) h dX6_misplace_28
    · replace h := h.2 c4
      refine lv_iload_n hx hb dX6_misplace_22 rfl (lv_at hl 1 rfl) ?_
      refine lv_iload_n hx hb dX6_misplace_23 rfl (lv_at hl 2 rfl) ?_
      refine lv_icmp_ne (tgt := 29) hx hb dX6_misplace_24 (by decide) (fun c5 => ?_) (fun c5 => ?_)
      · replace h := h.1 c5
        refine lv_aload_n hx hb dX6_misplace_29 rfl (lv_at hl 0 rfl) ?_
        refine gr_30 B hH wk2_1 dX6_misplace_30 ?_
        refine lv_iload_n hx hb dX6_misplace_33 rfl (lv_at hl 1 rfl) ?_
        refine lv_iload_n hx hb dX6_misplace_34 rfl (lv_at hl 2 rfl) ?_
        refine xVv (Wf := (fun z => Wd ad cy z y)) (n := 2) (P := 30) (ci := 3) (As := [.int a1, .int a2]) (rest := []) B hH hO (kX3_carry l hO.1 a1 a2 _ x3 y h) rfl rfl wk3_3 wk3_4 wk3_5 wk1_7 wk3_6 (by decide +kernel) rfl ⟨rfl, rfl⟩ ⟨Nat.le_of_ble_eq_true rfl, Nat.le_of_ble_eq_true rfl⟩ ⟨Nat.zero_le _, Nat.zero_le _⟩ hl.1 rfl (Nat.le_of_ble_eq_true rfl) dX6_misplace_35 (fun x6 H locs h hH => ?_)
        replace hH : Hd D (AW ad) (Wd ad cy x6 y) s H locs := hH
        refine lv_aload_n hx hb dX6_misplace_38 rfl (lv_at hl 0 rfl) ?_
        refine lv_iconst (v := 0) hx hb dX6_misplace_39 (by decide) ?_
        refine pf_2 B hH hO wk2_4 (Or.inl rfl) dX6_misplace_40 (fun x7 e7 H locs hH => ?_)
        replace h := h x7 e7
        refine lv_iconst (v := 1) hx hb dX6_misplace_43 (by decide) ?_
        exact xret_z hx hb hr hlocks hH (Or.inr rfl) h dX6_misplace_44
      · replace h := h.2 c5
        refine lv_iconst (v := 0) hx hb dX6_misplace_27 (by decide) ?_
        exact xret_z hx hb hr hlocks hH (Or.inl rfl) h dX6_misplace_28
set_option maxHeartbeats 4000000 in
set_option maxRecDepth 100000 in
theorem kX6_lookThrough (l : Launch) {D : va_G} {cy : Nat → ClassId} {ad : Nat → Nat} (hI : AdI ad) (K : ST → Prop) (x y : ST) (h : wX6_lookThrough K x) : Met l yX6_lookThrough (Cond.code yX6_lookThrough cX6_lookThrough 1 none :: WL) ({ frames := 3, cells := 0, slots := 0, locals := 79 } : Room) (va_Pc [.ref (ad 0)] (PW D cy ad x y)) (va_Qv K (QW D (fun z => Wd ad cy z y)) (AW ad)) 0 0 (AW ad) := by
  refine Met.ofW (cc := cX6_lookThrough) (maxL := 1) (ret := none) (by decide) rfl ?_
  intro p e s m args below meth c s₁ B0 hml hv
  obtain ⟨rfl, hP, hK, hN⟩ := hv
  have hr := B0.returns
  have hlocks := B0.notSynchronized
  have hts := atoms_spec (ws := (Cond.code yX6_lookThrough cX6_lookThrough 1 none :: WL)) B0.pre
  have B : Bd p s m ([Value.ref (ad 0)] : List Value).toArray c cX6_lookThrough 1 RX6 D cy := ⟨B0.exec, B0.bytes, hml, findClass_of_methodNamed B0.named, fun w hw => hts w (List.mem_cons_of_mem _ hw), hK, hN⟩
  have hx := B0.exec
  have hb := B0.bytes
  have hO : AdOk ad (AW ad) := hI.self
  have hH : Hd D (AW ad) (Wd ad cy x y) s s.heap [] := ⟨hP, va_S.rf⟩
  have hl := lv_entry ([.ref (ad 0)]) (n := 1) (Nat.le_of_ble_eq_true rfl)
  rw [lg_entry_eq]
  generalize (lg_sl ([.ref (ad 0)]) ++ List.replicate (1 - (lg_sl ([.ref (ad 0)])).length) Slot.unset).toArray = ls at hl ⊢
  have hl : lv_has ls 1 [(0, .ref (ad 0))] := hl
  unfold wX6_lookThrough at h
  refine lv_aload_n hx hb dX6_lookThrough_0 rfl (lv_at hl 0 rfl) ?_
  refine gf_2 B hH wk2_4 dX6_lookThrough_1 ?_
  refine lv_if_ne (tgt := 27) hx hb dX6_lookThrough_4 (by decide) (fun c1 => ?_) (fun c1 => ?_)
  · replace h := h.1 c1
    exact xret_v hx hb hr hlocks hH h dX6_lookThrough_27
  · replace h := h.2 c1
    refine lv_aload_n hx hb dX6_lookThrough_7 rfl (lv_at hl 0 rfl) ?_
    refine gr_30 B hH wk2_1 dX6_lookThrough_8 ?_
    refine lv_aload_n hx hb dX6_lookThrough_11 rfl (lv_at hl 0 rfl) ?_
    refine gr_4 B hH wk1_238 dX6_lookThrough_12 ?_
    refine lv_aload_n hx hb dX6_lookThrough_15 rfl (lv_at hl 0 rfl) ?_
    refine gf_0 B hH wk2_2 dX6_lookThrough_16 ?_
    refine xVv (Wf := (fun z => Wd ad cy z y)) (n := 2) (P := 30) (ci := 3) (As := [.ref (ad 4), .int (gI x 0)]) (rest := []) B hH hO (kX3_findOuts l hO.1 (gI x 0) _ x y h) rfl rfl wk3_15 wk3_16 wk3_17 wk1_7 wk3_18 (by decide +kernel) rfl ⟨rfl, rfl⟩ ⟨Nat.le_of_ble_eq_true rfl, Nat.le_of_ble_eq_true rfl⟩ ⟨Nat.zero_le _, Nat.zero_le _⟩ hl.1 rfl (Nat.le_of_ble_eq_true rfl) dX6_lookThrough_19 (fun x2 H locs h hH => ?_)
    replace hH : Hd D (AW ad) (Wd ad cy x2 y) s H locs := hH
    refine lv_aload_n hx hb dX6_lookThrough_22 rfl (lv_at hl 0 rfl) ?_
    refine lv_iconst (v := 1) hx hb dX6_lookThrough_23 (by decide) ?_
    refine pf_2 B hH hO wk2_4 (Or.inr rfl) dX6_lookThrough_24 (fun x3 e3 H locs hH => ?_)
    replace h := h x3 e3
    exact xret_v hx hb hr hlocks hH h dX6_lookThrough_27
set_option maxHeartbeats 4000000 in
set_option maxRecDepth 100000 in
theorem kX6_takenOut (l : Launch) {D : va_G} {cy : Nat → ClassId} {ad : Nat → Nat} (hI : AdI ad) (K : Int32 → ST → Prop) (x y : ST) (h : wX6_takenOut K x) : Met l yX6_takenOut (Cond.code yX6_takenOut cX6_takenOut 1 (some .int) :: WL) ({ frames := 4, cells := 0, slots := 0, locals := 99 } : Room) (va_Pc [.ref (ad 0)] (PW D cy ad x y)) (va_Qi K (QW D (fun z => Wd ad cy z y)) (AW ad)) 0 0 (AW ad) := by
  refine Met.ofW (cc := cX6_takenOut) (maxL := 1) (ret := (some .int)) (by decide) rfl ?_
  intro p e s m args below meth c s₁ B0 hml hv
  obtain ⟨rfl, hP, hK, hN⟩ := hv
  have hr := B0.returns
  have hlocks := B0.notSynchronized
  have hts := atoms_spec (ws := (Cond.code yX6_takenOut cX6_takenOut 1 (some .int) :: WL)) B0.pre
  have B : Bd p s m ([Value.ref (ad 0)] : List Value).toArray c cX6_takenOut 1 RX6 D cy := ⟨B0.exec, B0.bytes, hml, findClass_of_methodNamed B0.named, fun w hw => hts w (List.mem_cons_of_mem _ hw), hK, hN⟩
  have hx := B0.exec
  have hb := B0.bytes
  have hO : AdOk ad (AW ad) := hI.self
  have hH : Hd D (AW ad) (Wd ad cy x y) s s.heap [] := ⟨hP, va_S.rf⟩
  have hl := lv_entry ([.ref (ad 0)]) (n := 1) (Nat.le_of_ble_eq_true rfl)
  rw [lg_entry_eq]
  generalize (lg_sl ([.ref (ad 0)]) ++ List.replicate (1 - (lg_sl ([.ref (ad 0)])).length) Slot.unset).toArray = ls at hl ⊢
  have hl : lv_has ls 1 [(0, .ref (ad 0))] := hl
  unfold wX6_takenOut at h
  refine lv_aload_n hx hb dX6_takenOut_0 rfl (lv_at hl 0 rfl) ?_
  refine xVv (Wf := (fun z => Wd ad cy z y)) (n := 0) (P := 0) (ci := 6) (As := []) (rest := []) B hH hO (kX6_lookThrough l hO.1 _ x y h) rfl rfl wk3_11 wk3_13 wkp_10 wk1_1 wk3_14 (by decide +kernel) rfl ⟨rfl, rfl⟩ ⟨Nat.le_of_ble_eq_true rfl, Nat.le_of_ble_eq_true rfl⟩ ⟨Nat.zero_le _, Nat.zero_le _⟩ hl.1 rfl (Nat.le_of_ble_eq_true rfl) dX6_takenOut_1 (fun x1 H locs h hH => ?_)
  replace hH : Hd D (AW ad) (Wd ad cy x1 y) s H locs := hH
  refine lv_aload_n hx hb dX6_takenOut_4 rfl (lv_at hl 0 rfl) ?_
  refine gr_30 B hH wk2_1 dX6_takenOut_5 ?_
  refine gf_21 B hH wk1_221 dX6_takenOut_8 ?_
  exact xret_i hx hb hr hlocks hH h dX6_takenOut_11
set_option maxHeartbeats 4000000 in
set_option maxRecDepth 100000 in
theorem kX6_isOut (l : Launch) {D : va_G} {cy : Nat → ClassId} {ad : Nat → Nat} (hI : AdI ad) (a1 : Int32) (K : Int32 → ST → Prop) (x y : ST) (h : wX6_isOut a1 K x) : Met l yX6_isOut (Cond.code yX6_isOut cX6_isOut 2 (some .int) :: WL) ({ frames := 4, cells := 0, slots := 0, locals := 99 } : Room) (va_Pc [.ref (ad 0), .int a1] (PW D cy ad x y)) (va_Qi K (QW D (fun z => Wd ad cy z y)) (AW ad)) 0 0 (AW ad) := by
  refine Met.ofW (cc := cX6_isOut) (maxL := 2) (ret := (some .int)) (by decide) rfl ?_
  intro p e s m args below meth c s₁ B0 hml hv
  obtain ⟨rfl, hP, hK, hN⟩ := hv
  have hr := B0.returns
  have hlocks := B0.notSynchronized
  have hts := atoms_spec (ws := (Cond.code yX6_isOut cX6_isOut 2 (some .int) :: WL)) B0.pre
  have B : Bd p s m ([Value.ref (ad 0), Value.int a1] : List Value).toArray c cX6_isOut 2 RX6 D cy := ⟨B0.exec, B0.bytes, hml, findClass_of_methodNamed B0.named, fun w hw => hts w (List.mem_cons_of_mem _ hw), hK, hN⟩
  have hx := B0.exec
  have hb := B0.bytes
  have hO : AdOk ad (AW ad) := hI.self
  have hH : Hd D (AW ad) (Wd ad cy x y) s s.heap [] := ⟨hP, va_S.rf⟩
  have hl := lv_entry ([.ref (ad 0), .int a1]) (n := 2) (Nat.le_of_ble_eq_true rfl)
  rw [lg_entry_eq]
  generalize (lg_sl ([.ref (ad 0), .int a1]) ++ List.replicate (2 - (lg_sl ([.ref (ad 0), .int a1])).length) Slot.unset).toArray = ls at hl ⊢
  have hl : lv_has ls 2 [(0, .ref (ad 0)), (1, .int a1)] := hl
  unfold wX6_isOut at h
  refine lv_aload_n hx hb dX6_isOut_0 rfl (lv_at hl 0 rfl) ?_
  refine gr_30 B hH wk2_1 dX6_isOut_1 ?_
  refine lv_iload_n hx hb dX6_isOut_4 rfl (lv_at hl 1 rfl) ?_
  refine xVi (Wf := (fun z => Wd ad cy z y)) (n := 1) (P := 30) (ci := 3) (As := [.int a1]) (rest := []) B hH hO (kX3_has l hO.1 a1 _ x y h) rfl rfl wk2_234 wk2_235 wk2_236 wk1_7 wk2_237 (by decide +kernel) rfl ⟨rfl, rfl⟩ ⟨Nat.le_of_ble_eq_true rfl, Nat.le_of_ble_eq_true rfl⟩ ⟨Nat.zero_le _, Nat.zero_le _⟩ hl.1 rfl (Nat.le_of_ble_eq_true rfl) dX6_isOut_5 (fun r1 x1 H locs h hH => ?_)
  obtain ⟨h, hz1⟩ := h
  replace hH : Hd D (AW ad) (Wd ad cy x1 y) s H locs := hH
  refine lv_if_ne (tgt := 13) hx hb dX6_isOut_8 (by decide) (fun c2 => ?_) (fun c2 => ?_)
  · replace h := h.1 c2
    refine lv_aload_n hx hb dX6_isOut_13 rfl (lv_at hl 0 rfl) ?_
    refine xVv (Wf := (fun z => Wd ad cy z y)) (n := 0) (P := 0) (ci := 6) (As := []) (rest := []) B hH hO (kX6_lookThrough l hO.1 _ x1 y h) rfl rfl wk3_11 wk3_13 wkp_10 wk1_1 wk3_14 (by decide +kernel) rfl ⟨rfl, rfl⟩ ⟨Nat.le_of_ble_eq_true rfl, Nat.le_of_ble_eq_true rfl⟩ ⟨Nat.zero_le _, Nat.zero_le _⟩ hl.1 rfl (Nat.le_of_ble_eq_true rfl) dX6_isOut_14 (fun x3 H locs h hH => ?_)
    replace hH : Hd D (AW ad) (Wd ad cy x3 y) s H locs := hH
    refine lv_aload_n hx hb dX6_isOut_17 rfl (lv_at hl 0 rfl) ?_
    refine gr_30 B hH wk2_1 dX6_isOut_18 ?_
    refine gr_32 B hH wk1_215 dX6_isOut_21 ?_
    refine lv_iload_n hx hb dX6_isOut_24 rfl (lv_at hl 1 rfl) ?_
    obtain ⟨b4, h⟩ := h
    refine ald_32 B hH b4 dX6_isOut_25 ?_
    refine lv_if_eq (tgt := 33) hx hb dX6_isOut_26 (by decide) (fun c5 => ?_) (fun c5 => ?_)
    · replace h := h.1 c5
      refine lv_iconst (v := 0) hx hb dX6_isOut_33 (by decide) ?_
      exact xret_i hx hb hr hlocks hH h dX6_isOut_34
    · replace h := h.2 c5
      refine lv_iconst (v := 1) hx hb dX6_isOut_29 (by decide) ?_
      refine lv_goto (tgt := 34) hx hb dX6_isOut_30 (by decide) ?_
      exact xret_i hx hb hr hlocks hH h dX6_isOut_34
  · replace h := h.2 c2
    refine lv_iconst (v := (-1)) hx hb dX6_isOut_11 (by decide) ?_
    exact xret_i hx hb hr hlocks hH h dX6_isOut_12
set_option maxHeartbeats 4000000 in
set_option maxRecDepth 100000 in
theorem kX6_drawn (l : Launch) {D : va_G} {cy : Nat → ClassId} {ad : Nat → Nat} (hI : AdI ad) (a1 : Int32) (a2 : Int32) (a3 : Int32) (K : Int32 → ST → Prop) (x y : ST) (h : wX6_drawn a1 a2 a3 K x) : Met l yX6_drawn (Cond.code yX6_drawn cX6_drawn 6 (some .int) :: WL) ({ frames := 2, cells := 0, slots := 0, locals := 57 } : Room) (va_Pc [.ref (ad 0), .int a1, .int a2, .int a3] (PW D cy ad x y)) (va_Qi K (QW D (fun z => Wd ad cy z y)) (AW ad)) 0 0 (AW ad) := by
  refine Met.ofW (cc := cX6_drawn) (maxL := 6) (ret := (some .int)) (by decide) rfl ?_
  intro p e s m args below meth c s₁ B0 hml hv
  obtain ⟨rfl, hP, hK, hN⟩ := hv
  have hr := B0.returns
  have hlocks := B0.notSynchronized
  have hts := atoms_spec (ws := (Cond.code yX6_drawn cX6_drawn 6 (some .int) :: WL)) B0.pre
  have B : Bd p s m ([Value.ref (ad 0), Value.int a1, Value.int a2, Value.int a3] : List Value).toArray c cX6_drawn 6 RX6 D cy := ⟨B0.exec, B0.bytes, hml, findClass_of_methodNamed B0.named, fun w hw => hts w (List.mem_cons_of_mem _ hw), hK, hN⟩
  have hx := B0.exec
  have hb := B0.bytes
  have hO : AdOk ad (AW ad) := hI.self
  have hH : Hd D (AW ad) (Wd ad cy x y) s s.heap [] := ⟨hP, va_S.rf⟩
  have hl := lv_entry ([.ref (ad 0), .int a1, .int a2, .int a3]) (n := 6) (Nat.le_of_ble_eq_true rfl)
  rw [lg_entry_eq]
  generalize (lg_sl ([.ref (ad 0), .int a1, .int a2, .int a3]) ++ List.replicate (6 - (lg_sl ([.ref (ad 0), .int a1, .int a2, .int a3])).length) Slot.unset).toArray = ls at hl ⊢
  have hl : lv_has ls 6 [(0, .ref (ad 0)), (1, .int a1), (2, .int a2), (3, .int a3)] := hl
  unfold wX6_drawn at h
  refine lv_aload_n hx hb dX6_drawn_0 rfl (lv_at hl 0 rfl) ?_
  refine gr_30 B hH wk2_1 dX6_drawn_1 ?_
  refine gf_20 B hH wk1_219 dX6_drawn_4 ?_
  refine lv_iconst (v := 1) hx hb dX6_drawn_7 (by decide) ?_
  refine lv_isub hx hb dX6_drawn_8 ?_
  refine lv_topi (fun v4_1 e1 => ?_)
  replace h := h v4_1 e1
  refine lv_istore (lv' := [(4, .int v4_1), (0, .ref (ad 0)), (1, .int a1), (2, .int a2), (3, .int a3)]) hx hb dX6_drawn_9 hl (by decide) rfl (fun ls hl => ?_)
  refine lv_iload_n hx hb dX6_drawn_11 rfl (lv_at hl 2 rfl) ?_
  refine lv_iconst (v := 1) hx hb dX6_drawn_12 (by decide) ?_
  refine lv_iload hx hb dX6_drawn_13 (lv_at hl 0 rfl) ?_
  refine xSi (Wf := (fun z => Wd ad cy z y)) (n := 3) (As := [.int a1, .int 1, .int v4_1]) (rest := []) B hH hO (kX6_within l hO.1 a1 1 v4_1 _ x y h) wk2_36 wk2_37 wk1_1 wk2_38 (by decide +kernel) rfl ⟨rfl, rfl⟩ ⟨Nat.le_of_ble_eq_true rfl, Nat.le_of_ble_eq_true rfl⟩ ⟨Nat.zero_le _, Nat.zero_le _⟩ hl.1 rfl (Nat.le_of_ble_eq_true rfl) dX6_drawn_15 (fun r2 x2 H locs h hH => ?_)
  obtain ⟨h, hz2⟩ := h
  replace hH : Hd D (AW ad) (Wd ad cy x2 y) s H locs := hH
  refine lv_if_eq (tgt := 30) hx hb dX6_drawn_18 (by decide) (fun c3 => ?_) (fun c3 => ?_)
  · replace h := h.1 c3
    refine lv_iconst (v := (-1)) hx hb dX6_drawn_30 (by decide) ?_
    exact xret_i hx hb hr hlocks hH h dX6_drawn_31
  · replace h := h.2 c3
    refine lv_iload_n hx hb dX6_drawn_21 rfl (lv_at hl 4 rfl) ?_
    refine lv_iconst (v := 0) hx hb dX6_drawn_22 (by decide) ?_
    refine lv_iconst (v := 2) hx hb dX6_drawn_23 (by decide) ?_
    refine xSi (Wf := (fun z => Wd ad cy z y)) (n := 3) (As := [.int a3, .int 0, .int 2]) (rest := []) B hH hO (kX6_within l hO.1 a3 0 2 _ x2 y h) wk2_36 wk2_37 wk1_1 wk2_38 (by decide +kernel) rfl ⟨rfl, rfl⟩ ⟨Nat.le_of_ble_eq_true rfl, Nat.le_of_ble_eq_true rfl⟩ ⟨Nat.zero_le _, Nat.zero_le _⟩ hl.1 rfl (Nat.le_of_ble_eq_true rfl) dX6_drawn_24 (fun r4 x4 H locs h hH => ?_)
    obtain ⟨h, hz4⟩ := h
    replace hH : Hd D (AW ad) (Wd ad cy x4 y) s H locs := hH
    refine lv_if_ne (tgt := 32) hx hb dX6_drawn_27 (by decide) (fun c5 => ?_) (fun c5 => ?_)
    · replace h := h.1 c5
      refine lv_aload_n hx hb dX6_drawn_32 rfl (lv_at hl 1 rfl) ?_
      refine gr_30 B hH wk2_1 dX6_drawn_33 ?_
      refine lv_iload_n hx hb dX6_drawn_36 rfl (lv_at hl 2 rfl) ?_
      refine lv_iload_n hx hb dX6_drawn_37 rfl (lv_at hl 3 rfl) ?_
      refine lv_aload_n hx hb dX6_drawn_38 rfl (lv_at hl 1 rfl) ?_
      refine gr_4 B hH wk1_238 dX6_drawn_39 ?_
      refine lv_aload_n hx hb dX6_drawn_42 rfl (lv_at hl 1 rfl) ?_
      refine gf_0 B hH wk2_2 dX6_drawn_43 ?_
      refine xVi (Wf := (fun z => Wd ad cy z y)) (n := 4) (P := 30) (ci := 3) (As := [.int a1, .int a2, .ref (ad 4), .int (gI x4 0)]) (rest := []) B hH hO (kX3_draw l hO.1 a1 a2 (gI x4 0) _ x4 y h) rfl rfl wk3_33 wk3_34 wk3_35 wk1_7 wk3_36 (by decide +kernel) rfl ⟨rfl, rfl⟩ ⟨Nat.le_of_ble_eq_true rfl, Nat.le_of_ble_eq_true rfl⟩ ⟨Nat.zero_le _, Nat.zero_le _⟩ hl.1 rfl (Nat.le_of_ble_eq_true rfl) dX6_drawn_46 (fun r6 x6 H locs h hH => ?_)
      replace hH : Hd D (AW ad) (Wd ad cy x6 y) s H locs := hH
      refine lv_istore (lv' := [(5, .int r6), (4, .int v4_1), (0, .ref (ad 0)), (1, .int a1), (2, .int a2), (3, .int a3)]) hx hb dX6_drawn_49 hl (by decide) rfl (fun ls hl => ?_)
      refine lv_iload_n hx hb dX6_drawn_51 rfl (lv_at hl 5 rfl) ?_
      refine lv_iconst (v := 2) hx hb dX6_drawn_52 (by decide) ?_
      refine lv_icmp_ne (tgt := 66) hx hb dX6_drawn_53 (by decide) (fun c7 => ?_) (fun c7 => ?_)
      · replace h := h.1 c7
        refine lv_iload hx hb dX6_drawn_66 (lv_at hl 0 rfl) ?_
        exact xret_i hx hb hr hlocks hH h dX6_drawn_68
      · replace h := h.2 c7
        refine lv_iload hx hb dX6_drawn_56 (lv_at hl 0 rfl) ?_
        refine lv_iload hx hb dX6_drawn_58 (lv_at hl 1 rfl) ?_
        refine lv_iadd hx hb dX6_drawn_60 ?_
        refine lv_iload_n hx hb dX6_drawn_61 rfl (lv_at hl 3 rfl) ?_
        refine lv_isub hx hb dX6_drawn_62 ?_
        refine lv_goto (tgt := 68) hx hb dX6_drawn_63 (by decide) ?_
        exact xret_i hx hb hr hlocks hH h dX6_drawn_68
    · replace h := h.2 c5
      refine lv_iconst (v := (-1)) hx hb dX6_drawn_30 (by decide) ?_
      exact xret_i hx hb hr hlocks hH h dX6_drawn_31
set_option maxHeartbeats 4000000 in
set_option maxRecDepth 100000 in
theorem kX6_about (l : Launch) {D : va_G} {cy : Nat → ClassId} {ad : Nat → Nat} (hI : AdI ad) (a1 : Int32) (K : Int32 → ST → Prop) (x y : ST) (h : wX6_about a1 K x) : Met l yX6_about (Cond.code yX6_about cX6_about 2 (some .int) :: WL) ({ frames := 1, cells := 0, slots := 0, locals := 22 } : Room) (va_Pc [.ref (ad 0), .int a1] (PW D cy ad x y)) (va_Qi K (QW D (fun z => Wd ad cy z y)) (AW ad)) 0 0 (AW ad) := by
  refine Met.ofW (cc := cX6_about) (maxL := 2) (ret := (some .int)) (by decide) rfl ?_
  intro p e s m args below meth c s₁ B0 hml hv
  obtain ⟨rfl, hP, hK, hN⟩ := hv
  have hr := B0.returns
  have hlocks := B0.notSynchronized
  have hts := atoms_spec (ws := (Cond.code yX6_about cX6_about 2 (some .int) :: WL)) B0.pre
  have B : Bd p s m ([Value.ref (ad 0), Value.int a1] : List Value).toArray c cX6_about 2 RX6 D cy := ⟨B0.exec, B0.bytes, hml, findClass_of_methodNamed B0.named, fun w hw => hts w (List.mem_cons_of_mem _ hw), hK, hN⟩
  have hx := B0.exec
  have hb := B0.bytes
  have hO : AdOk ad (AW ad) := hI.self
  have hH : Hd D (AW ad) (Wd ad cy x y) s s.heap [] := ⟨hP, va_S.rf⟩
  have hl := lv_entry ([.ref (ad 0), .int a1]) (n := 2) (Nat.le_of_ble_eq_true rfl)
  rw [lg_entry_eq]
  generalize (lg_sl ([.ref (ad 0), .int a1]) ++ List.replicate (2 - (lg_sl ([.ref (ad 0), .int a1])).length) Slot.unset).toArray = ls at hl ⊢
  have hl : lv_has ls 2 [(0, .ref (ad 0)), (1, .int a1)] := hl
  unfold wX6_about at h
  refine lv_iload_n hx hb dX6_about_0 rfl (lv_at hl 1 rfl) ?_
  refine lv_bipush (v := 10) hx hb dX6_about_1 (by decide) ?_
  refine lv_bipush (v := 19) hx hb dX6_about_3 (by decide) ?_
  refine xSi (Wf := (fun z => Wd ad cy z y)) (n := 3) (As := [.int a1, .int 10, .int 19]) (rest := []) B hH hO (kX6_within l hO.1 a1 10 19 _ x y h) wk2_36 wk2_37 wk1_1 wk2_38 (by decide +kernel) rfl ⟨rfl, rfl⟩ ⟨Nat.le_of_ble_eq_true rfl, Nat.le_of_ble_eq_true rfl⟩ ⟨Nat.zero_le _, Nat.zero_le _⟩ hl.1 rfl (Nat.le_of_ble_eq_true rfl) dX6_about_5 (fun r1 x1 H locs h hH => ?_)
  obtain ⟨h, hz1⟩ := h
  replace hH : Hd D (AW ad) (Wd ad cy x1 y) s H locs := hH
  refine lv_if_eq (tgt := 24) hx hb dX6_about_8 (by decide) (fun c2 => ?_) (fun c2 => ?_)
  · replace h := h.1 c2
    refine lv_iload_n hx hb dX6_about_24 rfl (lv_at hl 1 rfl) ?_
    refine lv_bipush (v := 20) hx hb dX6_about_25 (by decide) ?_
    refine lv_bipush (v := 24) hx hb dX6_about_27 (by decide) ?_
    refine xSi (Wf := (fun z => Wd ad cy z y)) (n := 3) (As := [.int a1, .int 20, .int 24]) (rest := []) B hH hO (kX6_within l hO.1 a1 20 24 _ x1 y h) wk2_36 wk2_37 wk1_1 wk2_38 (by decide +kernel) rfl ⟨rfl, rfl⟩ ⟨Nat.le_of_ble_eq_true rfl, Nat.le_of_ble_eq_true rfl⟩ ⟨Nat.zero_le _, Nat.zero_le _⟩ hl.1 rfl (Nat.le_of_ble_eq_true rfl) dX6_about_29 (fun r3 x3 H locs h hH => ?_)
    obtain ⟨h, hz3⟩ := h
    replace hH : Hd D (AW ad) (Wd ad cy x3 y) s H locs := hH
    refine lv_if_eq (tgt := 48) hx hb dX6_about_32 (by decide) (fun c4 => ?_) (fun c4 => ?_)
    · replace h := h.1 c4
      refine lv_iload_n hx hb dX6_about_48 rfl (lv_at hl 1 rfl) ?_
      by_cases c5 : a1 = 0
      · replace h := h.1 c5
        refine lv_tableIn (tgt := 92) hx hb dX6_about_49 (by rw [c5]; decide) (by rw [c5]; decide) (by rw [c5]; rfl) (by decide) ?_
        refine lv_aload_n hx hb dX6_about_92 rfl (lv_at hl 0 rfl) ?_
        refine gr_4 B hH wk1_238 dX6_about_93 ?_
        refine gf_10 B hH wk1_87 dX6_about_96 ?_
        exact xret_i hx hb hr hlocks hH h dX6_about_99
      · by_cases c6 : a1 = 1
        · replace h := h.2.1 c6
          refine lv_tableIn (tgt := 100) hx hb dX6_about_49 (by rw [c6]; decide) (by rw [c6]; decide) (by rw [c6]; rfl) (by decide) ?_
          refine lv_aload_n hx hb dX6_about_100 rfl (lv_at hl 0 rfl) ?_
          refine gr_15 B hH wk1_239 dX6_about_101 ?_
          refine gf_12 B hH wk1_127 dX6_about_104 ?_
          exact xret_i hx hb hr hlocks hH h dX6_about_107
        · by_cases c7 : a1 = 2
          · replace h := h.2.2.1 c7
            refine lv_tableIn (tgt := 108) hx hb dX6_about_49 (by rw [c7]; decide) (by rw [c7]; decide) (by rw [c7]; rfl) (by decide) ?_
            refine lv_aload_n hx hb dX6_about_108 rfl (lv_at hl 0 rfl) ?_
            refine gf_0 B hH wk2_2 dX6_about_109 ?_
            exact xret_i hx hb hr hlocks hH h dX6_about_112
          · by_cases c8 : a1 = 3
            · replace h := h.2.2.2.1 c8
              refine lv_tableIn (tgt := 113) hx hb dX6_about_49 (by rw [c8]; decide) (by rw [c8]; decide) (by rw [c8]; rfl) (by decide) ?_
              refine lv_aload_n hx hb dX6_about_113 rfl (lv_at hl 0 rfl) ?_
              refine gr_15 B hH wk1_239 dX6_about_114 ?_
              refine gf_13 B hH wk1_129 dX6_about_117 ?_
              exact xret_i hx hb hr hlocks hH h dX6_about_120
            · by_cases c9 : a1 = 4
              · replace h := h.2.2.2.2.1 c9
                refine lv_tableIn (tgt := 121) hx hb dX6_about_49 (by rw [c9]; decide) (by rw [c9]; decide) (by rw [c9]; rfl) (by decide) ?_
                refine lv_aload_n hx hb dX6_about_121 rfl (lv_at hl 0 rfl) ?_
                refine gr_22 B hH wk2_0 dX6_about_122 ?_
                refine gf_16 B hH wk1_176 dX6_about_125 ?_
                exact xret_i hx hb hr hlocks hH h dX6_about_128
              · by_cases c10 : a1 = 5
                · replace h := h.2.2.2.2.2.1 c10
                  refine lv_tableIn (tgt := 129) hx hb dX6_about_49 (by rw [c10]; decide) (by rw [c10]; decide) (by rw [c10]; rfl) (by decide) ?_
                  refine lv_aload_n hx hb dX6_about_129 rfl (lv_at hl 0 rfl) ?_
                  refine gr_30 B hH wk2_1 dX6_about_130 ?_
                  refine gf_20 B hH wk1_219 dX6_about_133 ?_
                  exact xret_i hx hb hr hlocks hH h dX6_about_136
                · by_cases c11 : a1 = 6
                  · replace h := h.2.2.2.2.2.2.1 c11
                    refine lv_tableIn (tgt := 137) hx hb dX6_about_49 (by rw [c11]; decide) (by rw [c11]; decide) (by rw [c11]; rfl) (by decide) ?_
                    refine lv_aload_n hx hb dX6_about_137 rfl (lv_at hl 0 rfl) ?_
                    refine gr_1 B hH wk1_236 dX6_about_138 ?_
                    refine gf_3 B hH wk1_26 dX6_about_141 ?_
                    exact xret_i hx hb hr hlocks hH h dX6_about_144
                  · replace h := h.2.2.2.2.2.2.2 c5 c6 c7 c8 c9 c10 c11
                    refine lv_tableOut (tgt := 145) hx hb dX6_about_49 (tb_out (N := 7) (by decide) (by decide) (fun j hj => by match j, hj with | 0, _ => exact c5 | 1, _ => exact c6 | 2, _ => exact c7 | 3, _ => exact c8 | 4, _ => exact c9 | 5, _ => exact c10 | 6, _ => exact c11 | j + 7, hj => exact absurd hj (by omega))) (by decide) ?_
                    refine lv_iconst (v := (-1)) hx hb dX6_about_145 (by decide) ?_
                    exact xret_i hx hb hr hlocks hH h dX6_about_146
    · replace h := h.2 c4
      refine lv_aload_n hx hb dX6_about_35 rfl (lv_at hl 0 rfl) ?_
      refine gr_22 B hH wk2_0 dX6_about_36 ?_
      refine gr_23 B hH wk1_162 dX6_about_39 ?_
      refine lv_iload_n hx hb dX6_about_42 rfl (lv_at hl 1 rfl) ?_
      refine lv_bipush (v := 20) hx hb dX6_about_43 (by decide) ?_
      refine lv_isub hx hb dX6_about_45 ?_
      obtain ⟨b12, h⟩ := h
      refine ald_23 B hH b12 dX6_about_46 ?_
      exact xret_i hx hb hr hlocks hH h dX6_about_47
  · replace h := h.2 c2
    refine lv_aload_n hx hb dX6_about_11 rfl (lv_at hl 0 rfl) ?_
    refine gr_15 B hH wk1_239 dX6_about_12 ?_
    refine gr_17 B hH wk1_117 dX6_about_15 ?_
    refine lv_iload_n hx hb dX6_about_18 rfl (lv_at hl 1 rfl) ?_
    refine lv_bipush (v := 10) hx hb dX6_about_19 (by decide) ?_
    refine lv_isub hx hb dX6_about_21 ?_
    obtain ⟨b13, h⟩ := h
    refine ald_17 B hH b13 dX6_about_22 ?_
    exact xret_i hx hb hr hlocks hH h dX6_about_23
