set_option maxHeartbeats 4000000 in
set_option maxRecDepth 100000 in
theorem kX7_isIn (l : Launch) {D : va_G} {cy : Nat → ClassId} {ad : Nat → Nat} (hI : AdI ad) (a1 : Int32) (a2 : Int32) (a3 : Int32) (K : Int32 → ST → Prop) (x y : ST) (h : wX7_isIn a1 a2 a3 K y) : Met l yX7_isIn (Cond.code yX7_isIn cX7_isIn 3 (some .boolean) :: WL) ({ frames := 0, cells := 0, slots := 0, locals := 0 } : Room) (va_Pc [.int a1, .int a2, .int a3] (PW D cy ad x y)) (va_Qi (fun r z => K r z ∧ (r = 0 ∨ r = 1)) (QW D (fun z => Wd ad cy x z)) (AW ad)) 0 0 (AW ad) := by
  refine Met.ofW (cc := cX7_isIn) (maxL := 3) (ret := (some .boolean)) (by decide) rfl ?_
  intro p e s m args below meth c s₁ B0 hml hv
  obtain ⟨rfl, hP, hK, hN⟩ := hv
  have hr := B0.returns
  have hlocks := B0.notSynchronized
  have hts := atoms_spec (ws := (Cond.code yX7_isIn cX7_isIn 3 (some .boolean) :: WL)) B0.pre
  have B : Bd p s m ([Value.int a1, Value.int a2, Value.int a3] : List Value).toArray c cX7_isIn 3 RX7 D cy := ⟨B0.exec, B0.bytes, hml, findClass_of_methodNamed B0.named, fun w hw => hts w (List.mem_cons_of_mem _ hw), hK, hN⟩
  have hx := B0.exec
  have hb := B0.bytes
  have hO : AdOk ad (AW ad) := hI.self
  have hH : Hd D (AW ad) (Wd ad cy x y) s s.heap [] := ⟨hP, va_S.rf⟩
  have hl := lv_entry ([.int a1, .int a2, .int a3]) (n := 3) (Nat.le_of_ble_eq_true rfl)
  rw [lg_entry_eq]
  generalize (lg_sl ([.int a1, .int a2, .int a3]) ++ List.replicate (3 - (lg_sl ([.int a1, .int a2, .int a3])).length) Slot.unset).toArray = ls at hl ⊢
  have hl : lv_has ls 3 [(0, .int a1), (1, .int a2), (2, .int a3)] := hl
  unfold wX7_isIn at h
  refine lv_iload_n hx hb dX7_isIn_0 rfl (lv_at hl 0 rfl) ?_
  refine lv_iload_n hx hb dX7_isIn_1 rfl (lv_at hl 1 rfl) ?_
  refine lv_icmp_lt (tgt := 14) hx hb dX7_isIn_2 (by decide) (fun c1 => ?_) (fun c1 => ?_)
  · replace h := h.1 c1
    refine lv_iconst (v := 0) hx hb dX7_isIn_14 (by decide) ?_
    exact xret_z hx hb hr hlocks hH (Or.inl rfl) h dX7_isIn_15
  · replace h := h.2 c1
    refine lv_iload_n hx hb dX7_isIn_5 rfl (lv_at hl 0 rfl) ?_
    refine lv_iload_n hx hb dX7_isIn_6 rfl (lv_at hl 2 rfl) ?_
    refine lv_icmp_gt (tgt := 14) hx hb dX7_isIn_7 (by decide) (fun c2 => ?_) (fun c2 => ?_)
    · replace h := h.1 c2
      refine lv_iconst (v := 0) hx hb dX7_isIn_14 (by decide) ?_
      exact xret_z hx hb hr hlocks hH (Or.inl rfl) h dX7_isIn_15
    · replace h := h.2 c2
      refine lv_iconst (v := 1) hx hb dX7_isIn_10 (by decide) ?_
      refine lv_goto (tgt := 15) hx hb dX7_isIn_11 (by decide) ?_
      exact xret_z hx hb hr hlocks hH (Or.inr rfl) h dX7_isIn_15
set_option maxHeartbeats 4000000 in
set_option maxRecDepth 100000 in
theorem kX7_isBook (l : Launch) {D : va_G} {cy : Nat → ClassId} {ad : Nat → Nat} (hI : AdI ad) (a1 : Int32) (K : Int32 → ST → Prop) (x y : ST) (h : wX7_isBook a1 K y) : Met l yX7_isBook (Cond.code yX7_isBook cX7_isBook 2 (some .boolean) :: WL) ({ frames := 1, cells := 0, slots := 0, locals := 22 } : Room) (va_Pc [.ref (ad 35), .int a1] (PW D cy ad x y)) (va_Qi (fun r z => K r z ∧ (r = 0 ∨ r = 1)) (QW D (fun z => Wd ad cy x z)) (AW ad)) 0 0 (AW ad) := by
  refine Met.ofW (cc := cX7_isBook) (maxL := 2) (ret := (some .boolean)) (by decide) rfl ?_
  intro p e s m args below meth c s₁ B0 hml hv
  obtain ⟨rfl, hP, hK, hN⟩ := hv
  have hr := B0.returns
  have hlocks := B0.notSynchronized
  have hts := atoms_spec (ws := (Cond.code yX7_isBook cX7_isBook 2 (some .boolean) :: WL)) B0.pre
  have B : Bd p s m ([Value.ref (ad 35), Value.int a1] : List Value).toArray c cX7_isBook 2 RX7 D cy := ⟨B0.exec, B0.bytes, hml, findClass_of_methodNamed B0.named, fun w hw => hts w (List.mem_cons_of_mem _ hw), hK, hN⟩
  have hx := B0.exec
  have hb := B0.bytes
  have hO : AdOk ad (AW ad) := hI.self
  have hH : Hd D (AW ad) (Wd ad cy x y) s s.heap [] := ⟨hP, va_S.rf⟩
  have hl := lv_entry ([.ref (ad 35), .int a1]) (n := 2) (Nat.le_of_ble_eq_true rfl)
  rw [lg_entry_eq]
  generalize (lg_sl ([.ref (ad 35), .int a1]) ++ List.replicate (2 - (lg_sl ([.ref (ad 35), .int a1])).length) Slot.unset).toArray = ls at hl ⊢
  have hl : lv_has ls 2 [(0, .ref (ad 35)), (1, .int a1)] := hl
  unfold wX7_isBook at h
  refine lv_iload_n hx hb dX7_isBook_0 rfl (lv_at hl 1 rfl) ?_
  refine lv_iconst (v := 0) hx hb dX7_isBook_1 (by decide) ?_
  refine lv_aload_n hx hb dX7_isBook_2 rfl (lv_at hl 0 rfl) ?_
  refine gf_22 B hH wk3_48 dX7_isBook_3 ?_
  refine lv_iconst (v := 1) hx hb dX7_isBook_6 (by decide) ?_
  refine lv_isub hx hb dX7_isBook_7 ?_
  refine xSi (Wf := (fun z => Wd ad cy x z)) (n := 3) (As := [.int a1, .int 0, .int (((gI y 22) - 1))]) (rest := []) B hH hO (kX7_isIn l hO.1 a1 0 ((gI y 22) - 1) _ x y h) wk3_181 wk3_182 wk1_8 wk3_183 (by decide +kernel) rfl ⟨rfl, rfl⟩ ⟨Nat.le_of_ble_eq_true rfl, Nat.le_of_ble_eq_true rfl⟩ ⟨Nat.zero_le _, Nat.zero_le _⟩ hl.1 rfl (Nat.le_of_ble_eq_true rfl) dX7_isBook_8 (fun r1 y1 H locs h hH => ?_)
  obtain ⟨h, hz1⟩ := h
  replace hH : Hd D (AW ad) (Wd ad cy x y1) s H locs := hH
  exact xret_z hx hb hr hlocks hH hz1 h dX7_isBook_11
set_option maxHeartbeats 4000000 in
set_option maxRecDepth 100000 in
theorem kX7_four (l : Launch) {D : va_G} {cy : Nat → ClassId} {ad : Nat → Nat} (hI : AdI ad) (a1 : Int32) (K : ST → Prop) (x y : ST) (h : wX7_four a1 K y) : Met l yX7_four (Cond.code yX7_four cX7_four 3 none :: WL) ({ frames := 0, cells := 0, slots := 0, locals := 0 } : Room) (va_Pc [.ref (ad 35), .int a1] (PW D cy ad x y)) (va_Qv K (QW D (fun z => Wd ad cy x z)) (AW ad)) 0 0 (AW ad) := by
  refine Met.ofW (cc := cX7_four) (maxL := 3) (ret := none) (by decide) rfl ?_
  intro p e s m args below meth c s₁ B0 hml hv
  obtain ⟨rfl, hP, hK, hN⟩ := hv
  have hr := B0.returns
  have hlocks := B0.notSynchronized
  have hts := atoms_spec (ws := (Cond.code yX7_four cX7_four 3 none :: WL)) B0.pre
  have B : Bd p s m ([Value.ref (ad 35), Value.int a1] : List Value).toArray c cX7_four 3 RX7 D cy := ⟨B0.exec, B0.bytes, hml, findClass_of_methodNamed B0.named, fun w hw => hts w (List.mem_cons_of_mem _ hw), hK, hN⟩
  have hx := B0.exec
  have hb := B0.bytes
  have hO : AdOk ad (AW ad) := hI.self
  have hH : Hd D (AW ad) (Wd ad cy x y) s s.heap [] := ⟨hP, va_S.rf⟩
  have hl := lv_entry ([.ref (ad 35), .int a1]) (n := 3) (Nat.le_of_ble_eq_true rfl)
  rw [lg_entry_eq]
  generalize (lg_sl ([.ref (ad 35), .int a1]) ++ List.replicate (3 - (lg_sl ([.ref (ad 35), .int a1])).length) Slot.unset).toArray = ls at hl ⊢
  have hl : lv_has ls 3 [(0, .ref (ad 35)), (1, .int a1)] := hl
  unfold wX7_four at h
  refine lv_bipush (v := 24) hx hb dX7_four_0 (by decide) ?_
  refine lv_istore_n (lv' := [(2, .int 24), (0, .ref (ad 35)), (1, .int a1)]) hx hb dX7_four_2 rfl hl (by decide) rfl (fun ls hl => ?_)
  obtain ⟨n_3, h⟩ := h
  have loop_3 : ∀ (n_3 : Nat) (v2_3 : Int32) (y_3 : ST) (H : Heap) (locs : List Loc) (ls : Array Slot), Hd D (AW ad) (Wd ad cy x y_3) s H locs → lv_has ls 3 [(0, .ref (ad 35)), (1, .int a1), (2, .int v2_3)] → it (fun (_ : Int32) (_ : ST) => False) (FX7_four_3 a1 K) n_3 v2_3 y_3 → W p l e (headSpec (Cond.code yX7_four cX7_four 3 none :: WL) ({ frames := 0, cells := 0, slots := 0, locals := 0 } : Room)).room s m ([Value.ref (ad 35), Value.int a1] : List Value).toArray below meth c H locs 0 0 (MQ below (va_Qv K (QW D (fun z => Wd ad cy x z)) (AW ad)) ([Value.ref (ad 35), Value.int a1] : List Value).toArray s 0 0 (AW ad)) (F0 m 3 ls []) := by
    intro n_3
    induction n_3 with
    | zero => intro v2_3 y_3 H locs ls hH hl h; exact False.elim h
    | succ n_3 ih3 =>
      intro v2_3 y_3 H locs ls hH hl h
      refine lv_iload_n hx hb dX7_four_3 rfl (lv_at hl 2 rfl) ?_
      refine lv_if_lt (tgt := 39) hx hb dX7_four_4 (by decide) (fun c3_1 => ?_) (fun c3_1 => ?_)
      · replace h := h.1 c3_1
        exact xret_v hx hb hr hlocks hH h dX7_four_39
      · replace h := h.2 c3_1
        refine lv_aload_n hx hb dX7_four_7 rfl (lv_at hl 0 rfl) ?_
        refine gr_46 B hH wk3_63 dX7_four_8 ?_
        refine lv_aload_n hx hb dX7_four_11 rfl (lv_at hl 0 rfl) ?_
        refine gf_27 B hH wk3_64 dX7_four_12 ?_
        refine lv_iload_n hx hb dX7_four_15 rfl (lv_at hl 1 rfl) ?_
        refine lv_iload_n hx hb dX7_four_16 rfl (lv_at hl 2 rfl) ?_
        refine lv_ishr hx hb dX7_four_17 ?_
        refine lv_sipush (v := 255) hx hb dX7_four_18 (by decide) ?_
        refine lv_iand hx hb dX7_four_21 ?_
        obtain ⟨b3_2, h⟩ := h
        refine ast_46 B hH hO b3_2 dX7_four_22 (fun y3_3 e3_3 H locs hH => ?_)
        replace h := h y3_3 e3_3
        refine lv_aload_n hx hb dX7_four_23 rfl (lv_at hl 0 rfl) ?_
        refine lv_dup hx hb dX7_four_24 rfl ?_
        refine gf_27 B hH wk3_64 dX7_four_25 ?_
        refine lv_iconst (v := 1) hx hb dX7_four_28 (by decide) ?_
        refine lv_iadd hx hb dX7_four_29 ?_
        refine pf_27 B hH hO wk3_64 dX7_four_30 (fun y3_4 e3_4 H locs hH => ?_)
        replace h := h y3_4 e3_4
        obtain ⟨v2_3_5, e3_5⟩ : ∃ z : Int32, z = v2_3 + (-8) := ⟨_, rfl⟩
        replace h := h v2_3_5 e3_5
        refine lv_iinc (v := v2_3_5) (lv' := [(2, .int v2_3_5), (0, .ref (ad 35)), (1, .int a1)]) hx hb dX7_four_33 hl (k := 2) rfl (by rw [e3_5]; first | rfl | done) (by decide) rfl (fun ls hl => ?_)
        refine lv_goto (tgt := 3) hx hb dX7_four_36 (by decide) ?_
        exact ih3 v2_3_5 y3_4 _ _ _ hH (lv_sub hl [1, 2, 0] rfl) h
  exact loop_3 n_3 24 y _ _ _ hH (lv_sub hl [1, 2, 0] rfl) h
set_option maxHeartbeats 4000000 in
set_option maxRecDepth 100000 in
theorem kX7_feed (l : Launch) {D : va_G} {cy : Nat → ClassId} {ad : Nat → Nat} (hI : AdI ad) (a1 : Int32) (a2 : Int32) (a3 : Int32) (a4 : Int32) (a5 : Int32) (K : Int32 → ST → Prop) (x y : ST) (h : wX7_feed a1 a2 a3 a4 a5 K y) : Met l yX7_feed (Cond.code yX7_feed cX7_feed 6 (some .int) :: WL) ({ frames := 1, cells := 0, slots := 0, locals := 22 } : Room) (va_Pc [.ref (ad 35), .int a1, .int a2, .int a3, .int a4, .int a5] (PW D cy ad x y)) (va_Qi K (QW D (fun z => Wd ad cy x z)) (AW ad)) 0 0 (AW ad) := by
  refine Met.ofW (cc := cX7_feed) (maxL := 6) (ret := (some .int)) (by decide) rfl ?_
  intro p e s m args below meth c s₁ B0 hml hv
  obtain ⟨rfl, hP, hK, hN⟩ := hv
  have hr := B0.returns
  have hlocks := B0.notSynchronized
  have hts := atoms_spec (ws := (Cond.code yX7_feed cX7_feed 6 (some .int) :: WL)) B0.pre
  have B : Bd p s m ([Value.ref (ad 35), Value.int a1, Value.int a2, Value.int a3, Value.int a4, Value.int a5] : List Value).toArray c cX7_feed 6 RX7 D cy := ⟨B0.exec, B0.bytes, hml, findClass_of_methodNamed B0.named, fun w hw => hts w (List.mem_cons_of_mem _ hw), hK, hN⟩
  have hx := B0.exec
  have hb := B0.bytes
  have hO : AdOk ad (AW ad) := hI.self
  have hH : Hd D (AW ad) (Wd ad cy x y) s s.heap [] := ⟨hP, va_S.rf⟩
  have hl := lv_entry ([.ref (ad 35), .int a1, .int a2, .int a3, .int a4, .int a5]) (n := 6) (Nat.le_of_ble_eq_true rfl)
  rw [lg_entry_eq]
  generalize (lg_sl ([.ref (ad 35), .int a1, .int a2, .int a3, .int a4, .int a5]) ++ List.replicate (6 - (lg_sl ([.ref (ad 35), .int a1, .int a2, .int a3, .int a4, .int a5])).length) Slot.unset).toArray = ls at hl ⊢
  have hl : lv_has ls 6 [(0, .ref (ad 35)), (1, .int a1), (2, .int a2), (3, .int a3), (4, .int a4), (5, .int a5)] := hl
  unfold wX7_feed at h
  refine lv_aload_n hx hb dX7_feed_0 rfl (lv_at hl 0 rfl) ?_
  refine gf_27 B hH wk3_64 dX7_feed_1 ?_
  refine lv_bipush (v := 20) hx hb dX7_feed_4 (by decide) ?_
  refine lv_iadd hx hb dX7_feed_6 ?_
  refine lv_bipush (v := 20) hx hb dX7_feed_7 (by decide) ?_
  refine lv_icmp_le (tgt := 14) hx hb dX7_feed_9 (by decide) (fun c1 => ?_) (fun c1 => ?_)
  · replace h := h.1 c1
    refine lv_aload_n hx hb dX7_feed_14 rfl (lv_at hl 0 rfl) ?_
    refine lv_iload_n hx hb dX7_feed_15 rfl (lv_at hl 1 rfl) ?_
    refine xVv (Wf := (fun z => Wd ad cy x z)) (n := 1) (P := 35) (ci := 7) (As := [.int a1]) (rest := []) B hH hO (kX7_four l hO.1 a1 _ x y h) rfl rfl wk3_173 wk3_175 wkp_12 wk1_8 wk3_176 (by decide +kernel) rfl ⟨rfl, rfl⟩ ⟨Nat.le_of_ble_eq_true rfl, Nat.le_of_ble_eq_true rfl⟩ ⟨Nat.zero_le _, Nat.zero_le _⟩ hl.1 rfl (Nat.le_of_ble_eq_true rfl) dX7_feed_16 (fun y2 H locs h hH => ?_)
    replace hH : Hd D (AW ad) (Wd ad cy x y2) s H locs := hH
    refine lv_aload_n hx hb dX7_feed_19 rfl (lv_at hl 0 rfl) ?_
    refine lv_iload_n hx hb dX7_feed_20 rfl (lv_at hl 2 rfl) ?_
    refine xVv (Wf := (fun z => Wd ad cy x z)) (n := 1) (P := 35) (ci := 7) (As := [.int a2]) (rest := []) B hH hO (kX7_four l hO.1 a2 _ x y2 h) rfl rfl wk3_173 wk3_175 wkp_12 wk1_8 wk3_176 (by decide +kernel) rfl ⟨rfl, rfl⟩ ⟨Nat.le_of_ble_eq_true rfl, Nat.le_of_ble_eq_true rfl⟩ ⟨Nat.zero_le _, Nat.zero_le _⟩ hl.1 rfl (Nat.le_of_ble_eq_true rfl) dX7_feed_21 (fun y3 H locs h hH => ?_)
    replace hH : Hd D (AW ad) (Wd ad cy x y3) s H locs := hH
    refine lv_aload_n hx hb dX7_feed_24 rfl (lv_at hl 0 rfl) ?_
    refine lv_iload_n hx hb dX7_feed_25 rfl (lv_at hl 3 rfl) ?_
    refine xVv (Wf := (fun z => Wd ad cy x z)) (n := 1) (P := 35) (ci := 7) (As := [.int a3]) (rest := []) B hH hO (kX7_four l hO.1 a3 _ x y3 h) rfl rfl wk3_173 wk3_175 wkp_12 wk1_8 wk3_176 (by decide +kernel) rfl ⟨rfl, rfl⟩ ⟨Nat.le_of_ble_eq_true rfl, Nat.le_of_ble_eq_true rfl⟩ ⟨Nat.zero_le _, Nat.zero_le _⟩ hl.1 rfl (Nat.le_of_ble_eq_true rfl) dX7_feed_26 (fun y4 H locs h hH => ?_)
    replace hH : Hd D (AW ad) (Wd ad cy x y4) s H locs := hH
    refine lv_aload_n hx hb dX7_feed_29 rfl (lv_at hl 0 rfl) ?_
    refine lv_iload hx hb dX7_feed_30 (lv_at hl 4 rfl) ?_
    refine xVv (Wf := (fun z => Wd ad cy x z)) (n := 1) (P := 35) (ci := 7) (As := [.int a4]) (rest := []) B hH hO (kX7_four l hO.1 a4 _ x y4 h) rfl rfl wk3_173 wk3_175 wkp_12 wk1_8 wk3_176 (by decide +kernel) rfl ⟨rfl, rfl⟩ ⟨Nat.le_of_ble_eq_true rfl, Nat.le_of_ble_eq_true rfl⟩ ⟨Nat.zero_le _, Nat.zero_le _⟩ hl.1 rfl (Nat.le_of_ble_eq_true rfl) dX7_feed_32 (fun y5 H locs h hH => ?_)
    replace hH : Hd D (AW ad) (Wd ad cy x y5) s H locs := hH
    refine lv_aload_n hx hb dX7_feed_35 rfl (lv_at hl 0 rfl) ?_
    refine lv_iload hx hb dX7_feed_36 (lv_at hl 5 rfl) ?_
    refine xVv (Wf := (fun z => Wd ad cy x z)) (n := 1) (P := 35) (ci := 7) (As := [.int a5]) (rest := []) B hH hO (kX7_four l hO.1 a5 _ x y5 h) rfl rfl wk3_173 wk3_175 wkp_12 wk1_8 wk3_176 (by decide +kernel) rfl ⟨rfl, rfl⟩ ⟨Nat.le_of_ble_eq_true rfl, Nat.le_of_ble_eq_true rfl⟩ ⟨Nat.zero_le _, Nat.zero_le _⟩ hl.1 rfl (Nat.le_of_ble_eq_true rfl) dX7_feed_38 (fun y6 H locs h hH => ?_)
    replace hH : Hd D (AW ad) (Wd ad cy x y6) s H locs := hH
    refine lv_aload_n hx hb dX7_feed_41 rfl (lv_at hl 0 rfl) ?_
    refine gf_27 B hH wk3_64 dX7_feed_42 ?_
    exact xret_i hx hb hr hlocks hH h dX7_feed_45
  · replace h := h.2 c1
    refine lv_iconst (v := (-1)) hx hb dX7_feed_12 (by decide) ?_
    exact xret_i hx hb hr hlocks hH h dX7_feed_13
set_option maxHeartbeats 4000000 in
set_option maxRecDepth 100000 in
theorem kX7_end (l : Launch) {D : va_G} {cy : Nat → ClassId} {ad : Nat → Nat} (hI : AdI ad) (a1 : Int32) (K : Int32 → ST → Prop) (x y : ST) (h : wX7_end a1 K y) : Met l yX7_end (Cond.code yX7_end cX7_end 2 (some .int) :: WL) ({ frames := 1, cells := 0, slots := 0, locals := 22 } : Room) (va_Pc [.ref (ad 35), .int a1] (PW D cy ad x y)) (va_Qi K (QW D (fun z => Wd ad cy x z)) (AW ad)) 0 0 (AW ad) := by
  refine Met.ofW (cc := cX7_end) (maxL := 2) (ret := (some .int)) (by decide) rfl ?_
  intro p e s m args below meth c s₁ B0 hml hv
  obtain ⟨rfl, hP, hK, hN⟩ := hv
  have hr := B0.returns
  have hlocks := B0.notSynchronized
  have hts := atoms_spec (ws := (Cond.code yX7_end cX7_end 2 (some .int) :: WL)) B0.pre
  have B : Bd p s m ([Value.ref (ad 35), Value.int a1] : List Value).toArray c cX7_end 2 RX7 D cy := ⟨B0.exec, B0.bytes, hml, findClass_of_methodNamed B0.named, fun w hw => hts w (List.mem_cons_of_mem _ hw), hK, hN⟩
  have hx := B0.exec
  have hb := B0.bytes
  have hO : AdOk ad (AW ad) := hI.self
  have hH : Hd D (AW ad) (Wd ad cy x y) s s.heap [] := ⟨hP, va_S.rf⟩
  have hl := lv_entry ([.ref (ad 35), .int a1]) (n := 2) (Nat.le_of_ble_eq_true rfl)
  rw [lg_entry_eq]
  generalize (lg_sl ([.ref (ad 35), .int a1]) ++ List.replicate (2 - (lg_sl ([.ref (ad 35), .int a1])).length) Slot.unset).toArray = ls at hl ⊢
  have hl : lv_has ls 2 [(0, .ref (ad 35)), (1, .int a1)] := hl
  unfold wX7_end at h
  refine lv_iload_n hx hb dX7_end_0 rfl (lv_at hl 1 rfl) ?_
  refine lv_iconst (v := 0) hx hb dX7_end_1 (by decide) ?_
  refine lv_aload_n hx hb dX7_end_2 rfl (lv_at hl 0 rfl) ?_
  refine gf_27 B hH wk3_64 dX7_end_3 ?_
  refine xSi (Wf := (fun z => Wd ad cy x z)) (n := 3) (As := [.int a1, .int 0, .int (gI y 27)]) (rest := []) B hH hO (kX7_isIn l hO.1 a1 0 (gI y 27) _ x y h) wk3_181 wk3_182 wk1_8 wk3_183 (by decide +kernel) rfl ⟨rfl, rfl⟩ ⟨Nat.le_of_ble_eq_true rfl, Nat.le_of_ble_eq_true rfl⟩ ⟨Nat.zero_le _, Nat.zero_le _⟩ hl.1 rfl (Nat.le_of_ble_eq_true rfl) dX7_end_6 (fun r1 y1 H locs h hH => ?_)
  obtain ⟨h, hz1⟩ := h
  replace hH : Hd D (AW ad) (Wd ad cy x y1) s H locs := hH
  refine lv_if_ne (tgt := 14) hx hb dX7_end_9 (by decide) (fun c2 => ?_) (fun c2 => ?_)
  · replace h := h.1 c2
    refine lv_aload_n hx hb dX7_end_14 rfl (lv_at hl 0 rfl) ?_
    refine lv_iload_n hx hb dX7_end_15 rfl (lv_at hl 1 rfl) ?_
    refine pf_27 B hH hO wk3_64 dX7_end_16 (fun y3 e3 H locs hH => ?_)
    replace h := h y3 e3
    refine lv_iload_n hx hb dX7_end_19 rfl (lv_at hl 1 rfl) ?_
    exact xret_i hx hb hr hlocks hH h dX7_end_20
  · replace h := h.2 c2
    refine lv_iconst (v := (-1)) hx hb dX7_end_12 (by decide) ?_
    exact xret_i hx hb hr hlocks hH h dX7_end_13
set_option maxHeartbeats 4000000 in
set_option maxRecDepth 100000 in
theorem kX7_see (l : Launch) {D : va_G} {cy : Nat → ClassId} {ad : Nat → Nat} (hI : AdI ad) (a1 : Int32) (K : Int32 → ST → Prop) (x y : ST) (h : wX7_see a1 K y) : Met l yX7_see (Cond.code yX7_see cX7_see 2 (some .int) :: WL) ({ frames := 0, cells := 0, slots := 0, locals := 0 } : Room) (va_Pc [.ref (ad 35), .int a1] (PW D cy ad x y)) (va_Qi K (QW D (fun z => Wd ad cy x z)) (AW ad)) 0 0 (AW ad) := by
  refine Met.ofW (cc := cX7_see) (maxL := 2) (ret := (some .int)) (by decide) rfl ?_
  intro p e s m args below meth c s₁ B0 hml hv
  obtain ⟨rfl, hP, hK, hN⟩ := hv
  have hr := B0.returns
  have hlocks := B0.notSynchronized
  have hts := atoms_spec (ws := (Cond.code yX7_see cX7_see 2 (some .int) :: WL)) B0.pre
  have B : Bd p s m ([Value.ref (ad 35), Value.int a1] : List Value).toArray c cX7_see 2 RX7 D cy := ⟨B0.exec, B0.bytes, hml, findClass_of_methodNamed B0.named, fun w hw => hts w (List.mem_cons_of_mem _ hw), hK, hN⟩
  have hx := B0.exec
  have hb := B0.bytes
  have hO : AdOk ad (AW ad) := hI.self
  have hH : Hd D (AW ad) (Wd ad cy x y) s s.heap [] := ⟨hP, va_S.rf⟩
  have hl := lv_entry ([.ref (ad 35), .int a1]) (n := 2) (Nat.le_of_ble_eq_true rfl)
  rw [lg_entry_eq]
  generalize (lg_sl ([.ref (ad 35), .int a1]) ++ List.replicate (2 - (lg_sl ([.ref (ad 35), .int a1])).length) Slot.unset).toArray = ls at hl ⊢
  have hl : lv_has ls 2 [(0, .ref (ad 35)), (1, .int a1)] := hl
  unfold wX7_see at h
  refine lv_iload_n hx hb dX7_see_0 rfl (lv_at hl 1 rfl) ?_
  refine lv_aload_n hx hb dX7_see_1 rfl (lv_at hl 0 rfl) ?_
  refine gf_27 B hH wk3_64 dX7_see_2 ?_
  refine lv_icmp_ge (tgt := 17) hx hb dX7_see_5 (by decide) (fun c1 => ?_) (fun c1 => ?_)
  · replace h := h.1 c1
    refine lv_iconst (v := (-1)) hx hb dX7_see_17 (by decide) ?_
    exact xret_i hx hb hr hlocks hH h dX7_see_18
  · replace h := h.2 c1
    refine lv_aload_n hx hb dX7_see_8 rfl (lv_at hl 0 rfl) ?_
    refine gr_46 B hH wk3_63 dX7_see_9 ?_
    refine lv_iload_n hx hb dX7_see_12 rfl (lv_at hl 1 rfl) ?_
    obtain ⟨b2, h⟩ := h
    refine ald_46 B hH b2 dX7_see_13 ?_
    refine lv_goto (tgt := 18) hx hb dX7_see_14 (by decide) ?_
    exact xret_i hx hb hr hlocks hH h dX7_see_18
set_option maxHeartbeats 4000000 in
set_option maxRecDepth 100000 in
theorem kX7_digitsHere (l : Launch) {D : va_G} {cy : Nat → ClassId} {ad : Nat → Nat} (hI : AdI ad) (K : Int32 → ST → Prop) (x y : ST) (h : wX7_digitsHere K y) : Met l yX7_digitsHere (Cond.code yX7_digitsHere cX7_digitsHere 3 (some .int) :: WL) ({ frames := 1, cells := 0, slots := 0, locals := 22 } : Room) (va_Pc [.ref (ad 35)] (PW D cy ad x y)) (va_Qi K (QW D (fun z => Wd ad cy x z)) (AW ad)) 0 0 (AW ad) := by
  refine Met.ofW (cc := cX7_digitsHere) (maxL := 3) (ret := (some .int)) (by decide) rfl ?_
  intro p e s m args below meth c s₁ B0 hml hv
  obtain ⟨rfl, hP, hK, hN⟩ := hv
  have hr := B0.returns
  have hlocks := B0.notSynchronized
  have hts := atoms_spec (ws := (Cond.code yX7_digitsHere cX7_digitsHere 3 (some .int) :: WL)) B0.pre
  have B : Bd p s m ([Value.ref (ad 35)] : List Value).toArray c cX7_digitsHere 3 RX7 D cy := ⟨B0.exec, B0.bytes, hml, findClass_of_methodNamed B0.named, fun w hw => hts w (List.mem_cons_of_mem _ hw), hK, hN⟩
  have hx := B0.exec
  have hb := B0.bytes
  have hO : AdOk ad (AW ad) := hI.self
  have hH : Hd D (AW ad) (Wd ad cy x y) s s.heap [] := ⟨hP, va_S.rf⟩
  have hl := lv_entry ([.ref (ad 35)]) (n := 3) (Nat.le_of_ble_eq_true rfl)
  rw [lg_entry_eq]
  generalize (lg_sl ([.ref (ad 35)]) ++ List.replicate (3 - (lg_sl ([.ref (ad 35)])).length) Slot.unset).toArray = ls at hl ⊢
  have hl : lv_has ls 3 [(0, .ref (ad 35))] := hl
  unfold wX7_digitsHere at h
  refine lv_iconst (v := 0) hx hb dX7_digitsHere_0 (by decide) ?_
  refine lv_istore_n (lv' := [(1, .int 0), (0, .ref (ad 35))]) hx hb dX7_digitsHere_1 rfl hl (by decide) rfl (fun ls hl => ?_)
  refine lv_aload_n hx hb dX7_digitsHere_2 rfl (lv_at hl 1 rfl) ?_
  refine gf_29 B hH wk3_66 dX7_digitsHere_3 ?_
  refine lv_topi (fun v2_1 e1 => ?_)
  replace h := h v2_1 e1
  refine lv_istore_n (lv' := [(2, .int v2_1), (1, .int 0), (0, .ref (ad 35))]) hx hb dX7_digitsHere_6 rfl hl (by decide) rfl (fun ls hl => ?_)
  obtain ⟨n_7, h⟩ := h
  have loop_7 : ∀ (f2_7 : Int32) (n_7 : Nat) (v1_7 : Int32) (y_7 : ST) (H : Heap) (locs : List Loc) (ls : Array Slot), Hd D (AW ad) (Wd ad cy x y_7) s H locs → lv_has ls 3 [(0, .ref (ad 35)), (2, .int f2_7), (1, .int v1_7)] → it (fun (_ : Int32) (_ : ST) => False) (FX7_digitsHere_7 K f2_7) n_7 v1_7 y_7 → W p l e (headSpec (Cond.code yX7_digitsHere cX7_digitsHere 3 (some .int) :: WL) ({ frames := 1, cells := 0, slots := 0, locals := 22 } : Room)).room s m ([Value.ref (ad 35)] : List Value).toArray below meth c H locs 0 0 (MQ below (va_Qi K (QW D (fun z => Wd ad cy x z)) (AW ad)) ([Value.ref (ad 35)] : List Value).toArray s 0 0 (AW ad)) (F0 m 7 ls []) := by
    intro f2_7 n_7
    induction n_7 with
    | zero => intro v1_7 y_7 H locs ls hH hl h; exact False.elim h
    | succ n_7 ih7 =>
      intro v1_7 y_7 H locs ls hH hl h
      refine lv_aload_n hx hb dX7_digitsHere_7 rfl (lv_at hl 0 rfl) ?_
      refine gf_29 B hH wk3_66 dX7_digitsHere_8 ?_
      refine lv_iload_n hx hb dX7_digitsHere_11 rfl (lv_at hl 1 rfl) ?_
      refine lv_iconst (v := 4) hx hb dX7_digitsHere_12 (by decide) ?_
      refine lv_iadd hx hb dX7_digitsHere_13 ?_
      refine lv_icmp_ge (tgt := 65) hx hb dX7_digitsHere_14 (by decide) (fun c7_1 => ?_) (fun c7_1 => ?_)
      · replace h := h.1 c7_1
        refine lv_iload_n hx hb dX7_digitsHere_65 rfl (lv_at hl 2 rfl) ?_
        exact xret_i hx hb hr hlocks hH h dX7_digitsHere_66
      · replace h := h.2 c7_1
        refine lv_aload_n hx hb dX7_digitsHere_17 rfl (lv_at hl 0 rfl) ?_
        refine lv_aload_n hx hb dX7_digitsHere_18 rfl (lv_at hl 0 rfl) ?_
        refine gf_29 B hH wk3_66 dX7_digitsHere_19 ?_
        refine xVi (Wf := (fun z => Wd ad cy x z)) (n := 1) (P := 35) (ci := 7) (As := [.int (gI y_7 29)]) (rest := []) B hH hO (kX7_see l hO.1 (gI y_7 29) _ x y_7 h) rfl rfl wk3_196 wk3_198 wkp_15 wk1_8 wk3_199 (by decide +kernel) rfl ⟨rfl, rfl⟩ ⟨Nat.le_of_ble_eq_true rfl, Nat.le_of_ble_eq_true rfl⟩ ⟨Nat.zero_le _, Nat.zero_le _⟩ hl.1 rfl (Nat.le_of_ble_eq_true rfl) dX7_digitsHere_22 (fun r7_2 y7_2 H locs h hH => ?_)
        replace hH : Hd D (AW ad) (Wd ad cy x y7_2) s H locs := hH
        refine lv_bipush (v := 48) hx hb dX7_digitsHere_25 (by decide) ?_
        refine lv_bipush (v := 57) hx hb dX7_digitsHere_27 (by decide) ?_
        refine xSi (Wf := (fun z => Wd ad cy x z)) (n := 3) (As := [.int r7_2, .int 48, .int 57]) (rest := []) B hH hO (kX7_isIn l hO.1 r7_2 48 57 _ x y7_2 h) wk3_181 wk3_182 wk1_8 wk3_183 (by decide +kernel) rfl ⟨rfl, rfl⟩ ⟨Nat.le_of_ble_eq_true rfl, Nat.le_of_ble_eq_true rfl⟩ ⟨Nat.zero_le _, Nat.zero_le _⟩ hl.1 rfl (Nat.le_of_ble_eq_true rfl) dX7_digitsHere_29 (fun r7_3 y7_3 H locs h hH => ?_)
        obtain ⟨h, hz7_3⟩ := h
        replace hH : Hd D (AW ad) (Wd ad cy x y7_3) s H locs := hH
        refine lv_if_eq (tgt := 65) hx hb dX7_digitsHere_32 (by decide) (fun c7_4 => ?_) (fun c7_4 => ?_)
        · replace h := h.1 c7_4
          refine lv_iload_n hx hb dX7_digitsHere_65 rfl (lv_at hl 2 rfl) ?_
          exact xret_i hx hb hr hlocks hH h dX7_digitsHere_66
        · replace h := h.2 c7_4
          refine lv_bipush (v := 10) hx hb dX7_digitsHere_35 (by decide) ?_
          refine lv_iload_n hx hb dX7_digitsHere_37 rfl (lv_at hl 2 rfl) ?_
          refine lv_imul hx hb dX7_digitsHere_38 ?_
          refine lv_aload_n hx hb dX7_digitsHere_39 rfl (lv_at hl 0 rfl) ?_
          refine lv_aload_n hx hb dX7_digitsHere_40 rfl (lv_at hl 0 rfl) ?_
          refine gf_29 B hH wk3_66 dX7_digitsHere_41 ?_
          refine xVi (Wf := (fun z => Wd ad cy x z)) (n := 1) (P := 35) (ci := 7) (As := [.int (gI y7_3 29)]) (rest := [.int ((10 * v1_7))]) B hH hO (kX7_see l hO.1 (gI y7_3 29) _ x y7_3 h) rfl rfl wk3_196 wk3_198 wkp_15 wk1_8 wk3_199 (by decide +kernel) rfl ⟨rfl, rfl⟩ ⟨Nat.le_of_ble_eq_true rfl, Nat.le_of_ble_eq_true rfl⟩ ⟨Nat.zero_le _, Nat.zero_le _⟩ hl.1 rfl (Nat.le_of_ble_eq_true rfl) dX7_digitsHere_44 (fun r7_5 y7_5 H locs h hH => ?_)
          replace hH : Hd D (AW ad) (Wd ad cy x y7_5) s H locs := hH
          refine lv_iadd hx hb dX7_digitsHere_47 ?_
          refine lv_bipush (v := 48) hx hb dX7_digitsHere_48 (by decide) ?_
          refine lv_isub hx hb dX7_digitsHere_50 ?_
          refine lv_topi (fun v1_7_6 e7_6 => ?_)
          replace h := h v1_7_6 e7_6
          refine lv_istore_n (lv' := [(1, .int v1_7_6), (0, .ref (ad 35)), (2, .int f2_7)]) hx hb dX7_digitsHere_51 rfl hl (by decide) rfl (fun ls hl => ?_)
          refine lv_aload_n hx hb dX7_digitsHere_52 rfl (lv_at hl 1 rfl) ?_
          refine lv_dup hx hb dX7_digitsHere_53 rfl ?_
          refine gf_29 B hH wk3_66 dX7_digitsHere_54 ?_
          refine lv_iconst (v := 1) hx hb dX7_digitsHere_57 (by decide) ?_
          refine lv_iadd hx hb dX7_digitsHere_58 ?_
          refine pf_29 B hH hO wk3_66 dX7_digitsHere_59 (fun y7_7 e7_7 H locs hH => ?_)
          replace h := h y7_7 e7_7
          refine lv_goto (tgt := 7) hx hb dX7_digitsHere_62 (by decide) ?_
          exact ih7 v1_7_6 y7_7 _ _ _ hH (lv_sub hl [1, 2, 0] rfl) h
  exact loop_7 v2_1 n_7 0 y _ _ _ hH (lv_sub hl [2, 0, 1] rfl) h
set_option maxHeartbeats 4000000 in
set_option maxRecDepth 100000 in
theorem kX7_isMark (l : Launch) {D : va_G} {cy : Nat → ClassId} {ad : Nat → Nat} (hI : AdI ad) (a1 : Int32) (K : Int32 → ST → Prop) (x y : ST) (h : wX7_isMark a1 K y) : Met l yX7_isMark (Cond.code yX7_isMark cX7_isMark 5 (some .boolean) :: WL) ({ frames := 2, cells := 0, slots := 0, locals := 44 } : Room) (va_Pc [.ref (ad 35), .int a1] (PW D cy ad x y)) (va_Qi (fun r z => K r z ∧ (r = 0 ∨ r = 1)) (QW D (fun z => Wd ad cy x z)) (AW ad)) 0 0 (AW ad) := by
  refine Met.ofW (cc := cX7_isMark) (maxL := 5) (ret := (some .boolean)) (by decide) rfl ?_
  intro p e s m args below meth c s₁ B0 hml hv
  obtain ⟨rfl, hP, hK, hN⟩ := hv
  have hr := B0.returns
  have hlocks := B0.notSynchronized
  have hts := atoms_spec (ws := (Cond.code yX7_isMark cX7_isMark 5 (some .boolean) :: WL)) B0.pre
  have B : Bd p s m ([Value.ref (ad 35), Value.int a1] : List Value).toArray c cX7_isMark 5 RX7 D cy := ⟨B0.exec, B0.bytes, hml, findClass_of_methodNamed B0.named, fun w hw => hts w (List.mem_cons_of_mem _ hw), hK, hN⟩
  have hx := B0.exec
  have hb := B0.bytes
  have hO : AdOk ad (AW ad) := hI.self
  have hH : Hd D (AW ad) (Wd ad cy x y) s s.heap [] := ⟨hP, va_S.rf⟩
  have hl := lv_entry ([.ref (ad 35), .int a1]) (n := 5) (Nat.le_of_ble_eq_true rfl)
  rw [lg_entry_eq]
  generalize (lg_sl ([.ref (ad 35), .int a1]) ++ List.replicate (5 - (lg_sl ([.ref (ad 35), .int a1])).length) Slot.unset).toArray = ls at hl ⊢
  have hl : lv_has ls 5 [(0, .ref (ad 35)), (1, .int a1)] := hl
  unfold wX7_isMark at h
  refine lv_aload_n hx hb dX7_isMark_0 rfl (lv_at hl 0 rfl) ?_
  refine lv_iconst (v := 0) hx hb dX7_isMark_1 (by decide) ?_
  refine pf_29 B hH hO wk3_66 dX7_isMark_2 (fun y1 e1 H locs hH => ?_)
  replace h := h y1 e1
  refine lv_aload_n hx hb dX7_isMark_5 rfl (lv_at hl 0 rfl) ?_
  refine gr_36 B hH wk3_52 dX7_isMark_6 ?_
  refine lv_iload_n hx hb dX7_isMark_9 rfl (lv_at hl 1 rfl) ?_
  refine lv_aload_n hx hb dX7_isMark_10 rfl (lv_at hl 0 rfl) ?_
  refine xVi (Wf := (fun z => Wd ad cy x z)) (n := 0) (P := 35) (ci := 7) (As := []) (rest := [.int a1, .ref (ad 36)]) B hH hO (kX7_digitsHere l hO.1 _ x y1 h) rfl rfl wk3_192 wk3_194 wkp_14 wk1_8 wk3_195 (by decide +kernel) rfl ⟨rfl, rfl⟩ ⟨Nat.le_of_ble_eq_true rfl, Nat.le_of_ble_eq_true rfl⟩ ⟨Nat.zero_le _, Nat.zero_le _⟩ hl.1 rfl (Nat.le_of_ble_eq_true rfl) dX7_isMark_11 (fun r2 y2 H locs h hH => ?_)
  replace hH : Hd D (AW ad) (Wd ad cy x y2) s H locs := hH
  obtain ⟨b3, h⟩ := h
  refine ast_36 B hH hO b3 dX7_isMark_14 (fun y4 e4 H locs hH => ?_)
  replace h := h y4 e4
  refine lv_aload_n hx hb dX7_isMark_15 rfl (lv_at hl 0 rfl) ?_
  refine gf_29 B hH wk3_66 dX7_isMark_16 ?_
  refine lv_if_ne (tgt := 24) hx hb dX7_isMark_19 (by decide) (fun c5 => ?_) (fun c5 => ?_)
  · replace h := h.1 c5
    refine lv_aload_n hx hb dX7_isMark_24 rfl (lv_at hl 0 rfl) ?_
    refine gr_37 B hH wk3_53 dX7_isMark_25 ?_
    refine lv_iload_n hx hb dX7_isMark_28 rfl (lv_at hl 1 rfl) ?_
    refine lv_iconst (v := (-1)) hx hb dX7_isMark_29 (by decide) ?_
    refine ast_37 B hH hO b3 dX7_isMark_30 (fun y6 e6 H locs hH => ?_)
    replace h := h y6 e6
    refine lv_aload_n hx hb dX7_isMark_31 rfl (lv_at hl 0 rfl) ?_
    refine gr_38 B hH wk3_54 dX7_isMark_32 ?_
    refine lv_iload_n hx hb dX7_isMark_35 rfl (lv_at hl 1 rfl) ?_
    refine lv_iconst (v := 0) hx hb dX7_isMark_36 (by decide) ?_
    refine ast_38 B hH hO b3 dX7_isMark_37 (fun y7 e7 H locs hH => ?_)
    replace h := h y7 e7
    refine lv_aload_n hx hb dX7_isMark_38 rfl (lv_at hl 0 rfl) ?_
    refine gr_39 B hH wk3_55 dX7_isMark_39 ?_
    refine lv_iload_n hx hb dX7_isMark_42 rfl (lv_at hl 1 rfl) ?_
    refine lv_iconst (v := 0) hx hb dX7_isMark_43 (by decide) ?_
    refine ast_39 B hH hO b3 dX7_isMark_44 (fun y8 e8 H locs hH => ?_)
    replace h := h y8 e8
    refine lv_aload_n hx hb dX7_isMark_45 rfl (lv_at hl 0 rfl) ?_
    refine lv_aload_n hx hb dX7_isMark_46 rfl (lv_at hl 0 rfl) ?_
    refine gf_29 B hH wk3_66 dX7_isMark_47 ?_
    refine xVi (Wf := (fun z => Wd ad cy x z)) (n := 1) (P := 35) (ci := 7) (As := [.int (gI y8 29)]) (rest := []) B hH hO (kX7_see l hO.1 (gI y8 29) _ x y8 h) rfl rfl wk3_196 wk3_198 wkp_15 wk1_8 wk3_199 (by decide +kernel) rfl ⟨rfl, rfl⟩ ⟨Nat.le_of_ble_eq_true rfl, Nat.le_of_ble_eq_true rfl⟩ ⟨Nat.zero_le _, Nat.zero_le _⟩ hl.1 rfl (Nat.le_of_ble_eq_true rfl) dX7_isMark_50 (fun r9 y9 H locs h hH => ?_)
    replace hH : Hd D (AW ad) (Wd ad cy x y9) s H locs := hH
    refine lv_bipush (v := 46) hx hb dX7_isMark_53 (by decide) ?_
    refine lv_icmp_ne (tgt := 105) hx hb dX7_isMark_55 (by decide) (fun c10 => ?_) (fun c10 => ?_)
    · replace h := h.1 c10
      refine lv_aload_n hx hb dX7_isMark_105 rfl (lv_at hl 0 rfl) ?_
      refine gf_29 B hH wk3_66 dX7_isMark_106 ?_
      refine lv_topi (fun v2_11 e11 => ?_)
      replace h := h v2_11 e11
      refine lv_istore_n (lv' := [(2, .int v2_11), (0, .ref (ad 35)), (1, .int a1)]) hx hb dX7_isMark_109 rfl hl (by decide) rfl (fun ls hl => ?_)
      refine lv_iconst (v := 0) hx hb dX7_isMark_110 (by decide) ?_
      refine lv_istore_n (lv' := [(3, .int 0), (2, .int v2_11), (0, .ref (ad 35)), (1, .int a1)]) hx hb dX7_isMark_111 rfl hl (by decide) rfl (fun ls hl => ?_)
      obtain ⟨n_112, h⟩ := h
      have loop_112 : ∀ (f2_112 : Int32) (n_112 : Nat) (v3_112 : Int32) (y_112 : ST) (H : Heap) (locs : List Loc) (ls : Array Slot), Hd D (AW ad) (Wd ad cy x y_112) s H locs → lv_has ls 5 [(0, .ref (ad 35)), (1, .int a1), (2, .int f2_112), (3, .int v3_112)] → it (fun (_ : Int32) (_ : ST) => False) (FX7_isMark_112 a1 K f2_112) n_112 v3_112 y_112 → W p l e (headSpec (Cond.code yX7_isMark cX7_isMark 5 (some .boolean) :: WL) ({ frames := 2, cells := 0, slots := 0, locals := 44 } : Room)).room s m ([Value.ref (ad 35), Value.int a1] : List Value).toArray below meth c H locs 0 0 (MQ below (va_Qi (fun r z => K r z ∧ (r = 0 ∨ r = 1)) (QW D (fun z => Wd ad cy x z)) (AW ad)) ([Value.ref (ad 35), Value.int a1] : List Value).toArray s 0 0 (AW ad)) (F0 m 112 ls []) := by
        intro f2_112 n_112
        induction n_112 with
        | zero => intro v3_112 y_112 H locs ls hH hl h; exact False.elim h
        | succ n_112 ih112 =>
          intro v3_112 y_112 H locs ls hH hl h
          refine lv_iload_n hx hb dX7_isMark_112 rfl (lv_at hl 3 rfl) ?_
          refine lv_iconst (v := 3) hx hb dX7_isMark_113 (by decide) ?_
          refine lv_icmp_ge (tgt := 211) hx hb dX7_isMark_114 (by decide) (fun c112_1 => ?_) (fun c112_1 => ?_)
          · replace h := h.1 c112_1
            refine lv_aload_n hx hb dX7_isMark_211 rfl (lv_at hl 0 rfl) ?_
            refine gf_29 B hH wk3_66 dX7_isMark_212 ?_
            refine lv_aload_n hx hb dX7_isMark_215 rfl (lv_at hl 0 rfl) ?_
            refine gf_27 B hH wk3_64 dX7_isMark_216 ?_
            refine lv_icmp_ne (tgt := 226) hx hb dX7_isMark_219 (by decide) (fun c112_2 => ?_) (fun c112_2 => ?_)
            · replace h := h.1 c112_2
              refine lv_iconst (v := 0) hx hb dX7_isMark_226 (by decide) ?_
              exact xret_z hx hb hr hlocks hH (Or.inl rfl) h dX7_isMark_227
            · replace h := h.2 c112_2
              refine lv_iconst (v := 1) hx hb dX7_isMark_222 (by decide) ?_
              refine lv_goto (tgt := 227) hx hb dX7_isMark_223 (by decide) ?_
              exact xret_z hx hb hr hlocks hH (Or.inr rfl) h dX7_isMark_227
          · replace h := h.2 c112_1
            refine lv_aload_n hx hb dX7_isMark_117 rfl (lv_at hl 0 rfl) ?_
            refine gf_29 B hH wk3_66 dX7_isMark_118 ?_
            refine lv_iload_n hx hb dX7_isMark_121 rfl (lv_at hl 2 rfl) ?_
            refine lv_iload_n hx hb dX7_isMark_122 rfl (lv_at hl 3 rfl) ?_
            refine lv_iadd hx hb dX7_isMark_123 ?_
            refine lv_icmp_ne (tgt := 149) hx hb dX7_isMark_124 (by decide) (fun c112_3 => ?_) (fun c112_3 => ?_)
            · replace h := h.1 c112_3
              refine lv_iconst (v := 0) hx hb dX7_isMark_149 (by decide) ?_
              refine lv_istore (lv' := [(4, .int 0), (0, .ref (ad 35)), (1, .int a1), (2, .int f2_112), (3, .int v3_112)]) hx hb dX7_isMark_150 hl (by decide) rfl (fun ls hl => ?_)
              refine lv_aload_n hx hb dX7_isMark_152 rfl (lv_at hl 1 rfl) ?_
              refine gr_39 B hH wk3_55 dX7_isMark_153 ?_
              refine lv_iload_n hx hb dX7_isMark_156 rfl (lv_at hl 2 rfl) ?_
              refine lv_bipush (v := 27) hx hb dX7_isMark_157 (by decide) ?_
              refine lv_aload_n hx hb dX7_isMark_159 rfl (lv_at hl 1 rfl) ?_
              refine gr_39 B hH wk3_55 dX7_isMark_160 ?_
              refine lv_iload_n hx hb dX7_isMark_163 rfl (lv_at hl 2 rfl) ?_
              obtain ⟨b112_4, h⟩ := h
              refine ald_39 B hH b112_4 dX7_isMark_164 ?_
              refine lv_imul hx hb dX7_isMark_165 ?_
              refine lv_iload hx hb dX7_isMark_166 (lv_at hl 0 rfl) ?_
              refine lv_if_eq (tgt := 187) hx hb dX7_isMark_168 (by decide) (fun _ => ?_) (fun cq => absurd (by decide) cq)
              refine lv_iconst (v := 0) hx hb dX7_isMark_187 (by decide) ?_
              refine lv_iadd hx hb dX7_isMark_188 ?_
              refine ast_39 B hH hO b112_4 dX7_isMark_189 (fun y112_5 e112_5 H locs hH => ?_)
              replace h := h y112_5 e112_5
              refine lv_iload hx hb dX7_isMark_190 (lv_at hl 0 rfl) ?_
              refine lv_if_eq (tgt := 205) hx hb dX7_isMark_192 (by decide) (fun _ => ?_) (fun cq => absurd (by decide) cq)
              obtain ⟨v3_112_6, e112_6⟩ : ∃ z : Int32, z = v3_112 + 1 := ⟨_, rfl⟩
              replace h := h v3_112_6 e112_6
              refine lv_iinc (v := v3_112_6) (lv' := [(3, .int v3_112_6), (4, .int 0), (0, .ref (ad 35)), (1, .int a1), (2, .int f2_112)]) hx hb dX7_isMark_205 hl (k := 4) rfl (by rw [e112_6]; first | rfl | done) (by decide) rfl (fun ls hl => ?_)
              refine lv_goto (tgt := 112) hx hb dX7_isMark_208 (by decide) ?_
              exact ih112 v3_112_6 y112_5 _ _ _ hH (lv_sub hl [2, 3, 4, 0] rfl) h
            · replace h := h.2 c112_3
              refine lv_aload_n hx hb dX7_isMark_127 rfl (lv_at hl 0 rfl) ?_
              refine lv_aload_n hx hb dX7_isMark_128 rfl (lv_at hl 0 rfl) ?_
              refine gf_29 B hH wk3_66 dX7_isMark_129 ?_
              refine xVi (Wf := (fun z => Wd ad cy x z)) (n := 1) (P := 35) (ci := 7) (As := [.int (gI y_112 29)]) (rest := []) B hH hO (kX7_see l hO.1 (gI y_112 29) _ x y_112 h) rfl rfl wk3_196 wk3_198 wkp_15 wk1_8 wk3_199 (by decide +kernel) rfl ⟨rfl, rfl⟩ ⟨Nat.le_of_ble_eq_true rfl, Nat.le_of_ble_eq_true rfl⟩ ⟨Nat.zero_le _, Nat.zero_le _⟩ hl.1 rfl (Nat.le_of_ble_eq_true rfl) dX7_isMark_132 (fun r112_7 y112_7 H locs h hH => ?_)
              replace hH : Hd D (AW ad) (Wd ad cy x y112_7) s H locs := hH
              refine lv_bipush (v := 97) hx hb dX7_isMark_135 (by decide) ?_
              refine lv_bipush (v := 122) hx hb dX7_isMark_137 (by decide) ?_
              refine xSi (Wf := (fun z => Wd ad cy x z)) (n := 3) (As := [.int r112_7, .int 97, .int 122]) (rest := []) B hH hO (kX7_isIn l hO.1 r112_7 97 122 _ x y112_7 h) wk3_181 wk3_182 wk1_8 wk3_183 (by decide +kernel) rfl ⟨rfl, rfl⟩ ⟨Nat.le_of_ble_eq_true rfl, Nat.le_of_ble_eq_true rfl⟩ ⟨Nat.zero_le _, Nat.zero_le _⟩ hl.1 rfl (Nat.le_of_ble_eq_true rfl) dX7_isMark_139 (fun r112_8 y112_8 H locs h hH => ?_)
              obtain ⟨h, hz112_8⟩ := h
              replace hH : Hd D (AW ad) (Wd ad cy x y112_8) s H locs := hH
              refine lv_if_eq (tgt := 149) hx hb dX7_isMark_142 (by decide) (fun c112_9 => ?_) (fun c112_9 => ?_)
              · replace h := h.1 c112_9
                refine lv_iconst (v := 0) hx hb dX7_isMark_149 (by decide) ?_
                refine lv_istore (lv' := [(4, .int 0), (0, .ref (ad 35)), (1, .int a1), (2, .int f2_112), (3, .int v3_112)]) hx hb dX7_isMark_150 hl (by decide) rfl (fun ls hl => ?_)
                refine lv_aload_n hx hb dX7_isMark_152 rfl (lv_at hl 1 rfl) ?_
                refine gr_39 B hH wk3_55 dX7_isMark_153 ?_
                refine lv_iload_n hx hb dX7_isMark_156 rfl (lv_at hl 2 rfl) ?_
                refine lv_bipush (v := 27) hx hb dX7_isMark_157 (by decide) ?_
                refine lv_aload_n hx hb dX7_isMark_159 rfl (lv_at hl 1 rfl) ?_
                refine gr_39 B hH wk3_55 dX7_isMark_160 ?_
                refine lv_iload_n hx hb dX7_isMark_163 rfl (lv_at hl 2 rfl) ?_
                obtain ⟨b112_10, h⟩ := h
                refine ald_39 B hH b112_10 dX7_isMark_164 ?_
                refine lv_imul hx hb dX7_isMark_165 ?_
                refine lv_iload hx hb dX7_isMark_166 (lv_at hl 0 rfl) ?_
                refine lv_if_eq (tgt := 187) hx hb dX7_isMark_168 (by decide) (fun _ => ?_) (fun cq => absurd (by decide) cq)
                refine lv_iconst (v := 0) hx hb dX7_isMark_187 (by decide) ?_
                refine lv_iadd hx hb dX7_isMark_188 ?_
                refine ast_39 B hH hO b112_10 dX7_isMark_189 (fun y112_11 e112_11 H locs hH => ?_)
                replace h := h y112_11 e112_11
                refine lv_iload hx hb dX7_isMark_190 (lv_at hl 0 rfl) ?_
                refine lv_if_eq (tgt := 205) hx hb dX7_isMark_192 (by decide) (fun _ => ?_) (fun cq => absurd (by decide) cq)
                obtain ⟨v3_112_12, e112_12⟩ : ∃ z : Int32, z = v3_112 + 1 := ⟨_, rfl⟩
                replace h := h v3_112_12 e112_12
                refine lv_iinc (v := v3_112_12) (lv' := [(3, .int v3_112_12), (4, .int 0), (0, .ref (ad 35)), (1, .int a1), (2, .int f2_112)]) hx hb dX7_isMark_205 hl (k := 4) rfl (by rw [e112_12]; first | rfl | done) (by decide) rfl (fun ls hl => ?_)
                refine lv_goto (tgt := 112) hx hb dX7_isMark_208 (by decide) ?_
                exact ih112 v3_112_12 y112_11 _ _ _ hH (lv_sub hl [2, 3, 4, 0] rfl) h
              · replace h := h.2 c112_9
                refine lv_iconst (v := 1) hx hb dX7_isMark_145 (by decide) ?_
                refine lv_goto (tgt := 150) hx hb dX7_isMark_146 (by decide) ?_
                refine lv_istore (lv' := [(4, .int 1), (0, .ref (ad 35)), (1, .int a1), (2, .int f2_112), (3, .int v3_112)]) hx hb dX7_isMark_150 hl (by decide) rfl (fun ls hl => ?_)
                refine lv_aload_n hx hb dX7_isMark_152 rfl (lv_at hl 1 rfl) ?_
                refine gr_39 B hH wk3_55 dX7_isMark_153 ?_
                refine lv_iload_n hx hb dX7_isMark_156 rfl (lv_at hl 2 rfl) ?_
                refine lv_bipush (v := 27) hx hb dX7_isMark_157 (by decide) ?_
                refine lv_aload_n hx hb dX7_isMark_159 rfl (lv_at hl 1 rfl) ?_
                refine gr_39 B hH wk3_55 dX7_isMark_160 ?_
                refine lv_iload_n hx hb dX7_isMark_163 rfl (lv_at hl 2 rfl) ?_
                obtain ⟨b112_13, h⟩ := h
                refine ald_39 B hH b112_13 dX7_isMark_164 ?_
                refine lv_imul hx hb dX7_isMark_165 ?_
                refine lv_iload hx hb dX7_isMark_166 (lv_at hl 0 rfl) ?_
                refine lv_if_eq (tgt := 187) hx hb dX7_isMark_168 (by decide) (fun cq => absurd cq (by decide)) (fun _ => ?_)
                refine lv_aload_n hx hb dX7_isMark_171 rfl (lv_at hl 1 rfl) ?_
                refine lv_aload_n hx hb dX7_isMark_172 rfl (lv_at hl 1 rfl) ?_
                refine gf_29 B hH wk3_66 dX7_isMark_173 ?_
                refine xVi (Wf := (fun z => Wd ad cy x z)) (n := 1) (P := 35) (ci := 7) (As := [.int (gI y112_8 29)]) (rest := [.int ((27 * (gA y112_8 39 a1))), .int a1, .ref (ad 39)]) B hH hO (kX7_see l hO.1 (gI y112_8 29) _ x y112_8 h) rfl rfl wk3_196 wk3_198 wkp_15 wk1_8 wk3_199 (by decide +kernel) rfl ⟨rfl, rfl⟩ ⟨Nat.le_of_ble_eq_true rfl, Nat.le_of_ble_eq_true rfl⟩ ⟨Nat.zero_le _, Nat.zero_le _⟩ hl.1 rfl (Nat.le_of_ble_eq_true rfl) dX7_isMark_176 (fun r112_14 y112_14 H locs h hH => ?_)
                replace hH : Hd D (AW ad) (Wd ad cy x y112_14) s H locs := hH
                refine lv_bipush (v := 97) hx hb dX7_isMark_179 (by decide) ?_
                refine lv_isub hx hb dX7_isMark_181 ?_
                refine lv_iconst (v := 1) hx hb dX7_isMark_182 (by decide) ?_
                refine lv_iadd hx hb dX7_isMark_183 ?_
                refine lv_goto (tgt := 188) hx hb dX7_isMark_184 (by decide) ?_
                refine lv_iadd hx hb dX7_isMark_188 ?_
                refine ast_39 B hH hO b112_13 dX7_isMark_189 (fun y112_15 e112_15 H locs hH => ?_)
                replace h := h y112_15 e112_15
                refine lv_iload hx hb dX7_isMark_190 (lv_at hl 0 rfl) ?_
                refine lv_if_eq (tgt := 205) hx hb dX7_isMark_192 (by decide) (fun cq => absurd cq (by decide)) (fun _ => ?_)
                refine lv_aload_n hx hb dX7_isMark_195 rfl (lv_at hl 1 rfl) ?_
                refine lv_dup hx hb dX7_isMark_196 rfl ?_
                refine gf_29 B hH wk3_66 dX7_isMark_197 ?_
                refine lv_iconst (v := 1) hx hb dX7_isMark_200 (by decide) ?_
                refine lv_iadd hx hb dX7_isMark_201 ?_
                refine pf_29 B hH hO wk3_66 dX7_isMark_202 (fun y112_16 e112_16 H locs hH => ?_)
                replace h := h y112_16 e112_16
                obtain ⟨v3_112_17, e112_17⟩ : ∃ z : Int32, z = v3_112 + 1 := ⟨_, rfl⟩
                replace h := h v3_112_17 e112_17
                refine lv_iinc (v := v3_112_17) (lv' := [(3, .int v3_112_17), (4, .int 1), (0, .ref (ad 35)), (1, .int a1), (2, .int f2_112)]) hx hb dX7_isMark_205 hl (k := 4) rfl (by rw [e112_17]; first | rfl | done) (by decide) rfl (fun ls hl => ?_)
                refine lv_goto (tgt := 112) hx hb dX7_isMark_208 (by decide) ?_
                exact ih112 v3_112_17 y112_16 _ _ _ hH (lv_sub hl [2, 3, 4, 0] rfl) h
      exact loop_112 v2_11 n_112 0 y9 _ _ _ hH (lv_sub hl [2, 3, 1, 0] rfl) h
    · replace h := h.2 c10
      refine lv_aload_n hx hb dX7_isMark_58 rfl (lv_at hl 0 rfl) ?_
      refine lv_dup hx hb dX7_isMark_59 rfl ?_
      refine gf_29 B hH wk3_66 dX7_isMark_60 ?_
      refine lv_iconst (v := 1) hx hb dX7_isMark_63 (by decide) ?_
      refine lv_iadd hx hb dX7_isMark_64 ?_
      refine pf_29 B hH hO wk3_66 dX7_isMark_65 (fun y12 e12 H locs hH => ?_)
      replace h := h y12 e12
      refine lv_aload_n hx hb dX7_isMark_68 rfl (lv_at hl 0 rfl) ?_
      refine gf_29 B hH wk3_66 dX7_isMark_69 ?_
      refine lv_topi (fun v2_13 e13 => ?_)
      replace h := h v2_13 e13
      refine lv_istore_n (lv' := [(2, .int v2_13), (0, .ref (ad 35)), (1, .int a1)]) hx hb dX7_isMark_72 rfl hl (by decide) rfl (fun ls hl => ?_)
      refine lv_aload_n hx hb dX7_isMark_73 rfl (lv_at hl 1 rfl) ?_
      refine gr_37 B hH wk3_53 dX7_isMark_74 ?_
      refine lv_iload_n hx hb dX7_isMark_77 rfl (lv_at hl 2 rfl) ?_
      refine lv_aload_n hx hb dX7_isMark_78 rfl (lv_at hl 1 rfl) ?_
      refine xVi (Wf := (fun z => Wd ad cy x z)) (n := 0) (P := 35) (ci := 7) (As := []) (rest := [.int a1, .ref (ad 37)]) B hH hO (kX7_digitsHere l hO.1 _ x y12 h) rfl rfl wk3_192 wk3_194 wkp_14 wk1_8 wk3_195 (by decide +kernel) rfl ⟨rfl, rfl⟩ ⟨Nat.le_of_ble_eq_true rfl, Nat.le_of_ble_eq_true rfl⟩ ⟨Nat.zero_le _, Nat.zero_le _⟩ hl.1 rfl (Nat.le_of_ble_eq_true rfl) dX7_isMark_79 (fun r14 y14 H locs h hH => ?_)
      replace hH : Hd D (AW ad) (Wd ad cy x y14) s H locs := hH
      refine ast_37 B hH hO b3 dX7_isMark_82 (fun y15 e15 H locs hH => ?_)
      replace h := h y15 e15
      refine lv_aload_n hx hb dX7_isMark_83 rfl (lv_at hl 1 rfl) ?_
      refine gr_38 B hH wk3_54 dX7_isMark_84 ?_
      refine lv_iload_n hx hb dX7_isMark_87 rfl (lv_at hl 2 rfl) ?_
      refine lv_aload_n hx hb dX7_isMark_88 rfl (lv_at hl 1 rfl) ?_
      refine gf_29 B hH wk3_66 dX7_isMark_89 ?_
      refine lv_iload_n hx hb dX7_isMark_92 rfl (lv_at hl 0 rfl) ?_
      refine lv_isub hx hb dX7_isMark_93 ?_
      refine ast_38 B hH hO b3 dX7_isMark_94 (fun y16 e16 H locs hH => ?_)
      replace h := h y16 e16
      refine lv_aload_n hx hb dX7_isMark_95 rfl (lv_at hl 1 rfl) ?_
      refine gf_29 B hH wk3_66 dX7_isMark_96 ?_
      refine lv_iload_n hx hb dX7_isMark_99 rfl (lv_at hl 0 rfl) ?_
      refine lv_icmp_ne (tgt := 105) hx hb dX7_isMark_100 (by decide) (fun c17 => ?_) (fun c17 => ?_)
      · replace h := h.1 c17
        refine lv_aload_n hx hb dX7_isMark_105 rfl (lv_at hl 1 rfl) ?_
        refine gf_29 B hH wk3_66 dX7_isMark_106 ?_
        refine lv_topi (fun v2_18 e18 => ?_)
        replace h := h v2_18 e18
        refine lv_istore_n (lv' := [(2, .int v2_18), (0, .ref (ad 35)), (1, .int a1)]) hx hb dX7_isMark_109 rfl hl (by decide) rfl (fun ls hl => ?_)
        refine lv_iconst (v := 0) hx hb dX7_isMark_110 (by decide) ?_
        refine lv_istore_n (lv' := [(3, .int 0), (2, .int v2_18), (0, .ref (ad 35)), (1, .int a1)]) hx hb dX7_isMark_111 rfl hl (by decide) rfl (fun ls hl => ?_)
        obtain ⟨n_112, h⟩ := h
        have loop_112 : ∀ (f2_112 : Int32) (n_112 : Nat) (v3_112 : Int32) (y_112 : ST) (H : Heap) (locs : List Loc) (ls : Array Slot), Hd D (AW ad) (Wd ad cy x y_112) s H locs → lv_has ls 5 [(0, .ref (ad 35)), (1, .int a1), (2, .int f2_112), (3, .int v3_112)] → it (fun (_ : Int32) (_ : ST) => False) (FX7_isMark_112 a1 K f2_112) n_112 v3_112 y_112 → W p l e (headSpec (Cond.code yX7_isMark cX7_isMark 5 (some .boolean) :: WL) ({ frames := 2, cells := 0, slots := 0, locals := 44 } : Room)).room s m ([Value.ref (ad 35), Value.int a1] : List Value).toArray below meth c H locs 0 0 (MQ below (va_Qi (fun r z => K r z ∧ (r = 0 ∨ r = 1)) (QW D (fun z => Wd ad cy x z)) (AW ad)) ([Value.ref (ad 35), Value.int a1] : List Value).toArray s 0 0 (AW ad)) (F0 m 112 ls []) := by
          intro f2_112 n_112
          induction n_112 with
          | zero => intro v3_112 y_112 H locs ls hH hl h; exact False.elim h
          | succ n_112 ih112 =>
            intro v3_112 y_112 H locs ls hH hl h
            refine lv_iload_n hx hb dX7_isMark_112 rfl (lv_at hl 3 rfl) ?_
            refine lv_iconst (v := 3) hx hb dX7_isMark_113 (by decide) ?_
            refine lv_icmp_ge (tgt := 211) hx hb dX7_isMark_114 (by decide) (fun c112_1 => ?_) (fun c112_1 => ?_)
            · replace h := h.1 c112_1
              refine lv_aload_n hx hb dX7_isMark_211 rfl (lv_at hl 0 rfl) ?_
              refine gf_29 B hH wk3_66 dX7_isMark_212 ?_
              refine lv_aload_n hx hb dX7_isMark_215 rfl (lv_at hl 0 rfl) ?_
              refine gf_27 B hH wk3_64 dX7_isMark_216 ?_
              refine lv_icmp_ne (tgt := 226) hx hb dX7_isMark_219 (by decide) (fun c112_2 => ?_) (fun c112_2 => ?_)
              · replace h := h.1 c112_2
                refine lv_iconst (v := 0) hx hb dX7_isMark_226 (by decide) ?_
                exact xret_z hx hb hr hlocks hH (Or.inl rfl) h dX7_isMark_227
              · replace h := h.2 c112_2
                refine lv_iconst (v := 1) hx hb dX7_isMark_222 (by decide) ?_
                refine lv_goto (tgt := 227) hx hb dX7_isMark_223 (by decide) ?_
                exact xret_z hx hb hr hlocks hH (Or.inr rfl) h dX7_isMark_227
            · replace h := h.2 c112_1
              refine lv_aload_n hx hb dX7_isMark_117 rfl (lv_at hl 0 rfl) ?_
              refine gf_29 B hH wk3_66 dX7_isMark_118 ?_
              refine lv_iload_n hx hb dX7_isMark_121 rfl (lv_at hl 2 rfl) ?_
              refine lv_iload_n hx hb dX7_isMark_122 rfl (lv_at hl 3 rfl) ?_
              refine lv_iadd hx hb dX7_isMark_123 ?_
              refine lv_icmp_ne (tgt := 149) hx hb dX7_isMark_124 (by decide) (fun c112_3 => ?_) (fun c112_3 => ?_)
              · replace h := h.1 c112_3
                refine lv_iconst (v := 0) hx hb dX7_isMark_149 (by decide) ?_
                refine lv_istore (lv' := [(4, .int 0), (0, .ref (ad 35)), (1, .int a1), (2, .int f2_112), (3, .int v3_112)]) hx hb dX7_isMark_150 hl (by decide) rfl (fun ls hl => ?_)
                refine lv_aload_n hx hb dX7_isMark_152 rfl (lv_at hl 1 rfl) ?_
                refine gr_39 B hH wk3_55 dX7_isMark_153 ?_
                refine lv_iload_n hx hb dX7_isMark_156 rfl (lv_at hl 2 rfl) ?_
                refine lv_bipush (v := 27) hx hb dX7_isMark_157 (by decide) ?_
                refine lv_aload_n hx hb dX7_isMark_159 rfl (lv_at hl 1 rfl) ?_
                refine gr_39 B hH wk3_55 dX7_isMark_160 ?_
                refine lv_iload_n hx hb dX7_isMark_163 rfl (lv_at hl 2 rfl) ?_
                obtain ⟨b112_4, h⟩ := h
                refine ald_39 B hH b112_4 dX7_isMark_164 ?_
                refine lv_imul hx hb dX7_isMark_165 ?_
                refine lv_iload hx hb dX7_isMark_166 (lv_at hl 0 rfl) ?_
                refine lv_if_eq (tgt := 187) hx hb dX7_isMark_168 (by decide) (fun _ => ?_) (fun cq => absurd (by decide) cq)
                refine lv_iconst (v := 0) hx hb dX7_isMark_187 (by decide) ?_
                refine lv_iadd hx hb dX7_isMark_188 ?_
                refine ast_39 B hH hO b112_4 dX7_isMark_189 (fun y112_5 e112_5 H locs hH => ?_)
                replace h := h y112_5 e112_5
                refine lv_iload hx hb dX7_isMark_190 (lv_at hl 0 rfl) ?_
                refine lv_if_eq (tgt := 205) hx hb dX7_isMark_192 (by decide) (fun _ => ?_) (fun cq => absurd (by decide) cq)
                obtain ⟨v3_112_6, e112_6⟩ : ∃ z : Int32, z = v3_112 + 1 := ⟨_, rfl⟩
                replace h := h v3_112_6 e112_6
                refine lv_iinc (v := v3_112_6) (lv' := [(3, .int v3_112_6), (4, .int 0), (0, .ref (ad 35)), (1, .int a1), (2, .int f2_112)]) hx hb dX7_isMark_205 hl (k := 4) rfl (by rw [e112_6]; first | rfl | done) (by decide) rfl (fun ls hl => ?_)
                refine lv_goto (tgt := 112) hx hb dX7_isMark_208 (by decide) ?_
                exact ih112 v3_112_6 y112_5 _ _ _ hH (lv_sub hl [2, 3, 4, 0] rfl) h
              · replace h := h.2 c112_3
                refine lv_aload_n hx hb dX7_isMark_127 rfl (lv_at hl 0 rfl) ?_
                refine lv_aload_n hx hb dX7_isMark_128 rfl (lv_at hl 0 rfl) ?_
                refine gf_29 B hH wk3_66 dX7_isMark_129 ?_
                refine xVi (Wf := (fun z => Wd ad cy x z)) (n := 1) (P := 35) (ci := 7) (As := [.int (gI y_112 29)]) (rest := []) B hH hO (kX7_see l hO.1 (gI y_112 29) _ x y_112 h) rfl rfl wk3_196 wk3_198 wkp_15 wk1_8 wk3_199 (by decide +kernel) rfl ⟨rfl, rfl⟩ ⟨Nat.le_of_ble_eq_true rfl, Nat.le_of_ble_eq_true rfl⟩ ⟨Nat.zero_le _, Nat.zero_le _⟩ hl.1 rfl (Nat.le_of_ble_eq_true rfl) dX7_isMark_132 (fun r112_7 y112_7 H locs h hH => ?_)
                replace hH : Hd D (AW ad) (Wd ad cy x y112_7) s H locs := hH
                refine lv_bipush (v := 97) hx hb dX7_isMark_135 (by decide) ?_
                refine lv_bipush (v := 122) hx hb dX7_isMark_137 (by decide) ?_
                refine xSi (Wf := (fun z => Wd ad cy x z)) (n := 3) (As := [.int r112_7, .int 97, .int 122]) (rest := []) B hH hO (kX7_isIn l hO.1 r112_7 97 122 _ x y112_7 h) wk3_181 wk3_182 wk1_8 wk3_183 (by decide +kernel) rfl ⟨rfl, rfl⟩ ⟨Nat.le_of_ble_eq_true rfl, Nat.le_of_ble_eq_true rfl⟩ ⟨Nat.zero_le _, Nat.zero_le _⟩ hl.1 rfl (Nat.le_of_ble_eq_true rfl) dX7_isMark_139 (fun r112_8 y112_8 H locs h hH => ?_)
                obtain ⟨h, hz112_8⟩ := h
                replace hH : Hd D (AW ad) (Wd ad cy x y112_8) s H locs := hH
                refine lv_if_eq (tgt := 149) hx hb dX7_isMark_142 (by decide) (fun c112_9 => ?_) (fun c112_9 => ?_)
                · replace h := h.1 c112_9
                  refine lv_iconst (v := 0) hx hb dX7_isMark_149 (by decide) ?_
                  refine lv_istore (lv' := [(4, .int 0), (0, .ref (ad 35)), (1, .int a1), (2, .int f2_112), (3, .int v3_112)]) hx hb dX7_isMark_150 hl (by decide) rfl (fun ls hl => ?_)
                  refine lv_aload_n hx hb dX7_isMark_152 rfl (lv_at hl 1 rfl) ?_
                  refine gr_39 B hH wk3_55 dX7_isMark_153 ?_
                  refine lv_iload_n hx hb dX7_isMark_156 rfl (lv_at hl 2 rfl) ?_
                  refine lv_bipush (v := 27) hx hb dX7_isMark_157 (by decide) ?_
                  refine lv_aload_n hx hb dX7_isMark_159 rfl (lv_at hl 1 rfl) ?_
                  refine gr_39 B hH wk3_55 dX7_isMark_160 ?_
                  refine lv_iload_n hx hb dX7_isMark_163 rfl (lv_at hl 2 rfl) ?_
                  obtain ⟨b112_10, h⟩ := h
                  refine ald_39 B hH b112_10 dX7_isMark_164 ?_
                  refine lv_imul hx hb dX7_isMark_165 ?_
                  refine lv_iload hx hb dX7_isMark_166 (lv_at hl 0 rfl) ?_
                  refine lv_if_eq (tgt := 187) hx hb dX7_isMark_168 (by decide) (fun _ => ?_) (fun cq => absurd (by decide) cq)
                  refine lv_iconst (v := 0) hx hb dX7_isMark_187 (by decide) ?_
                  refine lv_iadd hx hb dX7_isMark_188 ?_
                  refine ast_39 B hH hO b112_10 dX7_isMark_189 (fun y112_11 e112_11 H locs hH => ?_)
                  replace h := h y112_11 e112_11
                  refine lv_iload hx hb dX7_isMark_190 (lv_at hl 0 rfl) ?_
                  refine lv_if_eq (tgt := 205) hx hb dX7_isMark_192 (by decide) (fun _ => ?_) (fun cq => absurd (by decide) cq)
                  obtain ⟨v3_112_12, e112_12⟩ : ∃ z : Int32, z = v3_112 + 1 := ⟨_, rfl⟩
                  replace h := h v3_112_12 e112_12
                  refine lv_iinc (v := v3_112_12) (lv' := [(3, .int v3_112_12), (4, .int 0), (0, .ref (ad 35)), (1, .int a1), (2, .int f2_112)]) hx hb dX7_isMark_205 hl (k := 4) rfl (by rw [e112_12]; first | rfl | done) (by decide) rfl (fun ls hl => ?_)
                  refine lv_goto (tgt := 112) hx hb dX7_isMark_208 (by decide) ?_
                  exact ih112 v3_112_12 y112_11 _ _ _ hH (lv_sub hl [2, 3, 4, 0] rfl) h
                · replace h := h.2 c112_9
                  refine lv_iconst (v := 1) hx hb dX7_isMark_145 (by decide) ?_
                  refine lv_goto (tgt := 150) hx hb dX7_isMark_146 (by decide) ?_
                  refine lv_istore (lv' := [(4, .int 1), (0, .ref (ad 35)), (1, .int a1), (2, .int f2_112), (3, .int v3_112)]) hx hb dX7_isMark_150 hl (by decide) rfl (fun ls hl => ?_)
                  refine lv_aload_n hx hb dX7_isMark_152 rfl (lv_at hl 1 rfl) ?_
                  refine gr_39 B hH wk3_55 dX7_isMark_153 ?_
                  refine lv_iload_n hx hb dX7_isMark_156 rfl (lv_at hl 2 rfl) ?_
                  refine lv_bipush (v := 27) hx hb dX7_isMark_157 (by decide) ?_
                  refine lv_aload_n hx hb dX7_isMark_159 rfl (lv_at hl 1 rfl) ?_
                  refine gr_39 B hH wk3_55 dX7_isMark_160 ?_
                  refine lv_iload_n hx hb dX7_isMark_163 rfl (lv_at hl 2 rfl) ?_
                  obtain ⟨b112_13, h⟩ := h
                  refine ald_39 B hH b112_13 dX7_isMark_164 ?_
                  refine lv_imul hx hb dX7_isMark_165 ?_
                  refine lv_iload hx hb dX7_isMark_166 (lv_at hl 0 rfl) ?_
                  refine lv_if_eq (tgt := 187) hx hb dX7_isMark_168 (by decide) (fun cq => absurd cq (by decide)) (fun _ => ?_)
                  refine lv_aload_n hx hb dX7_isMark_171 rfl (lv_at hl 1 rfl) ?_
                  refine lv_aload_n hx hb dX7_isMark_172 rfl (lv_at hl 1 rfl) ?_
                  refine gf_29 B hH wk3_66 dX7_isMark_173 ?_
                  refine xVi (Wf := (fun z => Wd ad cy x z)) (n := 1) (P := 35) (ci := 7) (As := [.int (gI y112_8 29)]) (rest := [.int ((27 * (gA y112_8 39 a1))), .int a1, .ref (ad 39)]) B hH hO (kX7_see l hO.1 (gI y112_8 29) _ x y112_8 h) rfl rfl wk3_196 wk3_198 wkp_15 wk1_8 wk3_199 (by decide +kernel) rfl ⟨rfl, rfl⟩ ⟨Nat.le_of_ble_eq_true rfl, Nat.le_of_ble_eq_true rfl⟩ ⟨Nat.zero_le _, Nat.zero_le _⟩ hl.1 rfl (Nat.le_of_ble_eq_true rfl) dX7_isMark_176 (fun r112_14 y112_14 H locs h hH => ?_)
                  replace hH : Hd D (AW ad) (Wd ad cy x y112_14) s H locs := hH
                  refine lv_bipush (v := 97) hx hb dX7_isMark_179 (by decide) ?_
                  refine lv_isub hx hb dX7_isMark_181 ?_
                  refine lv_iconst (v := 1) hx hb dX7_isMark_182 (by decide) ?_
                  refine lv_iadd hx hb dX7_isMark_183 ?_
                  refine lv_goto (tgt := 188) hx hb dX7_isMark_184 (by decide) ?_
                  refine lv_iadd hx hb dX7_isMark_188 ?_
                  refine ast_39 B hH hO b112_13 dX7_isMark_189 (fun y112_15 e112_15 H locs hH => ?_)
                  replace h := h y112_15 e112_15
                  refine lv_iload hx hb dX7_isMark_190 (lv_at hl 0 rfl) ?_
                  refine lv_if_eq (tgt := 205) hx hb dX7_isMark_192 (by decide) (fun cq => absurd cq (by decide)) (fun _ => ?_)
                  refine lv_aload_n hx hb dX7_isMark_195 rfl (lv_at hl 1 rfl) ?_
                  refine lv_dup hx hb dX7_isMark_196 rfl ?_
                  refine gf_29 B hH wk3_66 dX7_isMark_197 ?_
                  refine lv_iconst (v := 1) hx hb dX7_isMark_200 (by decide) ?_
                  refine lv_iadd hx hb dX7_isMark_201 ?_
                  refine pf_29 B hH hO wk3_66 dX7_isMark_202 (fun y112_16 e112_16 H locs hH => ?_)
                  replace h := h y112_16 e112_16
                  obtain ⟨v3_112_17, e112_17⟩ : ∃ z : Int32, z = v3_112 + 1 := ⟨_, rfl⟩
                  replace h := h v3_112_17 e112_17
                  refine lv_iinc (v := v3_112_17) (lv' := [(3, .int v3_112_17), (4, .int 1), (0, .ref (ad 35)), (1, .int a1), (2, .int f2_112)]) hx hb dX7_isMark_205 hl (k := 4) rfl (by rw [e112_17]; first | rfl | done) (by decide) rfl (fun ls hl => ?_)
                  refine lv_goto (tgt := 112) hx hb dX7_isMark_208 (by decide) ?_
                  exact ih112 v3_112_17 y112_16 _ _ _ hH (lv_sub hl [2, 3, 4, 0] rfl) h
        exact loop_112 v2_18 n_112 0 y16 _ _ _ hH (lv_sub hl [2, 3, 1, 0] rfl) h
      · replace h := h.2 c17
        refine lv_iconst (v := 0) hx hb dX7_isMark_103 (by decide) ?_
        exact xret_z hx hb hr hlocks hH (Or.inl rfl) h dX7_isMark_104
  · replace h := h.2 c5
    refine lv_iconst (v := 0) hx hb dX7_isMark_22 (by decide) ?_
    exact xret_z hx hb hr hlocks hH (Or.inl rfl) h dX7_isMark_23
set_option maxHeartbeats 4000000 in
set_option maxRecDepth 100000 in
theorem kX7_book (l : Launch) {D : va_G} {cy : Nat → ClassId} {ad : Nat → Nat} (hI : AdI ad) (a1 : Int32) (a2 : Int32) (a3 : Int32) (K : Int32 → ST → Prop) (x y : ST) (h : wX7_book a1 a2 a3 K y) : Met l yX7_book (Cond.code yX7_book cX7_book 5 (some .int) :: WL) ({ frames := 3, cells := 0, slots := 0, locals := 68 } : Room) (va_Pc [.ref (ad 35), .int a1, .int a2, .int a3] (PW D cy ad x y)) (va_Qi K (QW D (fun z => Wd ad cy x z)) (AW ad)) 0 0 (AW ad) := by
  refine Met.ofW (cc := cX7_book) (maxL := 5) (ret := (some .int)) (by decide) rfl ?_
  intro p e s m args below meth c s₁ B0 hml hv
  obtain ⟨rfl, hP, hK, hN⟩ := hv
  have hr := B0.returns
  have hlocks := B0.notSynchronized
  have hts := atoms_spec (ws := (Cond.code yX7_book cX7_book 5 (some .int) :: WL)) B0.pre
  have B : Bd p s m ([Value.ref (ad 35), Value.int a1, Value.int a2, Value.int a3] : List Value).toArray c cX7_book 5 RX7 D cy := ⟨B0.exec, B0.bytes, hml, findClass_of_methodNamed B0.named, fun w hw => hts w (List.mem_cons_of_mem _ hw), hK, hN⟩
  have hx := B0.exec
  have hb := B0.bytes
  have hO : AdOk ad (AW ad) := hI.self
  have hH : Hd D (AW ad) (Wd ad cy x y) s s.heap [] := ⟨hP, va_S.rf⟩
  have hl := lv_entry ([.ref (ad 35), .int a1, .int a2, .int a3]) (n := 5) (Nat.le_of_ble_eq_true rfl)
  rw [lg_entry_eq]
  generalize (lg_sl ([.ref (ad 35), .int a1, .int a2, .int a3]) ++ List.replicate (5 - (lg_sl ([.ref (ad 35), .int a1, .int a2, .int a3])).length) Slot.unset).toArray = ls at hl ⊢
  have hl : lv_has ls 5 [(0, .ref (ad 35)), (1, .int a1), (2, .int a2), (3, .int a3)] := hl
  unfold wX7_book at h
  refine lv_iload_n hx hb dX7_book_0 rfl (lv_at hl 1 rfl) ?_
  refine lv_iconst (v := 0) hx hb dX7_book_1 (by decide) ?_
  refine lv_iconst (v := 4) hx hb dX7_book_2 (by decide) ?_
  refine xSi (Wf := (fun z => Wd ad cy x z)) (n := 3) (As := [.int a1, .int 0, .int 4]) (rest := []) B hH hO (kX7_isIn l hO.1 a1 0 4 _ x y h) wk3_181 wk3_182 wk1_8 wk3_183 (by decide +kernel) rfl ⟨rfl, rfl⟩ ⟨Nat.le_of_ble_eq_true rfl, Nat.le_of_ble_eq_true rfl⟩ ⟨Nat.zero_le _, Nat.zero_le _⟩ hl.1 rfl (Nat.le_of_ble_eq_true rfl) dX7_book_3 (fun r1 y1 H locs h hH => ?_)
  obtain ⟨h, hz1⟩ := h
  replace hH : Hd D (AW ad) (Wd ad cy x y1) s H locs := hH
  refine lv_if_eq (tgt := 39) hx hb dX7_book_6 (by decide) (fun c2 => ?_) (fun c2 => ?_)
  · replace h := h.1 c2
    refine lv_iconst (v := (-1)) hx hb dX7_book_39 (by decide) ?_
    exact xret_i hx hb hr hlocks hH h dX7_book_40
  · replace h := h.2 c2
    refine lv_iload_n hx hb dX7_book_9 rfl (lv_at hl 2 rfl) ?_
    refine lv_iconst (v := 1) hx hb dX7_book_10 (by decide) ?_
    refine lv_sipush (v := 200) hx hb dX7_book_11 (by decide) ?_
    refine xSi (Wf := (fun z => Wd ad cy x z)) (n := 3) (As := [.int a2, .int 1, .int 200]) (rest := []) B hH hO (kX7_isIn l hO.1 a2 1 200 _ x y1 h) wk3_181 wk3_182 wk1_8 wk3_183 (by decide +kernel) rfl ⟨rfl, rfl⟩ ⟨Nat.le_of_ble_eq_true rfl, Nat.le_of_ble_eq_true rfl⟩ ⟨Nat.zero_le _, Nat.zero_le _⟩ hl.1 rfl (Nat.le_of_ble_eq_true rfl) dX7_book_14 (fun r3 y3 H locs h hH => ?_)
    obtain ⟨h, hz3⟩ := h
    replace hH : Hd D (AW ad) (Wd ad cy x y3) s H locs := hH
    refine lv_if_eq (tgt := 39) hx hb dX7_book_17 (by decide) (fun c4 => ?_) (fun c4 => ?_)
    · replace h := h.1 c4
      refine lv_iconst (v := (-1)) hx hb dX7_book_39 (by decide) ?_
      exact xret_i hx hb hr hlocks hH h dX7_book_40
    · replace h := h.2 c4
      refine lv_iload_n hx hb dX7_book_20 rfl (lv_at hl 3 rfl) ?_
      refine lv_iconst (v := 1) hx hb dX7_book_21 (by decide) ?_
      refine lv_bipush (v := 100) hx hb dX7_book_22 (by decide) ?_
      refine xSi (Wf := (fun z => Wd ad cy x z)) (n := 3) (As := [.int a3, .int 1, .int 100]) (rest := []) B hH hO (kX7_isIn l hO.1 a3 1 100 _ x y3 h) wk3_181 wk3_182 wk1_8 wk3_183 (by decide +kernel) rfl ⟨rfl, rfl⟩ ⟨Nat.le_of_ble_eq_true rfl, Nat.le_of_ble_eq_true rfl⟩ ⟨Nat.zero_le _, Nat.zero_le _⟩ hl.1 rfl (Nat.le_of_ble_eq_true rfl) dX7_book_24 (fun r5 y5 H locs h hH => ?_)
      obtain ⟨h, hz5⟩ := h
      replace hH : Hd D (AW ad) (Wd ad cy x y5) s H locs := hH
      refine lv_if_eq (tgt := 39) hx hb dX7_book_27 (by decide) (fun c6 => ?_) (fun c6 => ?_)
      · replace h := h.1 c6
        refine lv_iconst (v := (-1)) hx hb dX7_book_39 (by decide) ?_
        exact xret_i hx hb hr hlocks hH h dX7_book_40
      · replace h := h.2 c6
        refine lv_aload_n hx hb dX7_book_30 rfl (lv_at hl 0 rfl) ?_
        refine gf_22 B hH wk3_48 dX7_book_31 ?_
        refine lv_bipush (v := 60) hx hb dX7_book_34 (by decide) ?_
        refine lv_icmp_ne (tgt := 41) hx hb dX7_book_36 (by decide) (fun c7 => ?_) (fun c7 => ?_)
        · replace h := h.1 c7
          refine lv_aload_n hx hb dX7_book_41 rfl (lv_at hl 0 rfl) ?_
          refine lv_aload_n hx hb dX7_book_42 rfl (lv_at hl 0 rfl) ?_
          refine gf_22 B hH wk3_48 dX7_book_43 ?_
          refine xVi (Wf := (fun z => Wd ad cy x z)) (n := 1) (P := 35) (ci := 7) (As := [.int (gI y5 22)]) (rest := []) B hH hO (kX7_isMark l hO.1 (gI y5 22) _ x y5 h) rfl rfl wk3_188 wk3_190 wkp_13 wk1_8 wk3_191 (by decide +kernel) rfl ⟨rfl, rfl⟩ ⟨Nat.le_of_ble_eq_true rfl, Nat.le_of_ble_eq_true rfl⟩ ⟨Nat.zero_le _, Nat.zero_le _⟩ hl.1 rfl (Nat.le_of_ble_eq_true rfl) dX7_book_46 (fun r8 y8 H locs h hH => ?_)
          obtain ⟨h, hz8⟩ := h
          replace hH : Hd D (AW ad) (Wd ad cy x y8) s H locs := hH
          refine lv_istore (lv' := [(4, .int r8), (0, .ref (ad 35)), (1, .int a1), (2, .int a2), (3, .int a3)]) hx hb dX7_book_49 hl (by decide) rfl (fun ls hl => ?_)
          refine lv_aload_n hx hb dX7_book_51 rfl (lv_at hl 1 rfl) ?_
          refine lv_iload hx hb dX7_book_52 (lv_at hl 0 rfl) ?_
          refine lv_if_eq (tgt := 61) hx hb dX7_book_54 (by decide) (fun c9 => ?_) (fun c9 => ?_)
          · replace h := h.1 c9
            refine lv_aload_n hx hb dX7_book_61 rfl (lv_at hl 1 rfl) ?_
            refine gf_29 B hH wk3_66 dX7_book_62 ?_
            refine pf_28 B hH hO wk3_65 dX7_book_65 (fun y10 e10 H locs hH => ?_)
            replace h := h y10 e10
            refine lv_aload_n hx hb dX7_book_68 rfl (lv_at hl 1 rfl) ?_
            refine lv_iconst (v := 0) hx hb dX7_book_69 (by decide) ?_
            refine pf_27 B hH hO wk3_64 dX7_book_70 (fun y11 e11 H locs hH => ?_)
            replace h := h y11 e11
            refine lv_iload hx hb dX7_book_73 (lv_at hl 0 rfl) ?_
            refine lv_if_ne (tgt := 80) hx hb dX7_book_75 (by decide) (fun cq => absurd c9 cq) (fun _ => ?_)
            refine lv_iconst (v := (-1)) hx hb dX7_book_78 (by decide) ?_
            exact xret_i hx hb hr hlocks hH h dX7_book_79
          · replace h := h.2 c9
            refine lv_iconst (v := (-1)) hx hb dX7_book_57 (by decide) ?_
            refine lv_goto (tgt := 65) hx hb dX7_book_58 (by decide) ?_
            refine pf_28 B hH hO wk3_65 dX7_book_65 (fun y12 e12 H locs hH => ?_)
            replace h := h y12 e12
            refine lv_aload_n hx hb dX7_book_68 rfl (lv_at hl 1 rfl) ?_
            refine lv_iconst (v := 0) hx hb dX7_book_69 (by decide) ?_
            refine pf_27 B hH hO wk3_64 dX7_book_70 (fun y13 e13 H locs hH => ?_)
            replace h := h y13 e13
            refine lv_iload hx hb dX7_book_73 (lv_at hl 0 rfl) ?_
            refine lv_if_ne (tgt := 80) hx hb dX7_book_75 (by decide) (fun _ => ?_) (fun cq => absurd cq c9)
            refine lv_aload_n hx hb dX7_book_80 rfl (lv_at hl 1 rfl) ?_
            refine gr_40 B hH wk3_56 dX7_book_81 ?_
            refine lv_aload_n hx hb dX7_book_84 rfl (lv_at hl 1 rfl) ?_
            refine gf_22 B hH wk3_48 dX7_book_85 ?_
            refine lv_iload_n hx hb dX7_book_88 rfl (lv_at hl 2 rfl) ?_
            obtain ⟨b14, h⟩ := h
            refine ast_40 B hH hO b14 dX7_book_89 (fun y15 e15 H locs hH => ?_)
            replace h := h y15 e15
            refine lv_aload_n hx hb dX7_book_90 rfl (lv_at hl 1 rfl) ?_
            refine gr_41 B hH wk3_57 dX7_book_91 ?_
            refine lv_aload_n hx hb dX7_book_94 rfl (lv_at hl 1 rfl) ?_
            refine gf_22 B hH wk3_48 dX7_book_95 ?_
            refine lv_iload_n hx hb dX7_book_98 rfl (lv_at hl 3 rfl) ?_
            obtain ⟨b16, h⟩ := h
            refine ast_41 B hH hO b16 dX7_book_99 (fun y17 e17 H locs hH => ?_)
            replace h := h y17 e17
            refine lv_aload_n hx hb dX7_book_100 rfl (lv_at hl 1 rfl) ?_
            refine gr_42 B hH wk3_58 dX7_book_101 ?_
            refine lv_aload_n hx hb dX7_book_104 rfl (lv_at hl 1 rfl) ?_
            refine gf_22 B hH wk3_48 dX7_book_105 ?_
            refine lv_iload_n hx hb dX7_book_108 rfl (lv_at hl 4 rfl) ?_
            obtain ⟨b18, h⟩ := h
            refine ast_42 B hH hO b18 dX7_book_109 (fun y19 e19 H locs hH => ?_)
            replace h := h y19 e19
            refine lv_aload_n hx hb dX7_book_110 rfl (lv_at hl 1 rfl) ?_
            refine lv_dup hx hb dX7_book_111 rfl ?_
            refine gf_22 B hH wk3_48 dX7_book_112 ?_
            refine lv_iconst (v := 1) hx hb dX7_book_115 (by decide) ?_
            refine lv_iadd hx hb dX7_book_116 ?_
            refine pf_22 B hH hO wk3_48 dX7_book_117 (fun y20 e20 H locs hH => ?_)
            replace h := h y20 e20
            refine lv_aload_n hx hb dX7_book_120 rfl (lv_at hl 1 rfl) ?_
            refine gf_22 B hH wk3_48 dX7_book_121 ?_
            refine lv_iconst (v := 1) hx hb dX7_book_124 (by decide) ?_
            refine lv_isub hx hb dX7_book_125 ?_
            exact xret_i hx hb hr hlocks hH h dX7_book_126
        · replace h := h.2 c7
          refine lv_iconst (v := (-1)) hx hb dX7_book_39 (by decide) ?_
          exact xret_i hx hb hr hlocks hH h dX7_book_40
set_option maxHeartbeats 4000000 in
set_option maxRecDepth 100000 in
theorem kX7_wrong (l : Launch) {D : va_G} {cy : Nat → ClassId} {ad : Nat → Nat} (hI : AdI ad) (K : Int32 → ST → Prop) (x y : ST) (h : wX7_wrong K y) : Met l yX7_wrong (Cond.code yX7_wrong cX7_wrong 1 (some .int) :: WL) ({ frames := 0, cells := 0, slots := 0, locals := 0 } : Room) (va_Pc [.ref (ad 35)] (PW D cy ad x y)) (va_Qi K (QW D (fun z => Wd ad cy x z)) (AW ad)) 0 0 (AW ad) := by
  refine Met.ofW (cc := cX7_wrong) (maxL := 1) (ret := (some .int)) (by decide) rfl ?_
  intro p e s m args below meth c s₁ B0 hml hv
  obtain ⟨rfl, hP, hK, hN⟩ := hv
  have hr := B0.returns
  have hlocks := B0.notSynchronized
  have hts := atoms_spec (ws := (Cond.code yX7_wrong cX7_wrong 1 (some .int) :: WL)) B0.pre
  have B : Bd p s m ([Value.ref (ad 35)] : List Value).toArray c cX7_wrong 1 RX7 D cy := ⟨B0.exec, B0.bytes, hml, findClass_of_methodNamed B0.named, fun w hw => hts w (List.mem_cons_of_mem _ hw), hK, hN⟩
  have hx := B0.exec
  have hb := B0.bytes
  have hO : AdOk ad (AW ad) := hI.self
  have hH : Hd D (AW ad) (Wd ad cy x y) s s.heap [] := ⟨hP, va_S.rf⟩
  have hl := lv_entry ([.ref (ad 35)]) (n := 1) (Nat.le_of_ble_eq_true rfl)
  rw [lg_entry_eq]
  generalize (lg_sl ([.ref (ad 35)]) ++ List.replicate (1 - (lg_sl ([.ref (ad 35)])).length) Slot.unset).toArray = ls at hl ⊢
  have hl : lv_has ls 1 [(0, .ref (ad 35))] := hl
  unfold wX7_wrong at h
  refine lv_aload_n hx hb dX7_wrong_0 rfl (lv_at hl 0 rfl) ?_
  refine gf_28 B hH wk3_65 dX7_wrong_1 ?_
  exact xret_i hx hb hr hlocks hH h dX7_wrong_4
set_option maxHeartbeats 4000000 in
set_option maxRecDepth 100000 in
theorem kX7_rule (l : Launch) {D : va_G} {cy : Nat → ClassId} {ad : Nat → Nat} (hI : AdI ad) (a1 : Int32) (K : Int32 → ST → Prop) (x y : ST) (h : wX7_rule a1 K y) : Met l yX7_rule (Cond.code yX7_rule cX7_rule 2 (some .boolean) :: WL) ({ frames := 1, cells := 0, slots := 0, locals := 22 } : Room) (va_Pc [.ref (ad 35), .int a1] (PW D cy ad x y)) (va_Qi (fun r z => K r z ∧ (r = 0 ∨ r = 1)) (QW D (fun z => Wd ad cy x z)) (AW ad)) 0 0 (AW ad) := by
  refine Met.ofW (cc := cX7_rule) (maxL := 2) (ret := (some .boolean)) (by decide) rfl ?_
  intro p e s m args below meth c s₁ B0 hml hv
  obtain ⟨rfl, hP, hK, hN⟩ := hv
  have hr := B0.returns
  have hlocks := B0.notSynchronized
  have hts := atoms_spec (ws := (Cond.code yX7_rule cX7_rule 2 (some .boolean) :: WL)) B0.pre
  have B : Bd p s m ([Value.ref (ad 35), Value.int a1] : List Value).toArray c cX7_rule 2 RX7 D cy := ⟨B0.exec, B0.bytes, hml, findClass_of_methodNamed B0.named, fun w hw => hts w (List.mem_cons_of_mem _ hw), hK, hN⟩
  have hx := B0.exec
  have hb := B0.bytes
  have hO : AdOk ad (AW ad) := hI.self
  have hH : Hd D (AW ad) (Wd ad cy x y) s s.heap [] := ⟨hP, va_S.rf⟩
  have hl := lv_entry ([.ref (ad 35), .int a1]) (n := 2) (Nat.le_of_ble_eq_true rfl)
  rw [lg_entry_eq]
  generalize (lg_sl ([.ref (ad 35), .int a1]) ++ List.replicate (2 - (lg_sl ([.ref (ad 35), .int a1])).length) Slot.unset).toArray = ls at hl ⊢
  have hl : lv_has ls 2 [(0, .ref (ad 35)), (1, .int a1)] := hl
  unfold wX7_rule at h
  refine lv_iload_n hx hb dX7_rule_0 rfl (lv_at hl 1 rfl) ?_
  refine lv_iconst (v := 0) hx hb dX7_rule_1 (by decide) ?_
  refine lv_iconst (v := 1) hx hb dX7_rule_2 (by decide) ?_
  refine xSi (Wf := (fun z => Wd ad cy x z)) (n := 3) (As := [.int a1, .int 0, .int 1]) (rest := []) B hH hO (kX7_isIn l hO.1 a1 0 1 _ x y h) wk3_181 wk3_182 wk1_8 wk3_183 (by decide +kernel) rfl ⟨rfl, rfl⟩ ⟨Nat.le_of_ble_eq_true rfl, Nat.le_of_ble_eq_true rfl⟩ ⟨Nat.zero_le _, Nat.zero_le _⟩ hl.1 rfl (Nat.le_of_ble_eq_true rfl) dX7_rule_3 (fun r1 y1 H locs h hH => ?_)
  obtain ⟨h, hz1⟩ := h
  replace hH : Hd D (AW ad) (Wd ad cy x y1) s H locs := hH
  refine lv_if_ne (tgt := 11) hx hb dX7_rule_6 (by decide) (fun c2 => ?_) (fun c2 => ?_)
  · replace h := h.1 c2
    refine lv_aload_n hx hb dX7_rule_11 rfl (lv_at hl 0 rfl) ?_
    refine lv_iload_n hx hb dX7_rule_12 rfl (lv_at hl 1 rfl) ?_
    refine pf_23 B hH hO wk3_49 dX7_rule_13 (fun y3 e3 H locs hH => ?_)
    replace h := h y3 e3
    refine lv_iconst (v := 1) hx hb dX7_rule_16 (by decide) ?_
    exact xret_z hx hb hr hlocks hH (Or.inr rfl) h dX7_rule_17
  · replace h := h.2 c2
    refine lv_iconst (v := 0) hx hb dX7_rule_9 (by decide) ?_
    exact xret_z hx hb hr hlocks hH (Or.inl rfl) h dX7_rule_10
set_option maxHeartbeats 4000000 in
set_option maxRecDepth 100000 in
theorem kX7_keyOf (l : Launch) {D : va_G} {cy : Nat → ClassId} {ad : Nat → Nat} (hI : AdI ad) (a1 : Int32) (a2 : Int32) (K : Int32 → ST → Prop) (x y : ST) (h : wX7_keyOf a1 a2 K y) : Met l yX7_keyOf (Cond.code yX7_keyOf cX7_keyOf 5 (some .int) :: WL) ({ frames := 0, cells := 0, slots := 0, locals := 0 } : Room) (va_Pc [.ref (ad 35), .int a1, .int a2] (PW D cy ad x y)) (va_Qi K (QW D (fun z => Wd ad cy x z)) (AW ad)) 0 0 (AW ad) := by
  refine Met.ofW (cc := cX7_keyOf) (maxL := 5) (ret := (some .int)) (by decide) rfl ?_
  intro p e s m args below meth c s₁ B0 hml hv
  obtain ⟨rfl, hP, hK, hN⟩ := hv
  have hr := B0.returns
  have hlocks := B0.notSynchronized
  have hts := atoms_spec (ws := (Cond.code yX7_keyOf cX7_keyOf 5 (some .int) :: WL)) B0.pre
  have B : Bd p s m ([Value.ref (ad 35), Value.int a1, Value.int a2] : List Value).toArray c cX7_keyOf 5 RX7 D cy := ⟨B0.exec, B0.bytes, hml, findClass_of_methodNamed B0.named, fun w hw => hts w (List.mem_cons_of_mem _ hw), hK, hN⟩
  have hx := B0.exec
  have hb := B0.bytes
  have hO : AdOk ad (AW ad) := hI.self
  have hH : Hd D (AW ad) (Wd ad cy x y) s s.heap [] := ⟨hP, va_S.rf⟩
  have hl := lv_entry ([.ref (ad 35), .int a1, .int a2]) (n := 5) (Nat.le_of_ble_eq_true rfl)
  rw [lg_entry_eq]
  generalize (lg_sl ([.ref (ad 35), .int a1, .int a2]) ++ List.replicate (5 - (lg_sl ([.ref (ad 35), .int a1, .int a2])).length) Slot.unset).toArray = ls at hl ⊢
  have hl : lv_has ls 5 [(0, .ref (ad 35)), (1, .int a1), (2, .int a2)] := hl
  unfold wX7_keyOf at h
  refine lv_aload_n hx hb dX7_keyOf_0 rfl (lv_at hl 0 rfl) ?_
  refine gr_37 B hH wk3_53 dX7_keyOf_1 ?_
  refine lv_iload_n hx hb dX7_keyOf_4 rfl (lv_at hl 1 rfl) ?_
  obtain ⟨b1, h⟩ := h
  refine ald_37 B hH b1 dX7_keyOf_5 ?_
  refine lv_if_ge (tgt := 11) hx hb dX7_keyOf_6 (by decide) (fun c2 => ?_) (fun c2 => ?_)
  · replace h := h.1 c2
    refine lv_aload_n hx hb dX7_keyOf_11 rfl (lv_at hl 0 rfl) ?_
    refine gr_37 B hH wk3_53 dX7_keyOf_12 ?_
    refine lv_iload_n hx hb dX7_keyOf_15 rfl (lv_at hl 1 rfl) ?_
    refine ald_37 B hH b1 dX7_keyOf_16 ?_
    refine lv_topi (fun v3_3 e3 => ?_)
    replace h := h v3_3 e3
    refine lv_istore_n (lv' := [(3, .int v3_3), (0, .ref (ad 35)), (1, .int a1), (2, .int a2)]) hx hb dX7_keyOf_17 rfl hl (by decide) rfl (fun ls hl => ?_)
    refine lv_iload_n hx hb dX7_keyOf_18 rfl (lv_at hl 3 rfl) ?_
    refine lv_if_ne (tgt := 47) hx hb dX7_keyOf_19 (by decide) (fun c4 => ?_) (fun c4 => ?_)
    · replace h := h.1 c4
      refine lv_bipush (v := 10) hx hb dX7_keyOf_47 (by decide) ?_
      refine lv_iload_n hx hb dX7_keyOf_49 rfl (lv_at hl 0 rfl) ?_
      refine lv_imul hx hb dX7_keyOf_50 ?_
      refine lv_aload_n hx hb dX7_keyOf_51 rfl (lv_at hl 1 rfl) ?_
      refine gr_38 B hH wk3_54 dX7_keyOf_52 ?_
      refine lv_iload_n hx hb dX7_keyOf_55 rfl (lv_at hl 2 rfl) ?_
      refine ald_38 B hH b1 dX7_keyOf_56 ?_
      refine lv_iadd hx hb dX7_keyOf_57 ?_
      exact xret_i hx hb hr hlocks hH h dX7_keyOf_58
    · replace h := h.2 c4
      refine lv_aload_n hx hb dX7_keyOf_22 rfl (lv_at hl 1 rfl) ?_
      refine gr_38 B hH wk3_54 dX7_keyOf_23 ?_
      refine lv_iload_n hx hb dX7_keyOf_26 rfl (lv_at hl 2 rfl) ?_
      refine ald_38 B hH b1 dX7_keyOf_27 ?_
      refine lv_topi (fun v4_5 e5 => ?_)
      replace h := h v4_5 e5
      refine lv_istore (lv' := [(4, .int v4_5), (3, .int v3_3), (0, .ref (ad 35)), (1, .int a1), (2, .int a2)]) hx hb dX7_keyOf_28 hl (by decide) rfl (fun ls hl => ?_)
      obtain ⟨n_30, h⟩ := h
      have loop_30 : ∀ (n_30 : Nat) (v3_30 : Int32) (v4_30 : Int32) (y_30 : ST) (H : Heap) (locs : List Loc) (ls : Array Slot), Hd D (AW ad) (Wd ad cy x y_30) s H locs → lv_has ls 5 [(0, .ref (ad 35)), (1, .int a1), (3, .int v3_30), (4, .int v4_30)] → it (fun (_ : Int32) (_ : Int32) (_ : ST) => False) (FX7_keyOf_30 a1 K) n_30 v3_30 v4_30 y_30 → W p l e (headSpec (Cond.code yX7_keyOf cX7_keyOf 5 (some .int) :: WL) ({ frames := 0, cells := 0, slots := 0, locals := 0 } : Room)).room s m ([Value.ref (ad 35), Value.int a1, Value.int a2] : List Value).toArray below meth c H locs 0 0 (MQ below (va_Qi K (QW D (fun z => Wd ad cy x z)) (AW ad)) ([Value.ref (ad 35), Value.int a1, Value.int a2] : List Value).toArray s 0 0 (AW ad)) (F0 m 30 ls []) := by
        intro n_30
        induction n_30 with
        | zero => intro v3_30 v4_30 y_30 H locs ls hH hl h; exact False.elim h
        | succ n_30 ih30 =>
          intro v3_30 v4_30 y_30 H locs ls hH hl h
          refine lv_iload hx hb dX7_keyOf_30 (lv_at hl 3 rfl) ?_
          refine lv_iconst (v := 4) hx hb dX7_keyOf_32 (by decide) ?_
          refine lv_icmp_ge (tgt := 47) hx hb dX7_keyOf_33 (by decide) (fun c30_1 => ?_) (fun c30_1 => ?_)
          · replace h := h.1 c30_1
            refine lv_bipush (v := 10) hx hb dX7_keyOf_47 (by decide) ?_
            refine lv_iload_n hx hb dX7_keyOf_49 rfl (lv_at hl 2 rfl) ?_
            refine lv_imul hx hb dX7_keyOf_50 ?_
            refine lv_aload_n hx hb dX7_keyOf_51 rfl (lv_at hl 0 rfl) ?_
            refine gr_38 B hH wk3_54 dX7_keyOf_52 ?_
            refine lv_iload_n hx hb dX7_keyOf_55 rfl (lv_at hl 1 rfl) ?_
            obtain ⟨b30_2, h⟩ := h
            refine ald_38 B hH b30_2 dX7_keyOf_56 ?_
            refine lv_iadd hx hb dX7_keyOf_57 ?_
            exact xret_i hx hb hr hlocks hH h dX7_keyOf_58
          · replace h := h.2 c30_1
            refine lv_iload_n hx hb dX7_keyOf_36 rfl (lv_at hl 2 rfl) ?_
            refine lv_bipush (v := 10) hx hb dX7_keyOf_37 (by decide) ?_
            refine lv_imul hx hb dX7_keyOf_39 ?_
            refine lv_topi (fun v3_30_3 e30_3 => ?_)
            replace h := h v3_30_3 e30_3
            refine lv_istore_n (lv' := [(3, .int v3_30_3), (0, .ref (ad 35)), (1, .int a1), (4, .int v4_30)]) hx hb dX7_keyOf_40 rfl hl (by decide) rfl (fun ls hl => ?_)
            obtain ⟨v4_30_4, e30_4⟩ : ∃ z : Int32, z = v4_30 + 1 := ⟨_, rfl⟩
            replace h := h v4_30_4 e30_4
            refine lv_iinc (v := v4_30_4) (lv' := [(4, .int v4_30_4), (3, .int v3_30_3), (0, .ref (ad 35)), (1, .int a1)]) hx hb dX7_keyOf_41 hl (k := 3) rfl (by rw [e30_4]; first | rfl | done) (by decide) rfl (fun ls hl => ?_)
            refine lv_goto (tgt := 30) hx hb dX7_keyOf_44 (by decide) ?_
            exact ih30 v3_30_3 v4_30_4 y_30 _ _ _ hH (lv_sub hl [2, 3, 1, 0] rfl) h
      exact loop_30 n_30 v3_3 v4_5 y _ _ _ hH (lv_sub hl [2, 3, 1, 0] rfl) h
  · replace h := h.2 c2
    refine lv_iconst (v := (-1)) hx hb dX7_keyOf_9 (by decide) ?_
    exact xret_i hx hb hr hlocks hH h dX7_keyOf_10
set_option maxHeartbeats 4000000 in
set_option maxRecDepth 100000 in
theorem kX7_sign (l : Launch) {D : va_G} {cy : Nat → ClassId} {ad : Nat → Nat} (hI : AdI ad) (a1 : Int32) (a2 : Int32) (K : Int32 → ST → Prop) (x y : ST) (h : wX7_sign a1 a2 K y) : Met l yX7_sign (Cond.code yX7_sign cX7_sign 2 (some .int) :: WL) ({ frames := 0, cells := 0, slots := 0, locals := 0 } : Room) (va_Pc [.int a1, .int a2] (PW D cy ad x y)) (va_Qi K (QW D (fun z => Wd ad cy x z)) (AW ad)) 0 0 (AW ad) := by
  refine Met.ofW (cc := cX7_sign) (maxL := 2) (ret := (some .int)) (by decide) rfl ?_
  intro p e s m args below meth c s₁ B0 hml hv
  obtain ⟨rfl, hP, hK, hN⟩ := hv
  have hr := B0.returns
  have hlocks := B0.notSynchronized
  have hts := atoms_spec (ws := (Cond.code yX7_sign cX7_sign 2 (some .int) :: WL)) B0.pre
  have B : Bd p s m ([Value.int a1, Value.int a2] : List Value).toArray c cX7_sign 2 RX7 D cy := ⟨B0.exec, B0.bytes, hml, findClass_of_methodNamed B0.named, fun w hw => hts w (List.mem_cons_of_mem _ hw), hK, hN⟩
  have hx := B0.exec
  have hb := B0.bytes
  have hO : AdOk ad (AW ad) := hI.self
  have hH : Hd D (AW ad) (Wd ad cy x y) s s.heap [] := ⟨hP, va_S.rf⟩
  have hl := lv_entry ([.int a1, .int a2]) (n := 2) (Nat.le_of_ble_eq_true rfl)
  rw [lg_entry_eq]
  generalize (lg_sl ([.int a1, .int a2]) ++ List.replicate (2 - (lg_sl ([.int a1, .int a2])).length) Slot.unset).toArray = ls at hl ⊢
  have hl : lv_has ls 2 [(0, .int a1), (1, .int a2)] := hl
  unfold wX7_sign at h
  refine lv_iload_n hx hb dX7_sign_0 rfl (lv_at hl 0 rfl) ?_
  refine lv_iload_n hx hb dX7_sign_1 rfl (lv_at hl 1 rfl) ?_
  refine lv_icmp_ge (tgt := 9) hx hb dX7_sign_2 (by decide) (fun c1 => ?_) (fun c1 => ?_)
  · replace h := h.1 c1
    refine lv_iload_n hx hb dX7_sign_9 rfl (lv_at hl 0 rfl) ?_
    refine lv_iload_n hx hb dX7_sign_10 rfl (lv_at hl 1 rfl) ?_
    refine lv_icmp_le (tgt := 18) hx hb dX7_sign_11 (by decide) (fun c2 => ?_) (fun c2 => ?_)
    · replace h := h.1 c2
      refine lv_iconst (v := 0) hx hb dX7_sign_18 (by decide) ?_
      exact xret_i hx hb hr hlocks hH h dX7_sign_19
    · replace h := h.2 c2
      refine lv_iconst (v := 1) hx hb dX7_sign_14 (by decide) ?_
      refine lv_goto (tgt := 19) hx hb dX7_sign_15 (by decide) ?_
      exact xret_i hx hb hr hlocks hH h dX7_sign_19
  · replace h := h.2 c1
    refine lv_iconst (v := (-1)) hx hb dX7_sign_5 (by decide) ?_
    refine lv_goto (tgt := 19) hx hb dX7_sign_6 (by decide) ?_
    exact xret_i hx hb hr hlocks hH h dX7_sign_19
set_option maxHeartbeats 4000000 in
set_option maxRecDepth 100000 in
theorem kX7_against (l : Launch) {D : va_G} {cy : Nat → ClassId} {ad : Nat → Nat} (hI : AdI ad) (a1 : Int32) (a2 : Int32) (a3 : Int32) (K : Int32 → ST → Prop) (x y : ST) (h : wX7_against a1 a2 a3 K y) : Met l yX7_against (Cond.code yX7_against cX7_against 4 (some .int) :: WL) ({ frames := 1, cells := 0, slots := 0, locals := 24 } : Room) (va_Pc [.ref (ad 35), .int a1, .int a2, .int a3] (PW D cy ad x y)) (va_Qi K (QW D (fun z => Wd ad cy x z)) (AW ad)) 0 0 (AW ad) := by
  refine Met.ofW (cc := cX7_against) (maxL := 4) (ret := (some .int)) (by decide) rfl ?_
  intro p e s m args below meth c s₁ B0 hml hv
  obtain ⟨rfl, hP, hK, hN⟩ := hv
  have hr := B0.returns
  have hlocks := B0.notSynchronized
  have hts := atoms_spec (ws := (Cond.code yX7_against cX7_against 4 (some .int) :: WL)) B0.pre
  have B : Bd p s m ([Value.ref (ad 35), Value.int a1, Value.int a2, Value.int a3] : List Value).toArray c cX7_against 4 RX7 D cy := ⟨B0.exec, B0.bytes, hml, findClass_of_methodNamed B0.named, fun w hw => hts w (List.mem_cons_of_mem _ hw), hK, hN⟩
  have hx := B0.exec
  have hb := B0.bytes
  have hO : AdOk ad (AW ad) := hI.self
  have hH : Hd D (AW ad) (Wd ad cy x y) s s.heap [] := ⟨hP, va_S.rf⟩
  have hl := lv_entry ([.ref (ad 35), .int a1, .int a2, .int a3]) (n := 4) (Nat.le_of_ble_eq_true rfl)
  rw [lg_entry_eq]
  generalize (lg_sl ([.ref (ad 35), .int a1, .int a2, .int a3]) ++ List.replicate (4 - (lg_sl ([.ref (ad 35), .int a1, .int a2, .int a3])).length) Slot.unset).toArray = ls at hl ⊢
  have hl : lv_has ls 4 [(0, .ref (ad 35)), (1, .int a1), (2, .int a2), (3, .int a3)] := hl
  unfold wX7_against at h
  refine lv_aload_n hx hb dX7_against_0 rfl (lv_at hl 0 rfl) ?_
  refine gr_36 B hH wk3_52 dX7_against_1 ?_
  refine lv_iload_n hx hb dX7_against_4 rfl (lv_at hl 1 rfl) ?_
  obtain ⟨b1, h⟩ := h
  refine ald_36 B hH b1 dX7_against_5 ?_
  refine lv_aload_n hx hb dX7_against_6 rfl (lv_at hl 0 rfl) ?_
  refine gr_36 B hH wk3_52 dX7_against_7 ?_
  refine lv_iload_n hx hb dX7_against_10 rfl (lv_at hl 2 rfl) ?_
  obtain ⟨b2, h⟩ := h
  refine ald_36 B hH b2 dX7_against_11 ?_
  refine lv_icmp_eq (tgt := 31) hx hb dX7_against_12 (by decide) (fun c3 => ?_) (fun c3 => ?_)
  · replace h := h.1 c3
    refine lv_aload_n hx hb dX7_against_31 rfl (lv_at hl 0 rfl) ?_
    refine lv_iload_n hx hb dX7_against_32 rfl (lv_at hl 1 rfl) ?_
    refine lv_iload_n hx hb dX7_against_33 rfl (lv_at hl 3 rfl) ?_
    refine xVi (Wf := (fun z => Wd ad cy x z)) (n := 2) (P := 35) (ci := 7) (As := [.int a1, .int a3]) (rest := []) B hH hO (kX7_keyOf l hO.1 a1 a3 _ x y h) rfl rfl wk3_223 wk3_225 wkp_18 wk1_8 wk3_226 (by decide +kernel) rfl ⟨rfl, rfl⟩ ⟨Nat.le_of_ble_eq_true rfl, Nat.le_of_ble_eq_true rfl⟩ ⟨Nat.zero_le _, Nat.zero_le _⟩ hl.1 rfl (Nat.le_of_ble_eq_true rfl) dX7_against_34 (fun r4 y4 H locs h hH => ?_)
    replace hH : Hd D (AW ad) (Wd ad cy x y4) s H locs := hH
    refine lv_aload_n hx hb dX7_against_37 rfl (lv_at hl 0 rfl) ?_
    refine lv_iload_n hx hb dX7_against_38 rfl (lv_at hl 2 rfl) ?_
    refine lv_iload_n hx hb dX7_against_39 rfl (lv_at hl 3 rfl) ?_
    refine xVi (Wf := (fun z => Wd ad cy x z)) (n := 2) (P := 35) (ci := 7) (As := [.int a2, .int a3]) (rest := [.int r4]) B hH hO (kX7_keyOf l hO.1 a2 a3 _ x y4 h) rfl rfl wk3_223 wk3_225 wkp_18 wk1_8 wk3_226 (by decide +kernel) rfl ⟨rfl, rfl⟩ ⟨Nat.le_of_ble_eq_true rfl, Nat.le_of_ble_eq_true rfl⟩ ⟨Nat.zero_le _, Nat.zero_le _⟩ hl.1 rfl (Nat.le_of_ble_eq_true rfl) dX7_against_40 (fun r5 y5 H locs h hH => ?_)
    replace hH : Hd D (AW ad) (Wd ad cy x y5) s H locs := hH
    refine lv_icmp_eq (tgt := 62) hx hb dX7_against_43 (by decide) (fun c6 => ?_) (fun c6 => ?_)
    · replace h := h.1 c6
      refine lv_aload_n hx hb dX7_against_62 rfl (lv_at hl 0 rfl) ?_
      refine gr_39 B hH wk3_55 dX7_against_63 ?_
      refine lv_iload_n hx hb dX7_against_66 rfl (lv_at hl 1 rfl) ?_
      refine ald_39 B hH b1 dX7_against_67 ?_
      refine lv_aload_n hx hb dX7_against_68 rfl (lv_at hl 0 rfl) ?_
      refine gr_39 B hH wk3_55 dX7_against_69 ?_
      refine lv_iload_n hx hb dX7_against_72 rfl (lv_at hl 2 rfl) ?_
      refine ald_39 B hH b2 dX7_against_73 ?_
      refine lv_icmp_eq (tgt := 95) hx hb dX7_against_74 (by decide) (fun c7 => ?_) (fun c7 => ?_)
      · replace h := h.1 c7
        refine lv_iload_n hx hb dX7_against_95 rfl (lv_at hl 1 rfl) ?_
        refine lv_iload_n hx hb dX7_against_96 rfl (lv_at hl 2 rfl) ?_
        refine xSi (Wf := (fun z => Wd ad cy x z)) (n := 2) (As := [.int a1, .int a2]) (rest := []) B hH hO (kX7_sign l hO.1 a1 a2 _ x y5 h) wk3_220 wk3_221 wk1_8 wk3_222 (by decide +kernel) rfl ⟨rfl, rfl⟩ ⟨Nat.le_of_ble_eq_true rfl, Nat.le_of_ble_eq_true rfl⟩ ⟨Nat.zero_le _, Nat.zero_le _⟩ hl.1 rfl (Nat.le_of_ble_eq_true rfl) dX7_against_97 (fun r8 y8 H locs h hH => ?_)
        replace hH : Hd D (AW ad) (Wd ad cy x y8) s H locs := hH
        exact xret_i hx hb hr hlocks hH h dX7_against_100
      · replace h := h.2 c7
        refine lv_aload_n hx hb dX7_against_77 rfl (lv_at hl 0 rfl) ?_
        refine gr_39 B hH wk3_55 dX7_against_78 ?_
        refine lv_iload_n hx hb dX7_against_81 rfl (lv_at hl 1 rfl) ?_
        refine ald_39 B hH b1 dX7_against_82 ?_
        refine lv_aload_n hx hb dX7_against_83 rfl (lv_at hl 0 rfl) ?_
        refine gr_39 B hH wk3_55 dX7_against_84 ?_
        refine lv_iload_n hx hb dX7_against_87 rfl (lv_at hl 2 rfl) ?_
        refine ald_39 B hH b2 dX7_against_88 ?_
        refine xSi (Wf := (fun z => Wd ad cy x z)) (n := 2) (As := [.int (gA y5 39 a1), .int (gA y5 39 a2)]) (rest := []) B hH hO (kX7_sign l hO.1 (gA y5 39 a1) (gA y5 39 a2) _ x y5 h) wk3_220 wk3_221 wk1_8 wk3_222 (by decide +kernel) rfl ⟨rfl, rfl⟩ ⟨Nat.le_of_ble_eq_true rfl, Nat.le_of_ble_eq_true rfl⟩ ⟨Nat.zero_le _, Nat.zero_le _⟩ hl.1 rfl (Nat.le_of_ble_eq_true rfl) dX7_against_89 (fun r9 y9 H locs h hH => ?_)
        replace hH : Hd D (AW ad) (Wd ad cy x y9) s H locs := hH
        refine lv_goto (tgt := 100) hx hb dX7_against_92 (by decide) ?_
        exact xret_i hx hb hr hlocks hH h dX7_against_100
    · replace h := h.2 c6
      refine lv_aload_n hx hb dX7_against_46 rfl (lv_at hl 0 rfl) ?_
      refine lv_iload_n hx hb dX7_against_47 rfl (lv_at hl 1 rfl) ?_
      refine lv_iload_n hx hb dX7_against_48 rfl (lv_at hl 3 rfl) ?_
      refine xVi (Wf := (fun z => Wd ad cy x z)) (n := 2) (P := 35) (ci := 7) (As := [.int a1, .int a3]) (rest := []) B hH hO (kX7_keyOf l hO.1 a1 a3 _ x y5 h) rfl rfl wk3_223 wk3_225 wkp_18 wk1_8 wk3_226 (by decide +kernel) rfl ⟨rfl, rfl⟩ ⟨Nat.le_of_ble_eq_true rfl, Nat.le_of_ble_eq_true rfl⟩ ⟨Nat.zero_le _, Nat.zero_le _⟩ hl.1 rfl (Nat.le_of_ble_eq_true rfl) dX7_against_49 (fun r10 y10 H locs h hH => ?_)
      replace hH : Hd D (AW ad) (Wd ad cy x y10) s H locs := hH
      refine lv_aload_n hx hb dX7_against_52 rfl (lv_at hl 0 rfl) ?_
      refine lv_iload_n hx hb dX7_against_53 rfl (lv_at hl 2 rfl) ?_
      refine lv_iload_n hx hb dX7_against_54 rfl (lv_at hl 3 rfl) ?_
      refine xVi (Wf := (fun z => Wd ad cy x z)) (n := 2) (P := 35) (ci := 7) (As := [.int a2, .int a3]) (rest := [.int r10]) B hH hO (kX7_keyOf l hO.1 a2 a3 _ x y10 h) rfl rfl wk3_223 wk3_225 wkp_18 wk1_8 wk3_226 (by decide +kernel) rfl ⟨rfl, rfl⟩ ⟨Nat.le_of_ble_eq_true rfl, Nat.le_of_ble_eq_true rfl⟩ ⟨Nat.zero_le _, Nat.zero_le _⟩ hl.1 rfl (Nat.le_of_ble_eq_true rfl) dX7_against_55 (fun r11 y11 H locs h hH => ?_)
      replace hH : Hd D (AW ad) (Wd ad cy x y11) s H locs := hH
      refine xSi (Wf := (fun z => Wd ad cy x z)) (n := 2) (As := [.int r10, .int r11]) (rest := []) B hH hO (kX7_sign l hO.1 r10 r11 _ x y11 h) wk3_220 wk3_221 wk1_8 wk3_222 (by decide +kernel) rfl ⟨rfl, rfl⟩ ⟨Nat.le_of_ble_eq_true rfl, Nat.le_of_ble_eq_true rfl⟩ ⟨Nat.zero_le _, Nat.zero_le _⟩ hl.1 rfl (Nat.le_of_ble_eq_true rfl) dX7_against_58 (fun r12 y12 H locs h hH => ?_)
      replace hH : Hd D (AW ad) (Wd ad cy x y12) s H locs := hH
      exact xret_i hx hb hr hlocks hH h dX7_against_61
  · replace h := h.2 c3
    refine lv_aload_n hx hb dX7_against_15 rfl (lv_at hl 0 rfl) ?_
    refine gr_36 B hH wk3_52 dX7_against_16 ?_
    refine lv_iload_n hx hb dX7_against_19 rfl (lv_at hl 1 rfl) ?_
    refine ald_36 B hH b1 dX7_against_20 ?_
    refine lv_aload_n hx hb dX7_against_21 rfl (lv_at hl 0 rfl) ?_
    refine gr_36 B hH wk3_52 dX7_against_22 ?_
    refine lv_iload_n hx hb dX7_against_25 rfl (lv_at hl 2 rfl) ?_
    refine ald_36 B hH b2 dX7_against_26 ?_
    refine xSi (Wf := (fun z => Wd ad cy x z)) (n := 2) (As := [.int (gA y 36 a1), .int (gA y 36 a2)]) (rest := []) B hH hO (kX7_sign l hO.1 (gA y 36 a1) (gA y 36 a2) _ x y h) wk3_220 wk3_221 wk1_8 wk3_222 (by decide +kernel) rfl ⟨rfl, rfl⟩ ⟨Nat.le_of_ble_eq_true rfl, Nat.le_of_ble_eq_true rfl⟩ ⟨Nat.zero_le _, Nat.zero_le _⟩ hl.1 rfl (Nat.le_of_ble_eq_true rfl) dX7_against_27 (fun r13 y13 H locs h hH => ?_)
    replace hH : Hd D (AW ad) (Wd ad cy x y13) s H locs := hH
    exact xret_i hx hb hr hlocks hH h dX7_against_30
set_option maxHeartbeats 4000000 in
set_option maxRecDepth 100000 in
theorem kX7_compare (l : Launch) {D : va_G} {cy : Nat → ClassId} {ad : Nat → Nat} (hI : AdI ad) (a1 : Int32) (a2 : Int32) (a3 : Int32) (K : Int32 → ST → Prop) (x y : ST) (h : wX7_compare a1 a2 a3 K y) : Met l yX7_compare (Cond.code yX7_compare cX7_compare 4 (some .int) :: WL) ({ frames := 2, cells := 0, slots := 0, locals := 47 } : Room) (va_Pc [.ref (ad 35), .int a1, .int a2, .int a3] (PW D cy ad x y)) (va_Qi K (QW D (fun z => Wd ad cy x z)) (AW ad)) 0 0 (AW ad) := by
  refine Met.ofW (cc := cX7_compare) (maxL := 4) (ret := (some .int)) (by decide) rfl ?_
  intro p e s m args below meth c s₁ B0 hml hv
  obtain ⟨rfl, hP, hK, hN⟩ := hv
  have hr := B0.returns
  have hlocks := B0.notSynchronized
  have hts := atoms_spec (ws := (Cond.code yX7_compare cX7_compare 4 (some .int) :: WL)) B0.pre
  have B : Bd p s m ([Value.ref (ad 35), Value.int a1, Value.int a2, Value.int a3] : List Value).toArray c cX7_compare 4 RX7 D cy := ⟨B0.exec, B0.bytes, hml, findClass_of_methodNamed B0.named, fun w hw => hts w (List.mem_cons_of_mem _ hw), hK, hN⟩
  have hx := B0.exec
  have hb := B0.bytes
  have hO : AdOk ad (AW ad) := hI.self
  have hH : Hd D (AW ad) (Wd ad cy x y) s s.heap [] := ⟨hP, va_S.rf⟩
  have hl := lv_entry ([.ref (ad 35), .int a1, .int a2, .int a3]) (n := 4) (Nat.le_of_ble_eq_true rfl)
  rw [lg_entry_eq]
  generalize (lg_sl ([.ref (ad 35), .int a1, .int a2, .int a3]) ++ List.replicate (4 - (lg_sl ([.ref (ad 35), .int a1, .int a2, .int a3])).length) Slot.unset).toArray = ls at hl ⊢
  have hl : lv_has ls 4 [(0, .ref (ad 35)), (1, .int a1), (2, .int a2), (3, .int a3)] := hl
  unfold wX7_compare at h
  refine lv_aload_n hx hb dX7_compare_0 rfl (lv_at hl 0 rfl) ?_
  refine lv_iload_n hx hb dX7_compare_1 rfl (lv_at hl 1 rfl) ?_
  refine xVi (Wf := (fun z => Wd ad cy x z)) (n := 1) (P := 35) (ci := 7) (As := [.int a1]) (rest := []) B hH hO (kX7_isBook l hO.1 a1 _ x y h) rfl rfl wk3_212 wk3_214 wkp_16 wk1_8 wk3_215 (by decide +kernel) rfl ⟨rfl, rfl⟩ ⟨Nat.le_of_ble_eq_true rfl, Nat.le_of_ble_eq_true rfl⟩ ⟨Nat.zero_le _, Nat.zero_le _⟩ hl.1 rfl (Nat.le_of_ble_eq_true rfl) dX7_compare_2 (fun r1 y1 H locs h hH => ?_)
  obtain ⟨h, hz1⟩ := h
  replace hH : Hd D (AW ad) (Wd ad cy x y1) s H locs := hH
  refine lv_if_eq (tgt := 35) hx hb dX7_compare_5 (by decide) (fun c2 => ?_) (fun c2 => ?_)
  · replace h := h.1 c2
    refine lv_bipush (v := (-2)) hx hb dX7_compare_35 (by decide) ?_
    exact xret_i hx hb hr hlocks hH h dX7_compare_37
  · replace h := h.2 c2
    refine lv_aload_n hx hb dX7_compare_8 rfl (lv_at hl 0 rfl) ?_
    refine lv_iload_n hx hb dX7_compare_9 rfl (lv_at hl 2 rfl) ?_
    refine xVi (Wf := (fun z => Wd ad cy x z)) (n := 1) (P := 35) (ci := 7) (As := [.int a2]) (rest := []) B hH hO (kX7_isBook l hO.1 a2 _ x y1 h) rfl rfl wk3_212 wk3_214 wkp_16 wk1_8 wk3_215 (by decide +kernel) rfl ⟨rfl, rfl⟩ ⟨Nat.le_of_ble_eq_true rfl, Nat.le_of_ble_eq_true rfl⟩ ⟨Nat.zero_le _, Nat.zero_le _⟩ hl.1 rfl (Nat.le_of_ble_eq_true rfl) dX7_compare_10 (fun r3 y3 H locs h hH => ?_)
    obtain ⟨h, hz3⟩ := h
    replace hH : Hd D (AW ad) (Wd ad cy x y3) s H locs := hH
    refine lv_if_eq (tgt := 35) hx hb dX7_compare_13 (by decide) (fun c4 => ?_) (fun c4 => ?_)
    · replace h := h.1 c4
      refine lv_bipush (v := (-2)) hx hb dX7_compare_35 (by decide) ?_
      exact xret_i hx hb hr hlocks hH h dX7_compare_37
    · replace h := h.2 c4
      refine lv_iload_n hx hb dX7_compare_16 rfl (lv_at hl 3 rfl) ?_
      refine lv_iconst (v := 0) hx hb dX7_compare_17 (by decide) ?_
      refine lv_iconst (v := 1) hx hb dX7_compare_18 (by decide) ?_
      refine xSi (Wf := (fun z => Wd ad cy x z)) (n := 3) (As := [.int a3, .int 0, .int 1]) (rest := []) B hH hO (kX7_isIn l hO.1 a3 0 1 _ x y3 h) wk3_181 wk3_182 wk1_8 wk3_183 (by decide +kernel) rfl ⟨rfl, rfl⟩ ⟨Nat.le_of_ble_eq_true rfl, Nat.le_of_ble_eq_true rfl⟩ ⟨Nat.zero_le _, Nat.zero_le _⟩ hl.1 rfl (Nat.le_of_ble_eq_true rfl) dX7_compare_19 (fun r5 y5 H locs h hH => ?_)
      obtain ⟨h, hz5⟩ := h
      replace hH : Hd D (AW ad) (Wd ad cy x y5) s H locs := hH
      refine lv_if_eq (tgt := 35) hx hb dX7_compare_22 (by decide) (fun c6 => ?_) (fun c6 => ?_)
      · replace h := h.1 c6
        refine lv_bipush (v := (-2)) hx hb dX7_compare_35 (by decide) ?_
        exact xret_i hx hb hr hlocks hH h dX7_compare_37
      · replace h := h.2 c6
        refine lv_aload_n hx hb dX7_compare_25 rfl (lv_at hl 0 rfl) ?_
        refine lv_iload_n hx hb dX7_compare_26 rfl (lv_at hl 1 rfl) ?_
        refine lv_iload_n hx hb dX7_compare_27 rfl (lv_at hl 2 rfl) ?_
        refine lv_iload_n hx hb dX7_compare_28 rfl (lv_at hl 3 rfl) ?_
        refine xVi (Wf := (fun z => Wd ad cy x z)) (n := 3) (P := 35) (ci := 7) (As := [.int a1, .int a2, .int a3]) (rest := []) B hH hO (kX7_against l hO.1 a1 a2 a3 _ x y5 h) rfl rfl wk3_216 wk3_218 wkp_17 wk1_8 wk3_219 (by decide +kernel) rfl ⟨rfl, rfl⟩ ⟨Nat.le_of_ble_eq_true rfl, Nat.le_of_ble_eq_true rfl⟩ ⟨Nat.zero_le _, Nat.zero_le _⟩ hl.1 rfl (Nat.le_of_ble_eq_true rfl) dX7_compare_29 (fun r7 y7 H locs h hH => ?_)
        replace hH : Hd D (AW ad) (Wd ad cy x y7) s H locs := hH
        refine lv_goto (tgt := 37) hx hb dX7_compare_32 (by decide) ?_
        exact xret_i hx hb hr hlocks hH h dX7_compare_37
set_option maxHeartbeats 4000000 in
set_option maxRecDepth 100000 in
theorem kX7_sort (l : Launch) {D : va_G} {cy : Nat → ClassId} {ad : Nat → Nat} (hI : AdI ad) (a1 : Int32) (K : ST → Prop) (x y : ST) (h : wX7_sort a1 K y) : Met l yX7_sort (Cond.code yX7_sort cX7_sort 4 none :: WL) ({ frames := 2, cells := 0, slots := 0, locals := 47 } : Room) (va_Pc [.ref (ad 35), .int a1] (PW D cy ad x y)) (va_Qv K (QW D (fun z => Wd ad cy x z)) (AW ad)) 0 0 (AW ad) := by
  refine Met.ofW (cc := cX7_sort) (maxL := 4) (ret := none) (by decide) rfl ?_
  intro p e s m args below meth c s₁ B0 hml hv
  obtain ⟨rfl, hP, hK, hN⟩ := hv
  have hr := B0.returns
  have hlocks := B0.notSynchronized
  have hts := atoms_spec (ws := (Cond.code yX7_sort cX7_sort 4 none :: WL)) B0.pre
  have B : Bd p s m ([Value.ref (ad 35), Value.int a1] : List Value).toArray c cX7_sort 4 RX7 D cy := ⟨B0.exec, B0.bytes, hml, findClass_of_methodNamed B0.named, fun w hw => hts w (List.mem_cons_of_mem _ hw), hK, hN⟩
  have hx := B0.exec
  have hb := B0.bytes
  have hO : AdOk ad (AW ad) := hI.self
  have hH : Hd D (AW ad) (Wd ad cy x y) s s.heap [] := ⟨hP, va_S.rf⟩
  have hl := lv_entry ([.ref (ad 35), .int a1]) (n := 4) (Nat.le_of_ble_eq_true rfl)
  rw [lg_entry_eq]
  generalize (lg_sl ([.ref (ad 35), .int a1]) ++ List.replicate (4 - (lg_sl ([.ref (ad 35), .int a1])).length) Slot.unset).toArray = ls at hl ⊢
  have hl : lv_has ls 4 [(0, .ref (ad 35)), (1, .int a1)] := hl
  unfold wX7_sort at h
  refine lv_iconst (v := 0) hx hb dX7_sort_0 (by decide) ?_
  refine lv_istore_n (lv' := [(2, .int 0), (0, .ref (ad 35)), (1, .int a1)]) hx hb dX7_sort_1 rfl hl (by decide) rfl (fun ls hl => ?_)
  obtain ⟨n_2, h⟩ := h
  have loop_2 : ∀ (n_2 : Nat) (v2_2 : Int32) (y_2 : ST) (H : Heap) (locs : List Loc) (ls : Array Slot), Hd D (AW ad) (Wd ad cy x y_2) s H locs → lv_has ls 4 [(0, .ref (ad 35)), (1, .int a1), (2, .int v2_2)] → it (fun (_ : Int32) (_ : ST) => False) (FX7_sort_2 a1 K) n_2 v2_2 y_2 → W p l e (headSpec (Cond.code yX7_sort cX7_sort 4 none :: WL) ({ frames := 2, cells := 0, slots := 0, locals := 47 } : Room)).room s m ([Value.ref (ad 35), Value.int a1] : List Value).toArray below meth c H locs 0 0 (MQ below (va_Qv K (QW D (fun z => Wd ad cy x z)) (AW ad)) ([Value.ref (ad 35), Value.int a1] : List Value).toArray s 0 0 (AW ad)) (F0 m 2 ls []) := by
    intro n_2
    induction n_2 with
    | zero => intro v2_2 y_2 H locs ls hH hl h; exact False.elim h
    | succ n_2 ih2 =>
      intro v2_2 y_2 H locs ls hH hl h
      refine lv_iload_n hx hb dX7_sort_2 rfl (lv_at hl 2 rfl) ?_
      refine lv_aload_n hx hb dX7_sort_3 rfl (lv_at hl 0 rfl) ?_
      refine gf_22 B hH wk3_48 dX7_sort_4 ?_
      refine lv_icmp_ge (tgt := 66) hx hb dX7_sort_7 (by decide) (fun c2_1 => ?_) (fun c2_1 => ?_)
      · replace h := h.1 c2_1
        exact xret_v hx hb hr hlocks hH h dX7_sort_66
      · replace h := h.2 c2_1
        refine lv_iload_n hx hb dX7_sort_10 rfl (lv_at hl 2 rfl) ?_
        refine lv_istore_n (lv' := [(3, .int v2_2), (0, .ref (ad 35)), (1, .int a1), (2, .int v2_2)]) hx hb dX7_sort_11 rfl hl (by decide) rfl (fun ls hl => ?_)
        obtain ⟨n_12, h⟩ := h
        have loop_12 : ∀ (f2_12 : Int32) (n_12 : Nat) (v3_12 : Int32) (y_12 : ST) (H : Heap) (locs : List Loc) (ls : Array Slot), Hd D (AW ad) (Wd ad cy x y_12) s H locs → lv_has ls 4 [(0, .ref (ad 35)), (1, .int a1), (2, .int f2_12), (3, .int v3_12)] → it (fun (_ : Int32) (_ : ST) => False) (FX7_sort_12 a1 (it (fun (_ : Int32) (_ : ST) => False) (FX7_sort_2 a1 K) n_2) f2_12) n_12 v3_12 y_12 → W p l e (headSpec (Cond.code yX7_sort cX7_sort 4 none :: WL) ({ frames := 2, cells := 0, slots := 0, locals := 47 } : Room)).room s m ([Value.ref (ad 35), Value.int a1] : List Value).toArray below meth c H locs 0 0 (MQ below (va_Qv K (QW D (fun z => Wd ad cy x z)) (AW ad)) ([Value.ref (ad 35), Value.int a1] : List Value).toArray s 0 0 (AW ad)) (F0 m 12 ls []) := by
          intro f2_12 n_12
          induction n_12 with
          | zero => intro v3_12 y_12 H locs ls hH hl h; exact False.elim h
          | succ n_12 ih12 =>
            intro v3_12 y_12 H locs ls hH hl h
            refine lv_iload_n hx hb dX7_sort_12 rfl (lv_at hl 3 rfl) ?_
            refine lv_if_le (tgt := 53) hx hb dX7_sort_13 (by decide) (fun c12_1 => ?_) (fun c12_1 => ?_)
            · replace h := h.1 c12_1
              refine lv_aload_n hx hb dX7_sort_53 rfl (lv_at hl 0 rfl) ?_
              refine gr_47 B hH wk3_67 dX7_sort_54 ?_
              refine lv_iload_n hx hb dX7_sort_57 rfl (lv_at hl 3 rfl) ?_
              refine lv_iload_n hx hb dX7_sort_58 rfl (lv_at hl 2 rfl) ?_
              obtain ⟨b12_2, h⟩ := h
              refine ast_47 B hH hO b12_2 dX7_sort_59 (fun y12_3 e12_3 H locs hH => ?_)
              replace h := h y12_3 e12_3
              obtain ⟨v2_12_4, e12_4⟩ : ∃ z : Int32, z = f2_12 + 1 := ⟨_, rfl⟩
              replace h := h v2_12_4 e12_4
              refine lv_iinc (v := v2_12_4) (lv' := [(2, .int v2_12_4), (0, .ref (ad 35)), (1, .int a1), (3, .int v3_12)]) hx hb dX7_sort_60 hl (k := 2) rfl (by rw [e12_4]; first | rfl | done) (by decide) rfl (fun ls hl => ?_)
              refine lv_goto (tgt := 2) hx hb dX7_sort_63 (by decide) ?_
              exact ih2 v2_12_4 y12_3 _ _ _ hH (lv_sub hl [1, 2, 0] rfl) h
            · replace h := h.2 c12_1
              refine lv_aload_n hx hb dX7_sort_16 rfl (lv_at hl 0 rfl) ?_
              refine lv_aload_n hx hb dX7_sort_17 rfl (lv_at hl 0 rfl) ?_
              refine gr_47 B hH wk3_67 dX7_sort_18 ?_
              refine lv_iload_n hx hb dX7_sort_21 rfl (lv_at hl 3 rfl) ?_
              refine lv_iconst (v := 1) hx hb dX7_sort_22 (by decide) ?_
              refine lv_isub hx hb dX7_sort_23 ?_
              obtain ⟨b12_5, h⟩ := h
              refine ald_47 B hH b12_5 dX7_sort_24 ?_
              refine lv_iload_n hx hb dX7_sort_25 rfl (lv_at hl 2 rfl) ?_
              refine lv_iload_n hx hb dX7_sort_26 rfl (lv_at hl 1 rfl) ?_
              refine xVi (Wf := (fun z => Wd ad cy x z)) (n := 3) (P := 35) (ci := 7) (As := [.int (gA y_12 47 (v3_12 - 1)), .int f2_12, .int a1]) (rest := []) B hH hO (kX7_against l hO.1 (gA y_12 47 (v3_12 - 1)) f2_12 a1 _ x y_12 h) rfl rfl wk3_216 wk3_218 wkp_17 wk1_8 wk3_219 (by decide +kernel) rfl ⟨rfl, rfl⟩ ⟨Nat.le_of_ble_eq_true rfl, Nat.le_of_ble_eq_true rfl⟩ ⟨Nat.zero_le _, Nat.zero_le _⟩ hl.1 rfl (Nat.le_of_ble_eq_true rfl) dX7_sort_27 (fun r12_6 y12_6 H locs h hH => ?_)
              replace hH : Hd D (AW ad) (Wd ad cy x y12_6) s H locs := hH
              refine lv_if_le (tgt := 53) hx hb dX7_sort_30 (by decide) (fun c12_7 => ?_) (fun c12_7 => ?_)
              · replace h := h.1 c12_7
                refine lv_aload_n hx hb dX7_sort_53 rfl (lv_at hl 0 rfl) ?_
                refine gr_47 B hH wk3_67 dX7_sort_54 ?_
                refine lv_iload_n hx hb dX7_sort_57 rfl (lv_at hl 3 rfl) ?_
                refine lv_iload_n hx hb dX7_sort_58 rfl (lv_at hl 2 rfl) ?_
                obtain ⟨b12_8, h⟩ := h
                refine ast_47 B hH hO b12_8 dX7_sort_59 (fun y12_9 e12_9 H locs hH => ?_)
                replace h := h y12_9 e12_9
                obtain ⟨v2_12_10, e12_10⟩ : ∃ z : Int32, z = f2_12 + 1 := ⟨_, rfl⟩
                replace h := h v2_12_10 e12_10
                refine lv_iinc (v := v2_12_10) (lv' := [(2, .int v2_12_10), (0, .ref (ad 35)), (1, .int a1), (3, .int v3_12)]) hx hb dX7_sort_60 hl (k := 2) rfl (by rw [e12_10]; first | rfl | done) (by decide) rfl (fun ls hl => ?_)
                refine lv_goto (tgt := 2) hx hb dX7_sort_63 (by decide) ?_
                exact ih2 v2_12_10 y12_9 _ _ _ hH (lv_sub hl [1, 2, 0] rfl) h
              · replace h := h.2 c12_7
                refine lv_aload_n hx hb dX7_sort_33 rfl (lv_at hl 0 rfl) ?_
                refine gr_47 B hH wk3_67 dX7_sort_34 ?_
                refine lv_iload_n hx hb dX7_sort_37 rfl (lv_at hl 3 rfl) ?_
                refine lv_aload_n hx hb dX7_sort_38 rfl (lv_at hl 0 rfl) ?_
                refine gr_47 B hH wk3_67 dX7_sort_39 ?_
                refine lv_iload_n hx hb dX7_sort_42 rfl (lv_at hl 3 rfl) ?_
                refine lv_iconst (v := 1) hx hb dX7_sort_43 (by decide) ?_
                refine lv_isub hx hb dX7_sort_44 ?_
                refine ald_47 B hH b12_5 dX7_sort_45 ?_
                obtain ⟨b12_11, h⟩ := h
                refine ast_47 B hH hO b12_11 dX7_sort_46 (fun y12_12 e12_12 H locs hH => ?_)
                replace h := h y12_12 e12_12
                obtain ⟨v3_12_13, e12_13⟩ : ∃ z : Int32, z = v3_12 + (-1) := ⟨_, rfl⟩
                replace h := h v3_12_13 e12_13
                refine lv_iinc (v := v3_12_13) (lv' := [(3, .int v3_12_13), (0, .ref (ad 35)), (1, .int a1), (2, .int f2_12)]) hx hb dX7_sort_47 hl (k := 3) rfl (by rw [e12_13]; first | rfl | done) (by decide) rfl (fun ls hl => ?_)
                refine lv_goto (tgt := 12) hx hb dX7_sort_50 (by decide) ?_
                exact ih12 v3_12_13 y12_12 _ _ _ hH (lv_sub hl [1, 2, 3, 0] rfl) h
        exact loop_12 v2_2 n_12 v2_2 y_2 _ _ _ hH (lv_sub hl [1, 2, 3, 0] rfl) h
  exact loop_2 n_2 0 y _ _ _ hH (lv_sub hl [1, 2, 0] rfl) h
set_option maxHeartbeats 4000000 in
set_option maxRecDepth 100000 in
theorem kX7_ordered (l : Launch) {D : va_G} {cy : Nat → ClassId} {ad : Nat → Nat} (hI : AdI ad) (a1 : Int32) (a2 : Int32) (K : Int32 → ST → Prop) (x y : ST) (h : wX7_ordered a1 a2 K y) : Met l yX7_ordered (Cond.code yX7_ordered cX7_ordered 3 (some .int) :: WL) ({ frames := 3, cells := 0, slots := 0, locals := 70 } : Room) (va_Pc [.ref (ad 35), .int a1, .int a2] (PW D cy ad x y)) (va_Qi K (QW D (fun z => Wd ad cy x z)) (AW ad)) 0 0 (AW ad) := by
  refine Met.ofW (cc := cX7_ordered) (maxL := 3) (ret := (some .int)) (by decide) rfl ?_
  intro p e s m args below meth c s₁ B0 hml hv
  obtain ⟨rfl, hP, hK, hN⟩ := hv
  have hr := B0.returns
  have hlocks := B0.notSynchronized
  have hts := atoms_spec (ws := (Cond.code yX7_ordered cX7_ordered 3 (some .int) :: WL)) B0.pre
  have B : Bd p s m ([Value.ref (ad 35), Value.int a1, Value.int a2] : List Value).toArray c cX7_ordered 3 RX7 D cy := ⟨B0.exec, B0.bytes, hml, findClass_of_methodNamed B0.named, fun w hw => hts w (List.mem_cons_of_mem _ hw), hK, hN⟩
  have hx := B0.exec
  have hb := B0.bytes
  have hO : AdOk ad (AW ad) := hI.self
  have hH : Hd D (AW ad) (Wd ad cy x y) s s.heap [] := ⟨hP, va_S.rf⟩
  have hl := lv_entry ([.ref (ad 35), .int a1, .int a2]) (n := 3) (Nat.le_of_ble_eq_true rfl)
  rw [lg_entry_eq]
  generalize (lg_sl ([.ref (ad 35), .int a1, .int a2]) ++ List.replicate (3 - (lg_sl ([.ref (ad 35), .int a1, .int a2])).length) Slot.unset).toArray = ls at hl ⊢
  have hl : lv_has ls 3 [(0, .ref (ad 35)), (1, .int a1), (2, .int a2)] := hl
  unfold wX7_ordered at h
  refine lv_iload_n hx hb dX7_ordered_0 rfl (lv_at hl 1 rfl) ?_
  refine lv_iconst (v := 0) hx hb dX7_ordered_1 (by decide) ?_
  refine lv_aload_n hx hb dX7_ordered_2 rfl (lv_at hl 0 rfl) ?_
  refine gf_22 B hH wk3_48 dX7_ordered_3 ?_
  refine lv_iconst (v := 1) hx hb dX7_ordered_6 (by decide) ?_
  refine lv_isub hx hb dX7_ordered_7 ?_
  refine xSi (Wf := (fun z => Wd ad cy x z)) (n := 3) (As := [.int a1, .int 0, .int (((gI y 22) - 1))]) (rest := []) B hH hO (kX7_isIn l hO.1 a1 0 ((gI y 22) - 1) _ x y h) wk3_181 wk3_182 wk1_8 wk3_183 (by decide +kernel) rfl ⟨rfl, rfl⟩ ⟨Nat.le_of_ble_eq_true rfl, Nat.le_of_ble_eq_true rfl⟩ ⟨Nat.zero_le _, Nat.zero_le _⟩ hl.1 rfl (Nat.le_of_ble_eq_true rfl) dX7_ordered_8 (fun r1 y1 H locs h hH => ?_)
  obtain ⟨h, hz1⟩ := h
  replace hH : Hd D (AW ad) (Wd ad cy x y1) s H locs := hH
  refine lv_if_eq (tgt := 23) hx hb dX7_ordered_11 (by decide) (fun c2 => ?_) (fun c2 => ?_)
  · replace h := h.1 c2
    refine lv_iconst (v := (-1)) hx hb dX7_ordered_23 (by decide) ?_
    exact xret_i hx hb hr hlocks hH h dX7_ordered_24
  · replace h := h.2 c2
    refine lv_iload_n hx hb dX7_ordered_14 rfl (lv_at hl 2 rfl) ?_
    refine lv_iconst (v := 0) hx hb dX7_ordered_15 (by decide) ?_
    refine lv_iconst (v := 1) hx hb dX7_ordered_16 (by decide) ?_
    refine xSi (Wf := (fun z => Wd ad cy x z)) (n := 3) (As := [.int a2, .int 0, .int 1]) (rest := []) B hH hO (kX7_isIn l hO.1 a2 0 1 _ x y1 h) wk3_181 wk3_182 wk1_8 wk3_183 (by decide +kernel) rfl ⟨rfl, rfl⟩ ⟨Nat.le_of_ble_eq_true rfl, Nat.le_of_ble_eq_true rfl⟩ ⟨Nat.zero_le _, Nat.zero_le _⟩ hl.1 rfl (Nat.le_of_ble_eq_true rfl) dX7_ordered_17 (fun r3 y3 H locs h hH => ?_)
    obtain ⟨h, hz3⟩ := h
    replace hH : Hd D (AW ad) (Wd ad cy x y3) s H locs := hH
    refine lv_if_ne (tgt := 25) hx hb dX7_ordered_20 (by decide) (fun c4 => ?_) (fun c4 => ?_)
    · replace h := h.1 c4
      refine lv_aload_n hx hb dX7_ordered_25 rfl (lv_at hl 0 rfl) ?_
      refine lv_iload_n hx hb dX7_ordered_26 rfl (lv_at hl 2 rfl) ?_
      refine xVv (Wf := (fun z => Wd ad cy x z)) (n := 1) (P := 35) (ci := 7) (As := [.int a2]) (rest := []) B hH hO (kX7_sort l hO.1 a2 _ x y3 h) rfl rfl wk3_231 wk3_233 wkp_19 wk1_8 wk3_234 (by decide +kernel) rfl ⟨rfl, rfl⟩ ⟨Nat.le_of_ble_eq_true rfl, Nat.le_of_ble_eq_true rfl⟩ ⟨Nat.zero_le _, Nat.zero_le _⟩ hl.1 rfl (Nat.le_of_ble_eq_true rfl) dX7_ordered_27 (fun y5 H locs h hH => ?_)
      replace hH : Hd D (AW ad) (Wd ad cy x y5) s H locs := hH
      refine lv_aload_n hx hb dX7_ordered_30 rfl (lv_at hl 0 rfl) ?_
      refine gr_47 B hH wk3_67 dX7_ordered_31 ?_
      refine lv_iload_n hx hb dX7_ordered_34 rfl (lv_at hl 1 rfl) ?_
      obtain ⟨b6, h⟩ := h
      refine ald_47 B hH b6 dX7_ordered_35 ?_
      exact xret_i hx hb hr hlocks hH h dX7_ordered_36
    · replace h := h.2 c4
      refine lv_iconst (v := (-1)) hx hb dX7_ordered_23 (by decide) ?_
      exact xret_i hx hb hr hlocks hH h dX7_ordered_24
set_option maxHeartbeats 4000000 in
set_option maxRecDepth 100000 in
theorem kX7_quarrels (l : Launch) {D : va_G} {cy : Nat → ClassId} {ad : Nat → Nat} (hI : AdI ad) (K : Int32 → ST → Prop) (x y : ST) (h : wX7_quarrels K y) : Met l yX7_quarrels (Cond.code yX7_quarrels cX7_quarrels 4 (some .int) :: WL) ({ frames := 2, cells := 0, slots := 0, locals := 47 } : Room) (va_Pc [.ref (ad 35)] (PW D cy ad x y)) (va_Qi K (QW D (fun z => Wd ad cy x z)) (AW ad)) 0 0 (AW ad) := by
  refine Met.ofW (cc := cX7_quarrels) (maxL := 4) (ret := (some .int)) (by decide) rfl ?_
  intro p e s m args below meth c s₁ B0 hml hv
  obtain ⟨rfl, hP, hK, hN⟩ := hv
  have hr := B0.returns
  have hlocks := B0.notSynchronized
  have hts := atoms_spec (ws := (Cond.code yX7_quarrels cX7_quarrels 4 (some .int) :: WL)) B0.pre
  have B : Bd p s m ([Value.ref (ad 35)] : List Value).toArray c cX7_quarrels 4 RX7 D cy := ⟨B0.exec, B0.bytes, hml, findClass_of_methodNamed B0.named, fun w hw => hts w (List.mem_cons_of_mem _ hw), hK, hN⟩
  have hx := B0.exec
  have hb := B0.bytes
  have hO : AdOk ad (AW ad) := hI.self
  have hH : Hd D (AW ad) (Wd ad cy x y) s s.heap [] := ⟨hP, va_S.rf⟩
  have hl := lv_entry ([.ref (ad 35)]) (n := 4) (Nat.le_of_ble_eq_true rfl)
  rw [lg_entry_eq]
  generalize (lg_sl ([.ref (ad 35)]) ++ List.replicate (4 - (lg_sl ([.ref (ad 35)])).length) Slot.unset).toArray = ls at hl ⊢
  have hl : lv_has ls 4 [(0, .ref (ad 35))] := hl
  unfold wX7_quarrels at h
  refine lv_iconst (v := 0) hx hb dX7_quarrels_0 (by decide) ?_
  refine lv_istore_n (lv' := [(1, .int 0), (0, .ref (ad 35))]) hx hb dX7_quarrels_1 rfl hl (by decide) rfl (fun ls hl => ?_)
  refine lv_iconst (v := 0) hx hb dX7_quarrels_2 (by decide) ?_
  refine lv_istore_n (lv' := [(2, .int 0), (1, .int 0), (0, .ref (ad 35))]) hx hb dX7_quarrels_3 rfl hl (by decide) rfl (fun ls hl => ?_)
  obtain ⟨n_4, h⟩ := h
  have loop_4 : ∀ (n_4 : Nat) (v1_4 : Int32) (v2_4 : Int32) (y_4 : ST) (H : Heap) (locs : List Loc) (ls : Array Slot), Hd D (AW ad) (Wd ad cy x y_4) s H locs → lv_has ls 4 [(0, .ref (ad 35)), (1, .int v1_4), (2, .int v2_4)] → it (fun (_ : Int32) (_ : Int32) (_ : ST) => False) (FX7_quarrels_4 K) n_4 v1_4 v2_4 y_4 → W p l e (headSpec (Cond.code yX7_quarrels cX7_quarrels 4 (some .int) :: WL) ({ frames := 2, cells := 0, slots := 0, locals := 47 } : Room)).room s m ([Value.ref (ad 35)] : List Value).toArray below meth c H locs 0 0 (MQ below (va_Qi K (QW D (fun z => Wd ad cy x z)) (AW ad)) ([Value.ref (ad 35)] : List Value).toArray s 0 0 (AW ad)) (F0 m 4 ls []) := by
    intro n_4
    induction n_4 with
    | zero => intro v1_4 v2_4 y_4 H locs ls hH hl h; exact False.elim h
    | succ n_4 ih4 =>
      intro v1_4 v2_4 y_4 H locs ls hH hl h
      refine lv_iload_n hx hb dX7_quarrels_4 rfl (lv_at hl 2 rfl) ?_
      refine lv_aload_n hx hb dX7_quarrels_5 rfl (lv_at hl 0 rfl) ?_
      refine gf_22 B hH wk3_48 dX7_quarrels_6 ?_
      refine lv_icmp_ge (tgt := 56) hx hb dX7_quarrels_9 (by decide) (fun c4_1 => ?_) (fun c4_1 => ?_)
      · replace h := h.1 c4_1
        refine lv_iload_n hx hb dX7_quarrels_56 rfl (lv_at hl 1 rfl) ?_
        exact xret_i hx hb hr hlocks hH h dX7_quarrels_57
      · replace h := h.2 c4_1
        refine lv_iconst (v := 0) hx hb dX7_quarrels_12 (by decide) ?_
        refine lv_istore_n (lv' := [(3, .int 0), (0, .ref (ad 35)), (1, .int v1_4), (2, .int v2_4)]) hx hb dX7_quarrels_13 rfl hl (by decide) rfl (fun ls hl => ?_)
        obtain ⟨n_14, h⟩ := h
        have loop_14 : ∀ (f2_14 : Int32) (n_14 : Nat) (v1_14 : Int32) (v3_14 : Int32) (y_14 : ST) (H : Heap) (locs : List Loc) (ls : Array Slot), Hd D (AW ad) (Wd ad cy x y_14) s H locs → lv_has ls 4 [(0, .ref (ad 35)), (2, .int f2_14), (1, .int v1_14), (3, .int v3_14)] → it (fun (_ : Int32) (_ : Int32) (_ : ST) => False) (FX7_quarrels_14 (it (fun (_ : Int32) (_ : Int32) (_ : ST) => False) (FX7_quarrels_4 K) n_4) f2_14) n_14 v1_14 v3_14 y_14 → W p l e (headSpec (Cond.code yX7_quarrels cX7_quarrels 4 (some .int) :: WL) ({ frames := 2, cells := 0, slots := 0, locals := 47 } : Room)).room s m ([Value.ref (ad 35)] : List Value).toArray below meth c H locs 0 0 (MQ below (va_Qi K (QW D (fun z => Wd ad cy x z)) (AW ad)) ([Value.ref (ad 35)] : List Value).toArray s 0 0 (AW ad)) (F0 m 14 ls []) := by
          intro f2_14 n_14
          induction n_14 with
          | zero => intro v1_14 v3_14 y_14 H locs ls hH hl h; exact False.elim h
          | succ n_14 ih14 =>
            intro v1_14 v3_14 y_14 H locs ls hH hl h
            refine lv_iload_n hx hb dX7_quarrels_14 rfl (lv_at hl 3 rfl) ?_
            refine lv_iload_n hx hb dX7_quarrels_15 rfl (lv_at hl 1 rfl) ?_
            refine lv_icmp_ge (tgt := 50) hx hb dX7_quarrels_16 (by decide) (fun c14_1 => ?_) (fun c14_1 => ?_)
            · replace h := h.1 c14_1
              obtain ⟨v2_14_2, e14_2⟩ : ∃ z : Int32, z = f2_14 + 1 := ⟨_, rfl⟩
              replace h := h v2_14_2 e14_2
              refine lv_iinc (v := v2_14_2) (lv' := [(2, .int v2_14_2), (0, .ref (ad 35)), (1, .int v1_14), (3, .int v3_14)]) hx hb dX7_quarrels_50 hl (k := 1) rfl (by rw [e14_2]; first | rfl | done) (by decide) rfl (fun ls hl => ?_)
              refine lv_goto (tgt := 4) hx hb dX7_quarrels_53 (by decide) ?_
              exact ih4 v1_14 v2_14_2 y_14 _ _ _ hH (lv_sub hl [1, 2, 0] rfl) h
            · replace h := h.2 c14_1
              refine lv_iload_n hx hb dX7_quarrels_19 rfl (lv_at hl 2 rfl) ?_
              refine lv_aload_n hx hb dX7_quarrels_20 rfl (lv_at hl 0 rfl) ?_
              refine lv_iload_n hx hb dX7_quarrels_21 rfl (lv_at hl 1 rfl) ?_
              refine lv_iload_n hx hb dX7_quarrels_22 rfl (lv_at hl 3 rfl) ?_
              refine lv_iconst (v := 0) hx hb dX7_quarrels_23 (by decide) ?_
              refine xVi (Wf := (fun z => Wd ad cy x z)) (n := 3) (P := 35) (ci := 7) (As := [.int f2_14, .int v3_14, .int 0]) (rest := [.int v1_14]) B hH hO (kX7_against l hO.1 f2_14 v3_14 0 _ x y_14 h) rfl rfl wk3_216 wk3_218 wkp_17 wk1_8 wk3_219 (by decide +kernel) rfl ⟨rfl, rfl⟩ ⟨Nat.le_of_ble_eq_true rfl, Nat.le_of_ble_eq_true rfl⟩ ⟨Nat.zero_le _, Nat.zero_le _⟩ hl.1 rfl (Nat.le_of_ble_eq_true rfl) dX7_quarrels_24 (fun r14_3 y14_3 H locs h hH => ?_)
              replace hH : Hd D (AW ad) (Wd ad cy x y14_3) s H locs := hH
              refine lv_aload_n hx hb dX7_quarrels_27 rfl (lv_at hl 0 rfl) ?_
              refine lv_iload_n hx hb dX7_quarrels_28 rfl (lv_at hl 1 rfl) ?_
              refine lv_iload_n hx hb dX7_quarrels_29 rfl (lv_at hl 3 rfl) ?_
              refine lv_iconst (v := 1) hx hb dX7_quarrels_30 (by decide) ?_
              refine xVi (Wf := (fun z => Wd ad cy x z)) (n := 3) (P := 35) (ci := 7) (As := [.int f2_14, .int v3_14, .int 1]) (rest := [.int r14_3, .int v1_14]) B hH hO (kX7_against l hO.1 f2_14 v3_14 1 _ x y14_3 h) rfl rfl wk3_216 wk3_218 wkp_17 wk1_8 wk3_219 (by decide +kernel) rfl ⟨rfl, rfl⟩ ⟨Nat.le_of_ble_eq_true rfl, Nat.le_of_ble_eq_true rfl⟩ ⟨Nat.zero_le _, Nat.zero_le _⟩ hl.1 rfl (Nat.le_of_ble_eq_true rfl) dX7_quarrels_31 (fun r14_4 y14_4 H locs h hH => ?_)
              replace hH : Hd D (AW ad) (Wd ad cy x y14_4) s H locs := hH
              refine lv_icmp_eq (tgt := 41) hx hb dX7_quarrels_34 (by decide) (fun c14_5 => ?_) (fun c14_5 => ?_)
              · replace h := h.1 c14_5
                refine lv_iconst (v := 0) hx hb dX7_quarrels_41 (by decide) ?_
                refine lv_iadd hx hb dX7_quarrels_42 ?_
                refine lv_topi (fun v1_14_6 e14_6 => ?_)
                replace h := h v1_14_6 e14_6
                refine lv_istore_n (lv' := [(1, .int v1_14_6), (0, .ref (ad 35)), (2, .int f2_14), (3, .int v3_14)]) hx hb dX7_quarrels_43 rfl hl (by decide) rfl (fun ls hl => ?_)
                obtain ⟨v3_14_7, e14_7⟩ : ∃ z : Int32, z = v3_14 + 1 := ⟨_, rfl⟩
                replace h := h v3_14_7 e14_7
                refine lv_iinc (v := v3_14_7) (lv' := [(3, .int v3_14_7), (1, .int v1_14_6), (0, .ref (ad 35)), (2, .int f2_14)]) hx hb dX7_quarrels_44 hl (k := 3) rfl (by rw [e14_7]; first | rfl | done) (by decide) rfl (fun ls hl => ?_)
                refine lv_goto (tgt := 14) hx hb dX7_quarrels_47 (by decide) ?_
                exact ih14 v1_14_6 v3_14_7 y14_4 _ _ _ hH (lv_sub hl [2, 3, 1, 0] rfl) h
              · replace h := h.2 c14_5
                refine lv_iconst (v := 1) hx hb dX7_quarrels_37 (by decide) ?_
                refine lv_goto (tgt := 42) hx hb dX7_quarrels_38 (by decide) ?_
                refine lv_iadd hx hb dX7_quarrels_42 ?_
                refine lv_topi (fun v1_14_8 e14_8 => ?_)
                replace h := h v1_14_8 e14_8
                refine lv_istore_n (lv' := [(1, .int v1_14_8), (0, .ref (ad 35)), (2, .int f2_14), (3, .int v3_14)]) hx hb dX7_quarrels_43 rfl hl (by decide) rfl (fun ls hl => ?_)
                obtain ⟨v3_14_9, e14_9⟩ : ∃ z : Int32, z = v3_14 + 1 := ⟨_, rfl⟩
                replace h := h v3_14_9 e14_9
                refine lv_iinc (v := v3_14_9) (lv' := [(3, .int v3_14_9), (1, .int v1_14_8), (0, .ref (ad 35)), (2, .int f2_14)]) hx hb dX7_quarrels_44 hl (k := 3) rfl (by rw [e14_9]; first | rfl | done) (by decide) rfl (fun ls hl => ?_)
                refine lv_goto (tgt := 14) hx hb dX7_quarrels_47 (by decide) ?_
                exact ih14 v1_14_8 v3_14_9 y14_4 _ _ _ hH (lv_sub hl [2, 3, 1, 0] rfl) h
        exact loop_14 v2_4 n_14 v1_4 0 y_4 _ _ _ hH (lv_sub hl [1, 3, 2, 0] rfl) h
  exact loop_4 n_4 0 0 y _ _ _ hH (lv_sub hl [2, 1, 0] rfl) h
set_option maxHeartbeats 4000000 in
set_option maxRecDepth 100000 in
theorem kX7_shelf (l : Launch) {D : va_G} {cy : Nat → ClassId} {ad : Nat → Nat} (hI : AdI ad) (a1 : Int32) (K : Int32 → ST → Prop) (x y : ST) (h : wX7_shelf a1 K y) : Met l yX7_shelf (Cond.code yX7_shelf cX7_shelf 2 (some .int) :: WL) ({ frames := 1, cells := 0, slots := 0, locals := 22 } : Room) (va_Pc [.ref (ad 35), .int a1] (PW D cy ad x y)) (va_Qi K (QW D (fun z => Wd ad cy x z)) (AW ad)) 0 0 (AW ad) := by
  refine Met.ofW (cc := cX7_shelf) (maxL := 2) (ret := (some .int)) (by decide) rfl ?_
  intro p e s m args below meth c s₁ B0 hml hv
  obtain ⟨rfl, hP, hK, hN⟩ := hv
  have hr := B0.returns
  have hlocks := B0.notSynchronized
  have hts := atoms_spec (ws := (Cond.code yX7_shelf cX7_shelf 2 (some .int) :: WL)) B0.pre
  have B : Bd p s m ([Value.ref (ad 35), Value.int a1] : List Value).toArray c cX7_shelf 2 RX7 D cy := ⟨B0.exec, B0.bytes, hml, findClass_of_methodNamed B0.named, fun w hw => hts w (List.mem_cons_of_mem _ hw), hK, hN⟩
  have hx := B0.exec
  have hb := B0.bytes
  have hO : AdOk ad (AW ad) := hI.self
  have hH : Hd D (AW ad) (Wd ad cy x y) s s.heap [] := ⟨hP, va_S.rf⟩
  have hl := lv_entry ([.ref (ad 35), .int a1]) (n := 2) (Nat.le_of_ble_eq_true rfl)
  rw [lg_entry_eq]
  generalize (lg_sl ([.ref (ad 35), .int a1]) ++ List.replicate (2 - (lg_sl ([.ref (ad 35), .int a1])).length) Slot.unset).toArray = ls at hl ⊢
  have hl : lv_has ls 2 [(0, .ref (ad 35)), (1, .int a1)] := hl
  unfold wX7_shelf at h
  refine lv_iload_n hx hb dX7_shelf_0 rfl (lv_at hl 1 rfl) ?_
  refine lv_iconst (v := 1) hx hb dX7_shelf_1 (by decide) ?_
  refine lv_sipush (v := 2000) hx hb dX7_shelf_2 (by decide) ?_
  refine xSi (Wf := (fun z => Wd ad cy x z)) (n := 3) (As := [.int a1, .int 1, .int 2000]) (rest := []) B hH hO (kX7_isIn l hO.1 a1 1 2000 _ x y h) wk3_181 wk3_182 wk1_8 wk3_183 (by decide +kernel) rfl ⟨rfl, rfl⟩ ⟨Nat.le_of_ble_eq_true rfl, Nat.le_of_ble_eq_true rfl⟩ ⟨Nat.zero_le _, Nat.zero_le _⟩ hl.1 rfl (Nat.le_of_ble_eq_true rfl) dX7_shelf_5 (fun r1 y1 H locs h hH => ?_)
  obtain ⟨h, hz1⟩ := h
  replace hH : Hd D (AW ad) (Wd ad cy x y1) s H locs := hH
  refine lv_if_eq (tgt := 20) hx hb dX7_shelf_8 (by decide) (fun c2 => ?_) (fun c2 => ?_)
  · replace h := h.1 c2
    refine lv_iconst (v := (-1)) hx hb dX7_shelf_20 (by decide) ?_
    exact xret_i hx hb hr hlocks hH h dX7_shelf_21
  · replace h := h.2 c2
    refine lv_aload_n hx hb dX7_shelf_11 rfl (lv_at hl 0 rfl) ?_
    refine gf_26 B hH wk3_59 dX7_shelf_12 ?_
    refine lv_bipush (v := 16) hx hb dX7_shelf_15 (by decide) ?_
    refine lv_icmp_ne (tgt := 22) hx hb dX7_shelf_17 (by decide) (fun c3 => ?_) (fun c3 => ?_)
    · replace h := h.1 c3
      refine lv_aload_n hx hb dX7_shelf_22 rfl (lv_at hl 0 rfl) ?_
      refine gr_43 B hH wk3_60 dX7_shelf_23 ?_
      refine lv_aload_n hx hb dX7_shelf_26 rfl (lv_at hl 0 rfl) ?_
      refine gf_26 B hH wk3_59 dX7_shelf_27 ?_
      refine lv_iload_n hx hb dX7_shelf_30 rfl (lv_at hl 1 rfl) ?_
      obtain ⟨b4, h⟩ := h
      refine ast_43 B hH hO b4 dX7_shelf_31 (fun y5 e5 H locs hH => ?_)
      replace h := h y5 e5
      refine lv_aload_n hx hb dX7_shelf_32 rfl (lv_at hl 0 rfl) ?_
      refine lv_dup hx hb dX7_shelf_33 rfl ?_
      refine gf_26 B hH wk3_59 dX7_shelf_34 ?_
      refine lv_iconst (v := 1) hx hb dX7_shelf_37 (by decide) ?_
      refine lv_iadd hx hb dX7_shelf_38 ?_
      refine pf_26 B hH hO wk3_59 dX7_shelf_39 (fun y6 e6 H locs hH => ?_)
      replace h := h y6 e6
      refine lv_aload_n hx hb dX7_shelf_42 rfl (lv_at hl 0 rfl) ?_
      refine gf_26 B hH wk3_59 dX7_shelf_43 ?_
      refine lv_iconst (v := 1) hx hb dX7_shelf_46 (by decide) ?_
      refine lv_isub hx hb dX7_shelf_47 ?_
      exact xret_i hx hb hr hlocks hH h dX7_shelf_48
    · replace h := h.2 c3
      refine lv_iconst (v := (-1)) hx hb dX7_shelf_20 (by decide) ?_
      exact xret_i hx hb hr hlocks hH h dX7_shelf_21
set_option maxHeartbeats 4000000 in
set_option maxRecDepth 100000 in
theorem kX7_sizes (l : Launch) {D : va_G} {cy : Nat → ClassId} {ad : Nat → Nat} (hI : AdI ad) (a1 : Int32) (a2 : Int32) (K : Int32 → ST → Prop) (x y : ST) (h : wX7_sizes a1 a2 K y) : Met l yX7_sizes (Cond.code yX7_sizes cX7_sizes 3 (some .boolean) :: WL) ({ frames := 1, cells := 0, slots := 0, locals := 22 } : Room) (va_Pc [.ref (ad 35), .int a1, .int a2] (PW D cy ad x y)) (va_Qi (fun r z => K r z ∧ (r = 0 ∨ r = 1)) (QW D (fun z => Wd ad cy x z)) (AW ad)) 0 0 (AW ad) := by
  refine Met.ofW (cc := cX7_sizes) (maxL := 3) (ret := (some .boolean)) (by decide) rfl ?_
  intro p e s m args below meth c s₁ B0 hml hv
  obtain ⟨rfl, hP, hK, hN⟩ := hv
  have hr := B0.returns
  have hlocks := B0.notSynchronized
  have hts := atoms_spec (ws := (Cond.code yX7_sizes cX7_sizes 3 (some .boolean) :: WL)) B0.pre
  have B : Bd p s m ([Value.ref (ad 35), Value.int a1, Value.int a2] : List Value).toArray c cX7_sizes 3 RX7 D cy := ⟨B0.exec, B0.bytes, hml, findClass_of_methodNamed B0.named, fun w hw => hts w (List.mem_cons_of_mem _ hw), hK, hN⟩
  have hx := B0.exec
  have hb := B0.bytes
  have hO : AdOk ad (AW ad) := hI.self
  have hH : Hd D (AW ad) (Wd ad cy x y) s s.heap [] := ⟨hP, va_S.rf⟩
  have hl := lv_entry ([.ref (ad 35), .int a1, .int a2]) (n := 3) (Nat.le_of_ble_eq_true rfl)
  rw [lg_entry_eq]
  generalize (lg_sl ([.ref (ad 35), .int a1, .int a2]) ++ List.replicate (3 - (lg_sl ([.ref (ad 35), .int a1, .int a2])).length) Slot.unset).toArray = ls at hl ⊢
  have hl : lv_has ls 3 [(0, .ref (ad 35)), (1, .int a1), (2, .int a2)] := hl
  unfold wX7_sizes at h
  refine lv_iload_n hx hb dX7_sizes_0 rfl (lv_at hl 1 rfl) ?_
  refine lv_iconst (v := 0) hx hb dX7_sizes_1 (by decide) ?_
  refine lv_bipush (v := 9) hx hb dX7_sizes_2 (by decide) ?_
  refine xSi (Wf := (fun z => Wd ad cy x z)) (n := 3) (As := [.int a1, .int 0, .int 9]) (rest := []) B hH hO (kX7_isIn l hO.1 a1 0 9 _ x y h) wk3_181 wk3_182 wk1_8 wk3_183 (by decide +kernel) rfl ⟨rfl, rfl⟩ ⟨Nat.le_of_ble_eq_true rfl, Nat.le_of_ble_eq_true rfl⟩ ⟨Nat.zero_le _, Nat.zero_le _⟩ hl.1 rfl (Nat.le_of_ble_eq_true rfl) dX7_sizes_4 (fun r1 y1 H locs h hH => ?_)
  obtain ⟨h, hz1⟩ := h
  replace hH : Hd D (AW ad) (Wd ad cy x y1) s H locs := hH
  refine lv_if_eq (tgt := 29) hx hb dX7_sizes_7 (by decide) (fun c2 => ?_) (fun c2 => ?_)
  · replace h := h.1 c2
    refine lv_iload_n hx hb dX7_sizes_29 rfl (lv_at hl 1 rfl) ?_
    refine lv_iconst (v := (-1)) hx hb dX7_sizes_30 (by decide) ?_
    refine lv_icmp_ne (tgt := 51) hx hb dX7_sizes_31 (by decide) (fun c3 => ?_) (fun c3 => ?_)
    · replace h := h.1 c3
      refine lv_iload_n hx hb dX7_sizes_51 rfl (lv_at hl 1 rfl) ?_
      refine lv_bipush (v := (-2)) hx hb dX7_sizes_52 (by decide) ?_
      refine lv_icmp_ne (tgt := 68) hx hb dX7_sizes_54 (by decide) (fun c4 => ?_) (fun c4 => ?_)
      · replace h := h.1 c4
        refine lv_iconst (v := 0) hx hb dX7_sizes_68 (by decide) ?_
        exact xret_z hx hb hr hlocks hH (Or.inl rfl) h dX7_sizes_69
      · replace h := h.2 c4
        refine lv_iload_n hx hb dX7_sizes_57 rfl (lv_at hl 2 rfl) ?_
        refine lv_iconst (v := 1) hx hb dX7_sizes_58 (by decide) ?_
        refine lv_sipush (v := 1000) hx hb dX7_sizes_59 (by decide) ?_
        refine xSi (Wf := (fun z => Wd ad cy x z)) (n := 3) (As := [.int a2, .int 1, .int 1000]) (rest := []) B hH hO (kX7_isIn l hO.1 a2 1 1000 _ x y1 h) wk3_181 wk3_182 wk1_8 wk3_183 (by decide +kernel) rfl ⟨rfl, rfl⟩ ⟨Nat.le_of_ble_eq_true rfl, Nat.le_of_ble_eq_true rfl⟩ ⟨Nat.zero_le _, Nat.zero_le _⟩ hl.1 rfl (Nat.le_of_ble_eq_true rfl) dX7_sizes_62 (fun r5 y5 H locs h hH => ?_)
        obtain ⟨h, hz5⟩ := h
        replace hH : Hd D (AW ad) (Wd ad cy x y5) s H locs := hH
        refine lv_if_ne (tgt := 70) hx hb dX7_sizes_65 (by decide) (fun c6 => ?_) (fun c6 => ?_)
        · replace h := h.1 c6
          refine lv_aload_n hx hb dX7_sizes_70 rfl (lv_at hl 0 rfl) ?_
          refine lv_iload_n hx hb dX7_sizes_71 rfl (lv_at hl 2 rfl) ?_
          refine pf_25 B hH hO wk3_51 dX7_sizes_72 (fun y7 e7 H locs hH => ?_)
          replace h := h y7 e7
          refine lv_iconst (v := 1) hx hb dX7_sizes_75 (by decide) ?_
          exact xret_z hx hb hr hlocks hH (Or.inr rfl) h dX7_sizes_76
        · replace h := h.2 c6
          refine lv_iconst (v := 0) hx hb dX7_sizes_68 (by decide) ?_
          exact xret_z hx hb hr hlocks hH (Or.inl rfl) h dX7_sizes_69
    · replace h := h.2 c3
      refine lv_iload_n hx hb dX7_sizes_34 rfl (lv_at hl 2 rfl) ?_
      refine lv_iconst (v := 1) hx hb dX7_sizes_35 (by decide) ?_
      refine lv_bipush (v := 100) hx hb dX7_sizes_36 (by decide) ?_
      refine xSi (Wf := (fun z => Wd ad cy x z)) (n := 3) (As := [.int a2, .int 1, .int 100]) (rest := []) B hH hO (kX7_isIn l hO.1 a2 1 100 _ x y1 h) wk3_181 wk3_182 wk1_8 wk3_183 (by decide +kernel) rfl ⟨rfl, rfl⟩ ⟨Nat.le_of_ble_eq_true rfl, Nat.le_of_ble_eq_true rfl⟩ ⟨Nat.zero_le _, Nat.zero_le _⟩ hl.1 rfl (Nat.le_of_ble_eq_true rfl) dX7_sizes_38 (fun r8 y8 H locs h hH => ?_)
      obtain ⟨h, hz8⟩ := h
      replace hH : Hd D (AW ad) (Wd ad cy x y8) s H locs := hH
      refine lv_if_eq (tgt := 51) hx hb dX7_sizes_41 (by decide) (fun c9 => ?_) (fun c9 => ?_)
      · replace h := h.1 c9
        refine lv_iload_n hx hb dX7_sizes_51 rfl (lv_at hl 1 rfl) ?_
        refine lv_bipush (v := (-2)) hx hb dX7_sizes_52 (by decide) ?_
        refine lv_icmp_ne (tgt := 68) hx hb dX7_sizes_54 (by decide) (fun c10 => ?_) (fun c10 => ?_)
        · replace h := h.1 c10
          refine lv_iconst (v := 0) hx hb dX7_sizes_68 (by decide) ?_
          exact xret_z hx hb hr hlocks hH (Or.inl rfl) h dX7_sizes_69
        · replace h := h.2 c10
          refine lv_iload_n hx hb dX7_sizes_57 rfl (lv_at hl 2 rfl) ?_
          refine lv_iconst (v := 1) hx hb dX7_sizes_58 (by decide) ?_
          refine lv_sipush (v := 1000) hx hb dX7_sizes_59 (by decide) ?_
          refine xSi (Wf := (fun z => Wd ad cy x z)) (n := 3) (As := [.int a2, .int 1, .int 1000]) (rest := []) B hH hO (kX7_isIn l hO.1 a2 1 1000 _ x y8 h) wk3_181 wk3_182 wk1_8 wk3_183 (by decide +kernel) rfl ⟨rfl, rfl⟩ ⟨Nat.le_of_ble_eq_true rfl, Nat.le_of_ble_eq_true rfl⟩ ⟨Nat.zero_le _, Nat.zero_le _⟩ hl.1 rfl (Nat.le_of_ble_eq_true rfl) dX7_sizes_62 (fun r11 y11 H locs h hH => ?_)
          obtain ⟨h, hz11⟩ := h
          replace hH : Hd D (AW ad) (Wd ad cy x y11) s H locs := hH
          refine lv_if_ne (tgt := 70) hx hb dX7_sizes_65 (by decide) (fun c12 => ?_) (fun c12 => ?_)
          · replace h := h.1 c12
            refine lv_aload_n hx hb dX7_sizes_70 rfl (lv_at hl 0 rfl) ?_
            refine lv_iload_n hx hb dX7_sizes_71 rfl (lv_at hl 2 rfl) ?_
            refine pf_25 B hH hO wk3_51 dX7_sizes_72 (fun y13 e13 H locs hH => ?_)
            replace h := h y13 e13
            refine lv_iconst (v := 1) hx hb dX7_sizes_75 (by decide) ?_
            exact xret_z hx hb hr hlocks hH (Or.inr rfl) h dX7_sizes_76
          · replace h := h.2 c12
            refine lv_iconst (v := 0) hx hb dX7_sizes_68 (by decide) ?_
            exact xret_z hx hb hr hlocks hH (Or.inl rfl) h dX7_sizes_69
      · replace h := h.2 c9
        refine lv_aload_n hx hb dX7_sizes_44 rfl (lv_at hl 0 rfl) ?_
        refine lv_iload_n hx hb dX7_sizes_45 rfl (lv_at hl 2 rfl) ?_
        refine pf_24 B hH hO wk3_50 dX7_sizes_46 (fun y14 e14 H locs hH => ?_)
        replace h := h y14 e14
        refine lv_iconst (v := 1) hx hb dX7_sizes_49 (by decide) ?_
        exact xret_z hx hb hr hlocks hH (Or.inr rfl) h dX7_sizes_50
  · replace h := h.2 c2
    refine lv_iload_n hx hb dX7_sizes_10 rfl (lv_at hl 2 rfl) ?_
    refine lv_iconst (v := 0) hx hb dX7_sizes_11 (by decide) ?_
    refine lv_bipush (v := 100) hx hb dX7_sizes_12 (by decide) ?_
    refine xSi (Wf := (fun z => Wd ad cy x z)) (n := 3) (As := [.int a2, .int 0, .int 100]) (rest := []) B hH hO (kX7_isIn l hO.1 a2 0 100 _ x y1 h) wk3_181 wk3_182 wk1_8 wk3_183 (by decide +kernel) rfl ⟨rfl, rfl⟩ ⟨Nat.le_of_ble_eq_true rfl, Nat.le_of_ble_eq_true rfl⟩ ⟨Nat.zero_le _, Nat.zero_le _⟩ hl.1 rfl (Nat.le_of_ble_eq_true rfl) dX7_sizes_14 (fun r15 y15 H locs h hH => ?_)
    obtain ⟨h, hz15⟩ := h
    replace hH : Hd D (AW ad) (Wd ad cy x y15) s H locs := hH
    refine lv_if_eq (tgt := 29) hx hb dX7_sizes_17 (by decide) (fun c16 => ?_) (fun c16 => ?_)
    · replace h := h.1 c16
      refine lv_iload_n hx hb dX7_sizes_29 rfl (lv_at hl 1 rfl) ?_
      refine lv_iconst (v := (-1)) hx hb dX7_sizes_30 (by decide) ?_
      refine lv_icmp_ne (tgt := 51) hx hb dX7_sizes_31 (by decide) (fun c17 => ?_) (fun c17 => ?_)
      · replace h := h.1 c17
        refine lv_iload_n hx hb dX7_sizes_51 rfl (lv_at hl 1 rfl) ?_
        refine lv_bipush (v := (-2)) hx hb dX7_sizes_52 (by decide) ?_
        refine lv_icmp_ne (tgt := 68) hx hb dX7_sizes_54 (by decide) (fun c18 => ?_) (fun c18 => ?_)
        · replace h := h.1 c18
          refine lv_iconst (v := 0) hx hb dX7_sizes_68 (by decide) ?_
          exact xret_z hx hb hr hlocks hH (Or.inl rfl) h dX7_sizes_69
        · replace h := h.2 c18
          refine lv_iload_n hx hb dX7_sizes_57 rfl (lv_at hl 2 rfl) ?_
          refine lv_iconst (v := 1) hx hb dX7_sizes_58 (by decide) ?_
          refine lv_sipush (v := 1000) hx hb dX7_sizes_59 (by decide) ?_
          refine xSi (Wf := (fun z => Wd ad cy x z)) (n := 3) (As := [.int a2, .int 1, .int 1000]) (rest := []) B hH hO (kX7_isIn l hO.1 a2 1 1000 _ x y15 h) wk3_181 wk3_182 wk1_8 wk3_183 (by decide +kernel) rfl ⟨rfl, rfl⟩ ⟨Nat.le_of_ble_eq_true rfl, Nat.le_of_ble_eq_true rfl⟩ ⟨Nat.zero_le _, Nat.zero_le _⟩ hl.1 rfl (Nat.le_of_ble_eq_true rfl) dX7_sizes_62 (fun r19 y19 H locs h hH => ?_)
          obtain ⟨h, hz19⟩ := h
          replace hH : Hd D (AW ad) (Wd ad cy x y19) s H locs := hH
          refine lv_if_ne (tgt := 70) hx hb dX7_sizes_65 (by decide) (fun c20 => ?_) (fun c20 => ?_)
          · replace h := h.1 c20
            refine lv_aload_n hx hb dX7_sizes_70 rfl (lv_at hl 0 rfl) ?_
            refine lv_iload_n hx hb dX7_sizes_71 rfl (lv_at hl 2 rfl) ?_
            refine pf_25 B hH hO wk3_51 dX7_sizes_72 (fun y21 e21 H locs hH => ?_)
            replace h := h y21 e21
            refine lv_iconst (v := 1) hx hb dX7_sizes_75 (by decide) ?_
            exact xret_z hx hb hr hlocks hH (Or.inr rfl) h dX7_sizes_76
          · replace h := h.2 c20
            refine lv_iconst (v := 0) hx hb dX7_sizes_68 (by decide) ?_
            exact xret_z hx hb hr hlocks hH (Or.inl rfl) h dX7_sizes_69
      · replace h := h.2 c17
        refine lv_iload_n hx hb dX7_sizes_34 rfl (lv_at hl 2 rfl) ?_
        refine lv_iconst (v := 1) hx hb dX7_sizes_35 (by decide) ?_
        refine lv_bipush (v := 100) hx hb dX7_sizes_36 (by decide) ?_
        refine xSi (Wf := (fun z => Wd ad cy x z)) (n := 3) (As := [.int a2, .int 1, .int 100]) (rest := []) B hH hO (kX7_isIn l hO.1 a2 1 100 _ x y15 h) wk3_181 wk3_182 wk1_8 wk3_183 (by decide +kernel) rfl ⟨rfl, rfl⟩ ⟨Nat.le_of_ble_eq_true rfl, Nat.le_of_ble_eq_true rfl⟩ ⟨Nat.zero_le _, Nat.zero_le _⟩ hl.1 rfl (Nat.le_of_ble_eq_true rfl) dX7_sizes_38 (fun r22 y22 H locs h hH => ?_)
        obtain ⟨h, hz22⟩ := h
        replace hH : Hd D (AW ad) (Wd ad cy x y22) s H locs := hH
        refine lv_if_eq (tgt := 51) hx hb dX7_sizes_41 (by decide) (fun c23 => ?_) (fun c23 => ?_)
        · replace h := h.1 c23
          refine lv_iload_n hx hb dX7_sizes_51 rfl (lv_at hl 1 rfl) ?_
          refine lv_bipush (v := (-2)) hx hb dX7_sizes_52 (by decide) ?_
          refine lv_icmp_ne (tgt := 68) hx hb dX7_sizes_54 (by decide) (fun c24 => ?_) (fun c24 => ?_)
          · replace h := h.1 c24
            refine lv_iconst (v := 0) hx hb dX7_sizes_68 (by decide) ?_
            exact xret_z hx hb hr hlocks hH (Or.inl rfl) h dX7_sizes_69
          · replace h := h.2 c24
            refine lv_iload_n hx hb dX7_sizes_57 rfl (lv_at hl 2 rfl) ?_
            refine lv_iconst (v := 1) hx hb dX7_sizes_58 (by decide) ?_
            refine lv_sipush (v := 1000) hx hb dX7_sizes_59 (by decide) ?_
            refine xSi (Wf := (fun z => Wd ad cy x z)) (n := 3) (As := [.int a2, .int 1, .int 1000]) (rest := []) B hH hO (kX7_isIn l hO.1 a2 1 1000 _ x y22 h) wk3_181 wk3_182 wk1_8 wk3_183 (by decide +kernel) rfl ⟨rfl, rfl⟩ ⟨Nat.le_of_ble_eq_true rfl, Nat.le_of_ble_eq_true rfl⟩ ⟨Nat.zero_le _, Nat.zero_le _⟩ hl.1 rfl (Nat.le_of_ble_eq_true rfl) dX7_sizes_62 (fun r25 y25 H locs h hH => ?_)
            obtain ⟨h, hz25⟩ := h
            replace hH : Hd D (AW ad) (Wd ad cy x y25) s H locs := hH
            refine lv_if_ne (tgt := 70) hx hb dX7_sizes_65 (by decide) (fun c26 => ?_) (fun c26 => ?_)
            · replace h := h.1 c26
              refine lv_aload_n hx hb dX7_sizes_70 rfl (lv_at hl 0 rfl) ?_
              refine lv_iload_n hx hb dX7_sizes_71 rfl (lv_at hl 2 rfl) ?_
              refine pf_25 B hH hO wk3_51 dX7_sizes_72 (fun y27 e27 H locs hH => ?_)
              replace h := h y27 e27
              refine lv_iconst (v := 1) hx hb dX7_sizes_75 (by decide) ?_
              exact xret_z hx hb hr hlocks hH (Or.inr rfl) h dX7_sizes_76
            · replace h := h.2 c26
              refine lv_iconst (v := 0) hx hb dX7_sizes_68 (by decide) ?_
              exact xret_z hx hb hr hlocks hH (Or.inl rfl) h dX7_sizes_69
        · replace h := h.2 c23
          refine lv_aload_n hx hb dX7_sizes_44 rfl (lv_at hl 0 rfl) ?_
          refine lv_iload_n hx hb dX7_sizes_45 rfl (lv_at hl 2 rfl) ?_
          refine pf_24 B hH hO wk3_50 dX7_sizes_46 (fun y28 e28 H locs hH => ?_)
          replace h := h y28 e28
          refine lv_iconst (v := 1) hx hb dX7_sizes_49 (by decide) ?_
          exact xret_z hx hb hr hlocks hH (Or.inr rfl) h dX7_sizes_50
    · replace h := h.2 c16
      refine lv_aload_n hx hb dX7_sizes_20 rfl (lv_at hl 0 rfl) ?_
      refine gr_44 B hH wk3_61 dX7_sizes_21 ?_
      refine lv_iload_n hx hb dX7_sizes_24 rfl (lv_at hl 1 rfl) ?_
      refine lv_iload_n hx hb dX7_sizes_25 rfl (lv_at hl 2 rfl) ?_
      obtain ⟨b29, h⟩ := h
      refine ast_44 B hH hO b29 dX7_sizes_26 (fun y30 e30 H locs hH => ?_)
      replace h := h y30 e30
      refine lv_iconst (v := 1) hx hb dX7_sizes_27 (by decide) ?_
      exact xret_z hx hb hr hlocks hH (Or.inr rfl) h dX7_sizes_28
set_option maxHeartbeats 4000000 in
set_option maxRecDepth 100000 in
theorem kX7_lay (l : Launch) {D : va_G} {cy : Nat → ClassId} {ad : Nat → Nat} (hI : AdI ad) (K : ST → Prop) (x y : ST) (h : wX7_lay K y) : Met l yX7_lay (Cond.code yX7_lay cX7_lay 5 none :: WL) ({ frames := 3, cells := 0, slots := 0, locals := 70 } : Room) (va_Pc [.ref (ad 35)] (PW D cy ad x y)) (va_Qv K (QW D (fun z => Wd ad cy x z)) (AW ad)) 0 0 (AW ad) := by
  refine Met.ofW (cc := cX7_lay) (maxL := 5) (ret := none) (by decide) rfl ?_
  intro p e s m args below meth c s₁ B0 hml hv
  obtain ⟨rfl, hP, hK, hN⟩ := hv
  have hr := B0.returns
  have hlocks := B0.notSynchronized
  have hts := atoms_spec (ws := (Cond.code yX7_lay cX7_lay 5 none :: WL)) B0.pre
  have B : Bd p s m ([Value.ref (ad 35)] : List Value).toArray c cX7_lay 5 RX7 D cy := ⟨B0.exec, B0.bytes, hml, findClass_of_methodNamed B0.named, fun w hw => hts w (List.mem_cons_of_mem _ hw), hK, hN⟩
  have hx := B0.exec
  have hb := B0.bytes
  have hO : AdOk ad (AW ad) := hI.self
  have hH : Hd D (AW ad) (Wd ad cy x y) s s.heap [] := ⟨hP, va_S.rf⟩
  have hl := lv_entry ([.ref (ad 35)]) (n := 5) (Nat.le_of_ble_eq_true rfl)
  rw [lg_entry_eq]
  generalize (lg_sl ([.ref (ad 35)]) ++ List.replicate (5 - (lg_sl ([.ref (ad 35)])).length) Slot.unset).toArray = ls at hl ⊢
  have hl : lv_has ls 5 [(0, .ref (ad 35))] := hl
  unfold wX7_lay at h
  refine lv_aload_n hx hb dX7_lay_0 rfl (lv_at hl 0 rfl) ?_
  refine lv_aload_n hx hb dX7_lay_1 rfl (lv_at hl 0 rfl) ?_
  refine gf_23 B hH wk3_49 dX7_lay_2 ?_
  refine xVv (Wf := (fun z => Wd ad cy x z)) (n := 1) (P := 35) (ci := 7) (As := [.int (gI y 23)]) (rest := []) B hH hO (kX7_sort l hO.1 (gI y 23) _ x y h) rfl rfl wk3_231 wk3_233 wkp_19 wk1_8 wk3_234 (by decide +kernel) rfl ⟨rfl, rfl⟩ ⟨Nat.le_of_ble_eq_true rfl, Nat.le_of_ble_eq_true rfl⟩ ⟨Nat.zero_le _, Nat.zero_le _⟩ hl.1 rfl (Nat.le_of_ble_eq_true rfl) dX7_lay_5 (fun y1 H locs h hH => ?_)
  replace hH : Hd D (AW ad) (Wd ad cy x y1) s H locs := hH
  refine lv_aload_n hx hb dX7_lay_8 rfl (lv_at hl 0 rfl) ?_
  refine lv_iconst (v := 0) hx hb dX7_lay_9 (by decide) ?_
  refine pf_30 B hH hO wk3_72 dX7_lay_10 (fun y2 e2 H locs hH => ?_)
  replace h := h y2 e2
  refine lv_aload_n hx hb dX7_lay_13 rfl (lv_at hl 0 rfl) ?_
  refine lv_iconst (v := 0) hx hb dX7_lay_14 (by decide) ?_
  refine pf_31 B hH hO wk3_73 dX7_lay_15 (fun y3 e3 H locs hH => ?_)
  replace h := h y3 e3
  refine lv_iconst (v := 0) hx hb dX7_lay_18 (by decide) ?_
  refine lv_istore_n (lv' := [(1, .int 0), (0, .ref (ad 35))]) hx hb dX7_lay_19 rfl hl (by decide) rfl (fun ls hl => ?_)
  obtain ⟨n_20, h⟩ := h
  have loop_20 : ∀ (n_20 : Nat) (v1_20 : Int32) (y_20 : ST) (H : Heap) (locs : List Loc) (ls : Array Slot), Hd D (AW ad) (Wd ad cy x y_20) s H locs → lv_has ls 5 [(0, .ref (ad 35)), (1, .int v1_20)] → it (fun (_ : Int32) (_ : ST) => False) (FX7_lay_20 K) n_20 v1_20 y_20 → W p l e (headSpec (Cond.code yX7_lay cX7_lay 5 none :: WL) ({ frames := 3, cells := 0, slots := 0, locals := 70 } : Room)).room s m ([Value.ref (ad 35)] : List Value).toArray below meth c H locs 0 0 (MQ below (va_Qv K (QW D (fun z => Wd ad cy x z)) (AW ad)) ([Value.ref (ad 35)] : List Value).toArray s 0 0 (AW ad)) (F0 m 20 ls []) := by
    intro n_20
    induction n_20 with
    | zero => intro v1_20 y_20 H locs ls hH hl h; exact False.elim h
    | succ n_20 ih20 =>
      intro v1_20 y_20 H locs ls hH hl h
      refine lv_iload_n hx hb dX7_lay_20 rfl (lv_at hl 1 rfl) ?_
      refine lv_aload_n hx hb dX7_lay_21 rfl (lv_at hl 0 rfl) ?_
      refine gf_26 B hH wk3_59 dX7_lay_22 ?_
      refine lv_icmp_ge (tgt := 48) hx hb dX7_lay_25 (by decide) (fun c20_1 => ?_) (fun c20_1 => ?_)
      · replace h := h.1 c20_1
        refine lv_iconst (v := 0) hx hb dX7_lay_48 (by decide) ?_
        refine lv_istore_n (lv' := [(1, .int 0), (0, .ref (ad 35))]) hx hb dX7_lay_49 rfl hl (by decide) rfl (fun ls hl => ?_)
        refine lv_iconst (v := 0) hx hb dX7_lay_50 (by decide) ?_
        refine lv_istore_n (lv' := [(2, .int 0), (1, .int 0), (0, .ref (ad 35))]) hx hb dX7_lay_51 rfl hl (by decide) rfl (fun ls hl => ?_)
        obtain ⟨n_52, h⟩ := h
        have loop_52 : ∀ (n_52 : Nat) (v1_52 : Int32) (v2_52 : Int32) (y_52 : ST) (H : Heap) (locs : List Loc) (ls : Array Slot), Hd D (AW ad) (Wd ad cy x y_52) s H locs → lv_has ls 5 [(0, .ref (ad 35)), (1, .int v1_52), (2, .int v2_52)] → it (fun (_ : Int32) (_ : Int32) (_ : ST) => False) (FX7_lay_52 K) n_52 v1_52 v2_52 y_52 → W p l e (headSpec (Cond.code yX7_lay cX7_lay 5 none :: WL) ({ frames := 3, cells := 0, slots := 0, locals := 70 } : Room)).room s m ([Value.ref (ad 35)] : List Value).toArray below meth c H locs 0 0 (MQ below (va_Qv K (QW D (fun z => Wd ad cy x z)) (AW ad)) ([Value.ref (ad 35)] : List Value).toArray s 0 0 (AW ad)) (F0 m 52 ls []) := by
          intro n_52
          induction n_52 with
          | zero => intro v1_52 v2_52 y_52 H locs ls hH hl h; exact False.elim h
          | succ n_52 ih52 =>
            intro v1_52 v2_52 y_52 H locs ls hH hl h
            refine lv_iload_n hx hb dX7_lay_52 rfl (lv_at hl 2 rfl) ?_
            refine lv_aload_n hx hb dX7_lay_53 rfl (lv_at hl 0 rfl) ?_
            refine gf_22 B hH wk3_48 dX7_lay_54 ?_
            refine lv_icmp_ge (tgt := 229) hx hb dX7_lay_57 (by decide) (fun c52_1 => ?_) (fun c52_1 => ?_)
            · replace h := h.1 c52_1
              exact xret_v hx hb hr hlocks hH h dX7_lay_229
            · replace h := h.2 c52_1
              refine lv_aload_n hx hb dX7_lay_60 rfl (lv_at hl 0 rfl) ?_
              refine gr_47 B hH wk3_67 dX7_lay_61 ?_
              refine lv_iload_n hx hb dX7_lay_64 rfl (lv_at hl 2 rfl) ?_
              obtain ⟨b52_2, h⟩ := h
              refine ald_47 B hH b52_2 dX7_lay_65 ?_
              refine lv_topi (fun v3_52_3 e52_3 => ?_)
              replace h := h v3_52_3 e52_3
              refine lv_istore_n (lv' := [(3, .int v3_52_3), (0, .ref (ad 35)), (1, .int v1_52), (2, .int v2_52)]) hx hb dX7_lay_66 rfl hl (by decide) rfl (fun ls hl => ?_)
              refine lv_aload_n hx hb dX7_lay_67 rfl (lv_at hl 1 rfl) ?_
              refine gr_48 B hH wk3_68 dX7_lay_68 ?_
              refine lv_iload_n hx hb dX7_lay_71 rfl (lv_at hl 0 rfl) ?_
              refine lv_iconst (v := (-1)) hx hb dX7_lay_72 (by decide) ?_
              obtain ⟨b52_4, h⟩ := h
              refine ast_48 B hH hO b52_4 dX7_lay_73 (fun y52_5 e52_5 H locs hH => ?_)
              replace h := h y52_5 e52_5
              refine lv_aload_n hx hb dX7_lay_74 rfl (lv_at hl 1 rfl) ?_
              refine gr_42 B hH wk3_58 dX7_lay_75 ?_
              refine lv_iload_n hx hb dX7_lay_78 rfl (lv_at hl 0 rfl) ?_
              refine ald_42 B hH b52_4 dX7_lay_79 ?_
              refine lv_aload_n hx hb dX7_lay_80 rfl (lv_at hl 1 rfl) ?_
              refine gf_24 B hH wk3_50 dX7_lay_81 ?_
              refine lv_icmp_le (tgt := 100) hx hb dX7_lay_84 (by decide) (fun c52_6 => ?_) (fun c52_6 => ?_)
              · replace h := h.1 c52_6
                refine lv_aload_n hx hb dX7_lay_100 rfl (lv_at hl 1 rfl) ?_
                refine gr_41 B hH wk3_57 dX7_lay_101 ?_
                refine lv_iload_n hx hb dX7_lay_104 rfl (lv_at hl 0 rfl) ?_
                refine ald_41 B hH b52_4 dX7_lay_105 ?_
                refine lv_bipush (v := 100) hx hb dX7_lay_106 (by decide) ?_
                refine lv_aload_n hx hb dX7_lay_108 rfl (lv_at hl 1 rfl) ?_
                refine gr_44 B hH wk3_61 dX7_lay_109 ?_
                refine lv_aload_n hx hb dX7_lay_112 rfl (lv_at hl 1 rfl) ?_
                refine gr_36 B hH wk3_52 dX7_lay_113 ?_
                refine lv_iload_n hx hb dX7_lay_116 rfl (lv_at hl 0 rfl) ?_
                refine ald_36 B hH b52_4 dX7_lay_117 ?_
                refine lv_sipush (v := 1000) hx hb dX7_lay_118 (by decide) ?_
                refine lv_idiv hx hb dX7_lay_121 (by decide) ?_
                obtain ⟨b52_7, h⟩ := h
                refine ald_44 B hH b52_7 dX7_lay_122 ?_
                refine lv_iadd hx hb dX7_lay_123 ?_
                refine lv_imul hx hb dX7_lay_124 ?_
                refine lv_topi (fun v4_52_8 e52_8 => ?_)
                replace h := h v4_52_8 e52_8
                refine lv_istore (lv' := [(4, .int v4_52_8), (3, .int v3_52_3), (0, .ref (ad 35)), (1, .int v1_52), (2, .int v2_52)]) hx hb dX7_lay_125 hl (by decide) rfl (fun ls hl => ?_)
                obtain ⟨n_127, h⟩ := h
                have loop_127 : ∀ (f2_127 : Int32) (f3_127 : Int32) (f4_127 : Int32) (n_127 : Nat) (v1_127 : Int32) (y_127 : ST) (H : Heap) (locs : List Loc) (ls : Array Slot), Hd D (AW ad) (Wd ad cy x y_127) s H locs → lv_has ls 5 [(0, .ref (ad 35)), (2, .int f2_127), (3, .int f3_127), (4, .int f4_127), (1, .int v1_127)] → it (fun (_ : Int32) (_ : ST) => False) (FX7_lay_127 (it (fun (_ : Int32) (_ : Int32) (_ : ST) => False) (FX7_lay_52 K) n_52) f2_127 f3_127 f4_127) n_127 v1_127 y_127 → W p l e (headSpec (Cond.code yX7_lay cX7_lay 5 none :: WL) ({ frames := 3, cells := 0, slots := 0, locals := 70 } : Room)).room s m ([Value.ref (ad 35)] : List Value).toArray below meth c H locs 0 0 (MQ below (va_Qv K (QW D (fun z => Wd ad cy x z)) (AW ad)) ([Value.ref (ad 35)] : List Value).toArray s 0 0 (AW ad)) (F0 m 127 ls []) := by
                  intro f2_127 f3_127 f4_127 n_127
                  induction n_127 with
                  | zero => intro v1_127 y_127 H locs ls hH hl h; exact False.elim h
                  | succ n_127 ih127 =>
                    intro v1_127 y_127 H locs ls hH hl h
                    refine lv_iload_n hx hb dX7_lay_127 rfl (lv_at hl 4 rfl) ?_
                    refine lv_aload_n hx hb dX7_lay_128 rfl (lv_at hl 0 rfl) ?_
                    refine gf_26 B hH wk3_59 dX7_lay_129 ?_
                    refine lv_icmp_ge (tgt := 162) hx hb dX7_lay_132 (by decide) (fun c127_1 => ?_) (fun c127_1 => ?_)
                    · replace h := h.1 c127_1
                      refine lv_iload_n hx hb dX7_lay_162 rfl (lv_at hl 4 rfl) ?_
                      refine lv_aload_n hx hb dX7_lay_163 rfl (lv_at hl 0 rfl) ?_
                      refine gf_26 B hH wk3_59 dX7_lay_164 ?_
                      refine lv_icmp_ne (tgt := 183) hx hb dX7_lay_167 (by decide) (fun c127_2 => ?_) (fun c127_2 => ?_)
                      · replace h := h.1 c127_2
                        refine lv_aload_n hx hb dX7_lay_183 rfl (lv_at hl 0 rfl) ?_
                        refine gr_48 B hH wk3_68 dX7_lay_184 ?_
                        refine lv_iload_n hx hb dX7_lay_187 rfl (lv_at hl 2 rfl) ?_
                        refine lv_iload_n hx hb dX7_lay_188 rfl (lv_at hl 4 rfl) ?_
                        obtain ⟨b127_3, h⟩ := h
                        refine ast_48 B hH hO b127_3 dX7_lay_189 (fun y127_4 e127_4 H locs hH => ?_)
                        replace h := h y127_4 e127_4
                        refine lv_aload_n hx hb dX7_lay_190 rfl (lv_at hl 0 rfl) ?_
                        refine gr_49 B hH wk3_69 dX7_lay_191 ?_
                        refine lv_iload_n hx hb dX7_lay_194 rfl (lv_at hl 2 rfl) ?_
                        refine lv_aload_n hx hb dX7_lay_195 rfl (lv_at hl 0 rfl) ?_
                        refine gr_50 B hH wk3_70 dX7_lay_196 ?_
                        refine lv_iload_n hx hb dX7_lay_199 rfl (lv_at hl 4 rfl) ?_
                        obtain ⟨b127_5, h⟩ := h
                        refine ald_50 B hH b127_5 dX7_lay_200 ?_
                        refine ast_49 B hH hO b127_3 dX7_lay_201 (fun y127_6 e127_6 H locs hH => ?_)
                        replace h := h y127_6 e127_6
                        refine lv_aload_n hx hb dX7_lay_202 rfl (lv_at hl 0 rfl) ?_
                        refine gr_50 B hH wk3_70 dX7_lay_203 ?_
                        refine lv_iload_n hx hb dX7_lay_206 rfl (lv_at hl 4 rfl) ?_
                        refine lv_dup2_11 hx hb dX7_lay_207 rfl rfl ?_
                        refine ald_50 B hH b127_5 dX7_lay_208 ?_
                        refine lv_iconst (v := 1) hx hb dX7_lay_209 (by decide) ?_
                        refine lv_iadd hx hb dX7_lay_210 ?_
                        refine ast_50 B hH hO b127_5 dX7_lay_211 (fun y127_7 e127_7 H locs hH => ?_)
                        replace h := h y127_7 e127_7
                        refine lv_aload_n hx hb dX7_lay_212 rfl (lv_at hl 0 rfl) ?_
                        refine gr_51 B hH wk3_71 dX7_lay_213 ?_
                        refine lv_iload_n hx hb dX7_lay_216 rfl (lv_at hl 4 rfl) ?_
                        refine lv_dup2_11 hx hb dX7_lay_217 rfl rfl ?_
                        refine ald_51 B hH b127_5 dX7_lay_218 ?_
                        refine lv_iload hx hb dX7_lay_219 (lv_at hl 3 rfl) ?_
                        refine lv_iadd hx hb dX7_lay_221 ?_
                        refine ast_51 B hH hO b127_5 dX7_lay_222 (fun y127_8 e127_8 H locs hH => ?_)
                        replace h := h y127_8 e127_8
                        obtain ⟨v2_127_9, e127_9⟩ : ∃ z : Int32, z = f2_127 + 1 := ⟨_, rfl⟩
                        replace h := h v2_127_9 e127_9
                        refine lv_iinc (v := v2_127_9) (lv' := [(2, .int v2_127_9), (0, .ref (ad 35)), (3, .int f3_127), (4, .int f4_127), (1, .int v1_127)]) hx hb dX7_lay_223 hl (k := 1) rfl (by rw [e127_9]; first | rfl | done) (by decide) rfl (fun ls hl => ?_)
                        refine lv_goto (tgt := 52) hx hb dX7_lay_226 (by decide) ?_
                        exact ih52 v1_127 v2_127_9 y127_8 _ _ _ hH (lv_sub hl [1, 4, 0] rfl) h
                      · replace h := h.2 c127_2
                        refine lv_aload_n hx hb dX7_lay_170 rfl (lv_at hl 0 rfl) ?_
                        refine lv_dup hx hb dX7_lay_171 rfl ?_
                        refine gf_31 B hH wk3_73 dX7_lay_172 ?_
                        refine lv_iconst (v := 1) hx hb dX7_lay_175 (by decide) ?_
                        refine lv_iadd hx hb dX7_lay_176 ?_
                        refine pf_31 B hH hO wk3_73 dX7_lay_177 (fun y127_10 e127_10 H locs hH => ?_)
                        replace h := h y127_10 e127_10
                        refine lv_goto (tgt := 223) hx hb dX7_lay_180 (by decide) ?_
                        obtain ⟨v2_127_11, e127_11⟩ : ∃ z : Int32, z = f2_127 + 1 := ⟨_, rfl⟩
                        replace h := h v2_127_11 e127_11
                        refine lv_iinc (v := v2_127_11) (lv' := [(2, .int v2_127_11), (0, .ref (ad 35)), (3, .int f3_127), (4, .int f4_127), (1, .int v1_127)]) hx hb dX7_lay_223 hl (k := 1) rfl (by rw [e127_11]; first | rfl | done) (by decide) rfl (fun ls hl => ?_)
                        refine lv_goto (tgt := 52) hx hb dX7_lay_226 (by decide) ?_
                        exact ih52 v1_127 v2_127_11 y127_10 _ _ _ hH (lv_sub hl [1, 4, 0] rfl) h
                    · replace h := h.2 c127_1
                      refine lv_aload_n hx hb dX7_lay_135 rfl (lv_at hl 0 rfl) ?_
                      refine gr_51 B hH wk3_71 dX7_lay_136 ?_
                      refine lv_iload_n hx hb dX7_lay_139 rfl (lv_at hl 4 rfl) ?_
                      obtain ⟨b127_12, h⟩ := h
                      refine ald_51 B hH b127_12 dX7_lay_140 ?_
                      refine lv_iload hx hb dX7_lay_141 (lv_at hl 3 rfl) ?_
                      refine lv_iadd hx hb dX7_lay_143 ?_
                      refine lv_bipush (v := 100) hx hb dX7_lay_144 (by decide) ?_
                      refine lv_aload_n hx hb dX7_lay_146 rfl (lv_at hl 0 rfl) ?_
                      refine gr_43 B hH wk3_60 dX7_lay_147 ?_
                      refine lv_iload_n hx hb dX7_lay_150 rfl (lv_at hl 4 rfl) ?_
                      refine ald_43 B hH b127_12 dX7_lay_151 ?_
                      refine lv_imul hx hb dX7_lay_152 ?_
                      refine lv_icmp_le (tgt := 162) hx hb dX7_lay_153 (by decide) (fun c127_13 => ?_) (fun c127_13 => ?_)
                      · replace h := h.1 c127_13
                        refine lv_iload_n hx hb dX7_lay_162 rfl (lv_at hl 4 rfl) ?_
                        refine lv_aload_n hx hb dX7_lay_163 rfl (lv_at hl 0 rfl) ?_
                        refine gf_26 B hH wk3_59 dX7_lay_164 ?_
                        refine lv_icmp_ne (tgt := 183) hx hb dX7_lay_167 (by decide) (fun c127_14 => ?_) (fun c127_14 => ?_)
                        · replace h := h.1 c127_14
                          refine lv_aload_n hx hb dX7_lay_183 rfl (lv_at hl 0 rfl) ?_
                          refine gr_48 B hH wk3_68 dX7_lay_184 ?_
                          refine lv_iload_n hx hb dX7_lay_187 rfl (lv_at hl 2 rfl) ?_
                          refine lv_iload_n hx hb dX7_lay_188 rfl (lv_at hl 4 rfl) ?_
                          obtain ⟨b127_15, h⟩ := h
                          refine ast_48 B hH hO b127_15 dX7_lay_189 (fun y127_16 e127_16 H locs hH => ?_)
                          replace h := h y127_16 e127_16
                          refine lv_aload_n hx hb dX7_lay_190 rfl (lv_at hl 0 rfl) ?_
                          refine gr_49 B hH wk3_69 dX7_lay_191 ?_
                          refine lv_iload_n hx hb dX7_lay_194 rfl (lv_at hl 2 rfl) ?_
                          refine lv_aload_n hx hb dX7_lay_195 rfl (lv_at hl 0 rfl) ?_
                          refine gr_50 B hH wk3_70 dX7_lay_196 ?_
                          refine lv_iload_n hx hb dX7_lay_199 rfl (lv_at hl 4 rfl) ?_
                          refine ald_50 B hH b127_12 dX7_lay_200 ?_
                          refine ast_49 B hH hO b127_15 dX7_lay_201 (fun y127_17 e127_17 H locs hH => ?_)
                          replace h := h y127_17 e127_17
                          refine lv_aload_n hx hb dX7_lay_202 rfl (lv_at hl 0 rfl) ?_
                          refine gr_50 B hH wk3_70 dX7_lay_203 ?_
                          refine lv_iload_n hx hb dX7_lay_206 rfl (lv_at hl 4 rfl) ?_
                          refine lv_dup2_11 hx hb dX7_lay_207 rfl rfl ?_
                          refine ald_50 B hH b127_12 dX7_lay_208 ?_
                          refine lv_iconst (v := 1) hx hb dX7_lay_209 (by decide) ?_
                          refine lv_iadd hx hb dX7_lay_210 ?_
                          refine ast_50 B hH hO b127_12 dX7_lay_211 (fun y127_18 e127_18 H locs hH => ?_)
                          replace h := h y127_18 e127_18
                          refine lv_aload_n hx hb dX7_lay_212 rfl (lv_at hl 0 rfl) ?_
                          refine gr_51 B hH wk3_71 dX7_lay_213 ?_
                          refine lv_iload_n hx hb dX7_lay_216 rfl (lv_at hl 4 rfl) ?_
                          refine lv_dup2_11 hx hb dX7_lay_217 rfl rfl ?_
                          refine ald_51 B hH b127_12 dX7_lay_218 ?_
                          refine lv_iload hx hb dX7_lay_219 (lv_at hl 3 rfl) ?_
                          refine lv_iadd hx hb dX7_lay_221 ?_
                          refine ast_51 B hH hO b127_12 dX7_lay_222 (fun y127_19 e127_19 H locs hH => ?_)
                          replace h := h y127_19 e127_19
                          obtain ⟨v2_127_20, e127_20⟩ : ∃ z : Int32, z = f2_127 + 1 := ⟨_, rfl⟩
                          replace h := h v2_127_20 e127_20
                          refine lv_iinc (v := v2_127_20) (lv' := [(2, .int v2_127_20), (0, .ref (ad 35)), (3, .int f3_127), (4, .int f4_127), (1, .int v1_127)]) hx hb dX7_lay_223 hl (k := 1) rfl (by rw [e127_20]; first | rfl | done) (by decide) rfl (fun ls hl => ?_)
                          refine lv_goto (tgt := 52) hx hb dX7_lay_226 (by decide) ?_
                          exact ih52 v1_127 v2_127_20 y127_19 _ _ _ hH (lv_sub hl [1, 4, 0] rfl) h
                        · replace h := h.2 c127_14
                          refine lv_aload_n hx hb dX7_lay_170 rfl (lv_at hl 0 rfl) ?_
                          refine lv_dup hx hb dX7_lay_171 rfl ?_
                          refine gf_31 B hH wk3_73 dX7_lay_172 ?_
                          refine lv_iconst (v := 1) hx hb dX7_lay_175 (by decide) ?_
                          refine lv_iadd hx hb dX7_lay_176 ?_
                          refine pf_31 B hH hO wk3_73 dX7_lay_177 (fun y127_21 e127_21 H locs hH => ?_)
                          replace h := h y127_21 e127_21
                          refine lv_goto (tgt := 223) hx hb dX7_lay_180 (by decide) ?_
                          obtain ⟨v2_127_22, e127_22⟩ : ∃ z : Int32, z = f2_127 + 1 := ⟨_, rfl⟩
                          replace h := h v2_127_22 e127_22
                          refine lv_iinc (v := v2_127_22) (lv' := [(2, .int v2_127_22), (0, .ref (ad 35)), (3, .int f3_127), (4, .int f4_127), (1, .int v1_127)]) hx hb dX7_lay_223 hl (k := 1) rfl (by rw [e127_22]; first | rfl | done) (by decide) rfl (fun ls hl => ?_)
                          refine lv_goto (tgt := 52) hx hb dX7_lay_226 (by decide) ?_
                          exact ih52 v1_127 v2_127_22 y127_21 _ _ _ hH (lv_sub hl [1, 4, 0] rfl) h
                      · replace h := h.2 c127_13
                        obtain ⟨v1_127_23, e127_23⟩ : ∃ z : Int32, z = v1_127 + 1 := ⟨_, rfl⟩
                        replace h := h v1_127_23 e127_23
                        refine lv_iinc (v := v1_127_23) (lv' := [(1, .int v1_127_23), (0, .ref (ad 35)), (2, .int f2_127), (3, .int f3_127), (4, .int f4_127)]) hx hb dX7_lay_156 hl (k := 4) rfl (by rw [e127_23]; first | rfl | done) (by decide) rfl (fun ls hl => ?_)
                        refine lv_goto (tgt := 127) hx hb dX7_lay_159 (by decide) ?_
                        exact ih127 v1_127_23 y_127 _ _ _ hH (lv_sub hl [1, 2, 3, 4, 0] rfl) h
                exact loop_127 v2_52 v3_52_3 v4_52_8 n_127 v1_52 y52_5 _ _ _ hH (lv_sub hl [2, 4, 1, 0, 3] rfl) h
              · replace h := h.2 c52_6
                refine lv_aload_n hx hb dX7_lay_87 rfl (lv_at hl 1 rfl) ?_
                refine lv_dup hx hb dX7_lay_88 rfl ?_
                refine gf_30 B hH wk3_72 dX7_lay_89 ?_
                refine lv_iconst (v := 1) hx hb dX7_lay_92 (by decide) ?_
                refine lv_iadd hx hb dX7_lay_93 ?_
                refine pf_30 B hH hO wk3_72 dX7_lay_94 (fun y52_9 e52_9 H locs hH => ?_)
                replace h := h y52_9 e52_9
                refine lv_goto (tgt := 223) hx hb dX7_lay_97 (by decide) ?_
                obtain ⟨v2_52_10, e52_10⟩ : ∃ z : Int32, z = v2_52 + 1 := ⟨_, rfl⟩
                replace h := h v2_52_10 e52_10
                refine lv_iinc (v := v2_52_10) (lv' := [(2, .int v2_52_10), (3, .int v3_52_3), (0, .ref (ad 35)), (1, .int v1_52)]) hx hb dX7_lay_223 hl (k := 3) rfl (by rw [e52_10]; first | rfl | done) (by decide) rfl (fun ls hl => ?_)
                refine lv_goto (tgt := 52) hx hb dX7_lay_226 (by decide) ?_
                exact ih52 v1_52 v2_52_10 y52_9 _ _ _ hH (lv_sub hl [2, 3, 0] rfl) h
        exact loop_52 n_52 0 0 y_20 _ _ _ hH (lv_sub hl [2, 1, 0] rfl) h
      · replace h := h.2 c20_1
        refine lv_aload_n hx hb dX7_lay_28 rfl (lv_at hl 0 rfl) ?_
        refine gr_50 B hH wk3_70 dX7_lay_29 ?_
        refine lv_iload_n hx hb dX7_lay_32 rfl (lv_at hl 1 rfl) ?_
        refine lv_iconst (v := 0) hx hb dX7_lay_33 (by decide) ?_
        obtain ⟨b20_2, h⟩ := h
        refine ast_50 B hH hO b20_2 dX7_lay_34 (fun y20_3 e20_3 H locs hH => ?_)
        replace h := h y20_3 e20_3
        refine lv_aload_n hx hb dX7_lay_35 rfl (lv_at hl 0 rfl) ?_
        refine gr_51 B hH wk3_71 dX7_lay_36 ?_
        refine lv_iload_n hx hb dX7_lay_39 rfl (lv_at hl 1 rfl) ?_
        refine lv_iconst (v := 0) hx hb dX7_lay_40 (by decide) ?_
        refine ast_51 B hH hO b20_2 dX7_lay_41 (fun y20_4 e20_4 H locs hH => ?_)
        replace h := h y20_4 e20_4
        obtain ⟨v1_20_5, e20_5⟩ : ∃ z : Int32, z = v1_20 + 1 := ⟨_, rfl⟩
        replace h := h v1_20_5 e20_5
        refine lv_iinc (v := v1_20_5) (lv' := [(1, .int v1_20_5), (0, .ref (ad 35))]) hx hb dX7_lay_42 hl (k := 1) rfl (by rw [e20_5]; first | rfl | done) (by decide) rfl (fun ls hl => ?_)
        refine lv_goto (tgt := 20) hx hb dX7_lay_45 (by decide) ?_
        exact ih20 v1_20_5 y20_4 _ _ _ hH (lv_sub hl [1, 0] rfl) h
  exact loop_20 n_20 0 y3 _ _ _ hH (lv_sub hl [1, 0] rfl) h
set_option maxHeartbeats 4000000 in
set_option maxRecDepth 100000 in
theorem kX7_laid (l : Launch) {D : va_G} {cy : Nat → ClassId} {ad : Nat → Nat} (hI : AdI ad) (a1 : Int32) (a2 : Int32) (K : Int32 → ST → Prop) (x y : ST) (h : wX7_laid a1 a2 K y) : Met l yX7_laid (Cond.code yX7_laid cX7_laid 3 (some .int) :: WL) ({ frames := 4, cells := 0, slots := 0, locals := 94 } : Room) (va_Pc [.ref (ad 35), .int a1, .int a2] (PW D cy ad x y)) (va_Qi K (QW D (fun z => Wd ad cy x z)) (AW ad)) 0 0 (AW ad) := by
  refine Met.ofW (cc := cX7_laid) (maxL := 3) (ret := (some .int)) (by decide) rfl ?_
  intro p e s m args below meth c s₁ B0 hml hv
  obtain ⟨rfl, hP, hK, hN⟩ := hv
  have hr := B0.returns
  have hlocks := B0.notSynchronized
  have hts := atoms_spec (ws := (Cond.code yX7_laid cX7_laid 3 (some .int) :: WL)) B0.pre
  have B : Bd p s m ([Value.ref (ad 35), Value.int a1, Value.int a2] : List Value).toArray c cX7_laid 3 RX7 D cy := ⟨B0.exec, B0.bytes, hml, findClass_of_methodNamed B0.named, fun w hw => hts w (List.mem_cons_of_mem _ hw), hK, hN⟩
  have hx := B0.exec
  have hb := B0.bytes
  have hO : AdOk ad (AW ad) := hI.self
  have hH : Hd D (AW ad) (Wd ad cy x y) s s.heap [] := ⟨hP, va_S.rf⟩
  have hl := lv_entry ([.ref (ad 35), .int a1, .int a2]) (n := 3) (Nat.le_of_ble_eq_true rfl)
  rw [lg_entry_eq]
  generalize (lg_sl ([.ref (ad 35), .int a1, .int a2]) ++ List.replicate (3 - (lg_sl ([.ref (ad 35), .int a1, .int a2])).length) Slot.unset).toArray = ls at hl ⊢
  have hl : lv_has ls 3 [(0, .ref (ad 35)), (1, .int a1), (2, .int a2)] := hl
  unfold wX7_laid at h
  refine lv_aload_n hx hb dX7_laid_0 rfl (lv_at hl 0 rfl) ?_
  refine lv_iload_n hx hb dX7_laid_1 rfl (lv_at hl 1 rfl) ?_
  refine xVi (Wf := (fun z => Wd ad cy x z)) (n := 1) (P := 35) (ci := 7) (As := [.int a1]) (rest := []) B hH hO (kX7_isBook l hO.1 a1 _ x y h) rfl rfl wk3_212 wk3_214 wkp_16 wk1_8 wk3_215 (by decide +kernel) rfl ⟨rfl, rfl⟩ ⟨Nat.le_of_ble_eq_true rfl, Nat.le_of_ble_eq_true rfl⟩ ⟨Nat.zero_le _, Nat.zero_le _⟩ hl.1 rfl (Nat.le_of_ble_eq_true rfl) dX7_laid_2 (fun r1 y1 H locs h hH => ?_)
  obtain ⟨h, hz1⟩ := h
  replace hH : Hd D (AW ad) (Wd ad cy x y1) s H locs := hH
  refine lv_if_ne (tgt := 10) hx hb dX7_laid_5 (by decide) (fun c2 => ?_) (fun c2 => ?_)
  · replace h := h.1 c2
    refine lv_aload_n hx hb dX7_laid_10 rfl (lv_at hl 0 rfl) ?_
    refine xVv (Wf := (fun z => Wd ad cy x z)) (n := 0) (P := 35) (ci := 7) (As := []) (rest := []) B hH hO (kX7_lay l hO.1 _ x y1 h) rfl rfl wk4_11 wk4_13 wkp_20 wk1_8 wk4_14 (by decide +kernel) rfl ⟨rfl, rfl⟩ ⟨Nat.le_of_ble_eq_true rfl, Nat.le_of_ble_eq_true rfl⟩ ⟨Nat.zero_le _, Nat.zero_le _⟩ hl.1 rfl (Nat.le_of_ble_eq_true rfl) dX7_laid_11 (fun y3 H locs h hH => ?_)
    replace hH : Hd D (AW ad) (Wd ad cy x y3) s H locs := hH
    refine lv_aload_n hx hb dX7_laid_14 rfl (lv_at hl 0 rfl) ?_
    refine gr_48 B hH wk3_68 dX7_laid_15 ?_
    refine lv_iload_n hx hb dX7_laid_18 rfl (lv_at hl 1 rfl) ?_
    obtain ⟨b4, h⟩ := h
    refine ald_48 B hH b4 dX7_laid_19 ?_
    refine lv_if_ge (tgt := 27) hx hb dX7_laid_20 (by decide) (fun c5 => ?_) (fun c5 => ?_)
    · replace h := h.1 c5
      refine lv_iload_n hx hb dX7_laid_27 rfl (lv_at hl 2 rfl) ?_
      refine lv_if_ne (tgt := 40) hx hb dX7_laid_28 (by decide) (fun c6 => ?_) (fun c6 => ?_)
      · replace h := h.1 c6
        refine lv_iload_n hx hb dX7_laid_40 rfl (lv_at hl 2 rfl) ?_
        refine lv_iconst (v := 1) hx hb dX7_laid_41 (by decide) ?_
        refine lv_icmp_ne (tgt := 54) hx hb dX7_laid_42 (by decide) (fun c7 => ?_) (fun c7 => ?_)
        · replace h := h.1 c7
          refine lv_iconst (v := (-1)) hx hb dX7_laid_54 (by decide) ?_
          exact xret_i hx hb hr hlocks hH h dX7_laid_55
        · replace h := h.2 c7
          refine lv_aload_n hx hb dX7_laid_45 rfl (lv_at hl 0 rfl) ?_
          refine gr_49 B hH wk3_69 dX7_laid_46 ?_
          refine lv_iload_n hx hb dX7_laid_49 rfl (lv_at hl 1 rfl) ?_
          refine ald_49 B hH b4 dX7_laid_50 ?_
          refine lv_goto (tgt := 55) hx hb dX7_laid_51 (by decide) ?_
          exact xret_i hx hb hr hlocks hH h dX7_laid_55
      · replace h := h.2 c6
        refine lv_aload_n hx hb dX7_laid_31 rfl (lv_at hl 0 rfl) ?_
        refine gr_48 B hH wk3_68 dX7_laid_32 ?_
        refine lv_iload_n hx hb dX7_laid_35 rfl (lv_at hl 1 rfl) ?_
        refine ald_48 B hH b4 dX7_laid_36 ?_
        refine lv_goto (tgt := 55) hx hb dX7_laid_37 (by decide) ?_
        exact xret_i hx hb hr hlocks hH h dX7_laid_55
    · replace h := h.2 c5
      refine lv_iconst (v := (-1)) hx hb dX7_laid_23 (by decide) ?_
      refine lv_goto (tgt := 55) hx hb dX7_laid_24 (by decide) ?_
      exact xret_i hx hb hr hlocks hH h dX7_laid_55
  · replace h := h.2 c2
    refine lv_iconst (v := (-1)) hx hb dX7_laid_8 (by decide) ?_
    exact xret_i hx hb hr hlocks hH h dX7_laid_9
set_option maxHeartbeats 4000000 in
set_option maxRecDepth 100000 in
theorem kX7_shelfOf (l : Launch) {D : va_G} {cy : Nat → ClassId} {ad : Nat → Nat} (hI : AdI ad) (a1 : Int32) (a2 : Int32) (K : Int32 → ST → Prop) (x y : ST) (h : wX7_shelfOf a1 a2 K y) : Met l yX7_shelfOf (Cond.code yX7_shelfOf cX7_shelfOf 3 (some .int) :: WL) ({ frames := 4, cells := 0, slots := 0, locals := 94 } : Room) (va_Pc [.ref (ad 35), .int a1, .int a2] (PW D cy ad x y)) (va_Qi K (QW D (fun z => Wd ad cy x z)) (AW ad)) 0 0 (AW ad) := by
  refine Met.ofW (cc := cX7_shelfOf) (maxL := 3) (ret := (some .int)) (by decide) rfl ?_
  intro p e s m args below meth c s₁ B0 hml hv
  obtain ⟨rfl, hP, hK, hN⟩ := hv
  have hr := B0.returns
  have hlocks := B0.notSynchronized
  have hts := atoms_spec (ws := (Cond.code yX7_shelfOf cX7_shelfOf 3 (some .int) :: WL)) B0.pre
  have B : Bd p s m ([Value.ref (ad 35), Value.int a1, Value.int a2] : List Value).toArray c cX7_shelfOf 3 RX7 D cy := ⟨B0.exec, B0.bytes, hml, findClass_of_methodNamed B0.named, fun w hw => hts w (List.mem_cons_of_mem _ hw), hK, hN⟩
  have hx := B0.exec
  have hb := B0.bytes
  have hO : AdOk ad (AW ad) := hI.self
  have hH : Hd D (AW ad) (Wd ad cy x y) s s.heap [] := ⟨hP, va_S.rf⟩
  have hl := lv_entry ([.ref (ad 35), .int a1, .int a2]) (n := 3) (Nat.le_of_ble_eq_true rfl)
  rw [lg_entry_eq]
  generalize (lg_sl ([.ref (ad 35), .int a1, .int a2]) ++ List.replicate (3 - (lg_sl ([.ref (ad 35), .int a1, .int a2])).length) Slot.unset).toArray = ls at hl ⊢
  have hl : lv_has ls 3 [(0, .ref (ad 35)), (1, .int a1), (2, .int a2)] := hl
  unfold wX7_shelfOf at h
  refine lv_iload_n hx hb dX7_shelfOf_0 rfl (lv_at hl 1 rfl) ?_
  refine lv_iconst (v := 0) hx hb dX7_shelfOf_1 (by decide) ?_
  refine lv_aload_n hx hb dX7_shelfOf_2 rfl (lv_at hl 0 rfl) ?_
  refine gf_26 B hH wk3_59 dX7_shelfOf_3 ?_
  refine lv_iconst (v := 1) hx hb dX7_shelfOf_6 (by decide) ?_
  refine lv_isub hx hb dX7_shelfOf_7 ?_
  refine xSi (Wf := (fun z => Wd ad cy x z)) (n := 3) (As := [.int a1, .int 0, .int (((gI y 26) - 1))]) (rest := []) B hH hO (kX7_isIn l hO.1 a1 0 ((gI y 26) - 1) _ x y h) wk3_181 wk3_182 wk1_8 wk3_183 (by decide +kernel) rfl ⟨rfl, rfl⟩ ⟨Nat.le_of_ble_eq_true rfl, Nat.le_of_ble_eq_true rfl⟩ ⟨Nat.zero_le _, Nat.zero_le _⟩ hl.1 rfl (Nat.le_of_ble_eq_true rfl) dX7_shelfOf_8 (fun r1 y1 H locs h hH => ?_)
  obtain ⟨h, hz1⟩ := h
  replace hH : Hd D (AW ad) (Wd ad cy x y1) s H locs := hH
  refine lv_if_ne (tgt := 16) hx hb dX7_shelfOf_11 (by decide) (fun c2 => ?_) (fun c2 => ?_)
  · replace h := h.1 c2
    refine lv_aload_n hx hb dX7_shelfOf_16 rfl (lv_at hl 0 rfl) ?_
    refine xVv (Wf := (fun z => Wd ad cy x z)) (n := 0) (P := 35) (ci := 7) (As := []) (rest := []) B hH hO (kX7_lay l hO.1 _ x y1 h) rfl rfl wk4_11 wk4_13 wkp_20 wk1_8 wk4_14 (by decide +kernel) rfl ⟨rfl, rfl⟩ ⟨Nat.le_of_ble_eq_true rfl, Nat.le_of_ble_eq_true rfl⟩ ⟨Nat.zero_le _, Nat.zero_le _⟩ hl.1 rfl (Nat.le_of_ble_eq_true rfl) dX7_shelfOf_17 (fun y3 H locs h hH => ?_)
    replace hH : Hd D (AW ad) (Wd ad cy x y3) s H locs := hH
    refine lv_iload_n hx hb dX7_shelfOf_20 rfl (lv_at hl 2 rfl) ?_
    refine lv_if_ne (tgt := 33) hx hb dX7_shelfOf_21 (by decide) (fun c4 => ?_) (fun c4 => ?_)
    · replace h := h.1 c4
      refine lv_iload_n hx hb dX7_shelfOf_33 rfl (lv_at hl 2 rfl) ?_
      refine lv_iconst (v := 1) hx hb dX7_shelfOf_34 (by decide) ?_
      refine lv_icmp_ne (tgt := 57) hx hb dX7_shelfOf_35 (by decide) (fun c5 => ?_) (fun c5 => ?_)
      · replace h := h.1 c5
        refine lv_iconst (v := (-1)) hx hb dX7_shelfOf_57 (by decide) ?_
        exact xret_i hx hb hr hlocks hH h dX7_shelfOf_58
      · replace h := h.2 c5
        refine lv_bipush (v := 100) hx hb dX7_shelfOf_38 (by decide) ?_
        refine lv_aload_n hx hb dX7_shelfOf_40 rfl (lv_at hl 0 rfl) ?_
        refine gr_43 B hH wk3_60 dX7_shelfOf_41 ?_
        refine lv_iload_n hx hb dX7_shelfOf_44 rfl (lv_at hl 1 rfl) ?_
        obtain ⟨b6, h⟩ := h
        refine ald_43 B hH b6 dX7_shelfOf_45 ?_
        refine lv_imul hx hb dX7_shelfOf_46 ?_
        refine lv_aload_n hx hb dX7_shelfOf_47 rfl (lv_at hl 0 rfl) ?_
        refine gr_51 B hH wk3_71 dX7_shelfOf_48 ?_
        refine lv_iload_n hx hb dX7_shelfOf_51 rfl (lv_at hl 1 rfl) ?_
        refine ald_51 B hH b6 dX7_shelfOf_52 ?_
        refine lv_isub hx hb dX7_shelfOf_53 ?_
        refine lv_goto (tgt := 58) hx hb dX7_shelfOf_54 (by decide) ?_
        exact xret_i hx hb hr hlocks hH h dX7_shelfOf_58
    · replace h := h.2 c4
      refine lv_aload_n hx hb dX7_shelfOf_24 rfl (lv_at hl 0 rfl) ?_
      refine gr_50 B hH wk3_70 dX7_shelfOf_25 ?_
      refine lv_iload_n hx hb dX7_shelfOf_28 rfl (lv_at hl 1 rfl) ?_
      obtain ⟨b7, h⟩ := h
      refine ald_50 B hH b7 dX7_shelfOf_29 ?_
      refine lv_goto (tgt := 58) hx hb dX7_shelfOf_30 (by decide) ?_
      exact xret_i hx hb hr hlocks hH h dX7_shelfOf_58
  · replace h := h.2 c2
    refine lv_iconst (v := (-1)) hx hb dX7_shelfOf_14 (by decide) ?_
    exact xret_i hx hb hr hlocks hH h dX7_shelfOf_15
set_option maxHeartbeats 4000000 in
set_option maxRecDepth 100000 in
theorem kX7_meet (l : Launch) {D : va_G} {cy : Nat → ClassId} {ad : Nat → Nat} (hI : AdI ad) (K : ST → Prop) (x y : ST) (h : wX7_meet K y) : Met l yX7_meet (Cond.code yX7_meet cX7_meet 5 none :: WL) ({ frames := 0, cells := 0, slots := 0, locals := 0 } : Room) (va_Pc [.ref (ad 35)] (PW D cy ad x y)) (va_Qv K (QW D (fun z => Wd ad cy x z)) (AW ad)) 0 0 (AW ad) := by
  refine Met.ofW (cc := cX7_meet) (maxL := 5) (ret := none) (by decide) rfl ?_
  intro p e s m args below meth c s₁ B0 hml hv
  obtain ⟨rfl, hP, hK, hN⟩ := hv
  have hr := B0.returns
  have hlocks := B0.notSynchronized
  have hts := atoms_spec (ws := (Cond.code yX7_meet cX7_meet 5 none :: WL)) B0.pre
  have B : Bd p s m ([Value.ref (ad 35)] : List Value).toArray c cX7_meet 5 RX7 D cy := ⟨B0.exec, B0.bytes, hml, findClass_of_methodNamed B0.named, fun w hw => hts w (List.mem_cons_of_mem _ hw), hK, hN⟩
  have hx := B0.exec
  have hb := B0.bytes
  have hO : AdOk ad (AW ad) := hI.self
  have hH : Hd D (AW ad) (Wd ad cy x y) s s.heap [] := ⟨hP, va_S.rf⟩
  have hl := lv_entry ([.ref (ad 35)]) (n := 5) (Nat.le_of_ble_eq_true rfl)
  rw [lg_entry_eq]
  generalize (lg_sl ([.ref (ad 35)]) ++ List.replicate (5 - (lg_sl ([.ref (ad 35)])).length) Slot.unset).toArray = ls at hl ⊢
  have hl : lv_has ls 5 [(0, .ref (ad 35))] := hl
  unfold wX7_meet at h
  refine lv_iconst (v := 0) hx hb dX7_meet_0 (by decide) ?_
  refine lv_istore_n (lv' := [(1, .int 0), (0, .ref (ad 35))]) hx hb dX7_meet_1 rfl hl (by decide) rfl (fun ls hl => ?_)
  refine lv_iconst (v := 0) hx hb dX7_meet_2 (by decide) ?_
  refine lv_istore_n (lv' := [(2, .int 0), (1, .int 0), (0, .ref (ad 35))]) hx hb dX7_meet_3 rfl hl (by decide) rfl (fun ls hl => ?_)
  obtain ⟨n_4, h⟩ := h
  have loop_4 : ∀ (n_4 : Nat) (v1_4 : Int32) (v2_4 : Int32) (y_4 : ST) (H : Heap) (locs : List Loc) (ls : Array Slot), Hd D (AW ad) (Wd ad cy x y_4) s H locs → lv_has ls 5 [(0, .ref (ad 35)), (1, .int v1_4), (2, .int v2_4)] → it (fun (_ : Int32) (_ : Int32) (_ : ST) => False) (FX7_meet_4 K) n_4 v1_4 v2_4 y_4 → W p l e (headSpec (Cond.code yX7_meet cX7_meet 5 none :: WL) ({ frames := 0, cells := 0, slots := 0, locals := 0 } : Room)).room s m ([Value.ref (ad 35)] : List Value).toArray below meth c H locs 0 0 (MQ below (va_Qv K (QW D (fun z => Wd ad cy x z)) (AW ad)) ([Value.ref (ad 35)] : List Value).toArray s 0 0 (AW ad)) (F0 m 4 ls []) := by
    intro n_4
    induction n_4 with
    | zero => intro v1_4 v2_4 y_4 H locs ls hH hl h; exact False.elim h
    | succ n_4 ih4 =>
      intro v1_4 v2_4 y_4 H locs ls hH hl h
      refine lv_iload_n hx hb dX7_meet_4 rfl (lv_at hl 2 rfl) ?_
      refine lv_aload_n hx hb dX7_meet_5 rfl (lv_at hl 0 rfl) ?_
      refine gf_32 B hH wk3_74 dX7_meet_6 ?_
      refine lv_icmp_ge (tgt := 32) hx hb dX7_meet_9 (by decide) (fun c4_1 => ?_) (fun c4_1 => ?_)
      · replace h := h.1 c4_1
        refine lv_aload_n hx hb dX7_meet_32 rfl (lv_at hl 0 rfl) ?_
        refine lv_iconst (v := 0) hx hb dX7_meet_33 (by decide) ?_
        refine pf_33 B hH hO wk3_75 dX7_meet_34 (fun y4_2 e4_2 H locs hH => ?_)
        replace h := h y4_2 e4_2
        refine lv_aload_n hx hb dX7_meet_37 rfl (lv_at hl 0 rfl) ?_
        refine lv_iload_n hx hb dX7_meet_38 rfl (lv_at hl 1 rfl) ?_
        refine pf_34 B hH hO wk3_76 dX7_meet_39 (fun y4_3 e4_3 H locs hH => ?_)
        replace h := h y4_3 e4_3
        refine lv_iconst (v := 0) hx hb dX7_meet_42 (by decide) ?_
        refine lv_istore_n (lv' := [(2, .int 0), (0, .ref (ad 35)), (1, .int v1_4)]) hx hb dX7_meet_43 rfl hl (by decide) rfl (fun ls hl => ?_)
        refine lv_iconst (v := 0) hx hb dX7_meet_44 (by decide) ?_
        refine lv_istore_n (lv' := [(3, .int 0), (2, .int 0), (0, .ref (ad 35)), (1, .int v1_4)]) hx hb dX7_meet_45 rfl hl (by decide) rfl (fun ls hl => ?_)
        obtain ⟨n_46, h⟩ := h
        have loop_46 : ∀ (f1_46 : Int32) (n_46 : Nat) (v2_46 : Int32) (v3_46 : Int32) (y_46 : ST) (H : Heap) (locs : List Loc) (ls : Array Slot), Hd D (AW ad) (Wd ad cy x y_46) s H locs → lv_has ls 5 [(0, .ref (ad 35)), (1, .int f1_46), (2, .int v2_46), (3, .int v3_46)] → it (fun (_ : Int32) (_ : Int32) (_ : ST) => False) (FX7_meet_46 K f1_46) n_46 v2_46 v3_46 y_46 → W p l e (headSpec (Cond.code yX7_meet cX7_meet 5 none :: WL) ({ frames := 0, cells := 0, slots := 0, locals := 0 } : Room)).room s m ([Value.ref (ad 35)] : List Value).toArray below meth c H locs 0 0 (MQ below (va_Qv K (QW D (fun z => Wd ad cy x z)) (AW ad)) ([Value.ref (ad 35)] : List Value).toArray s 0 0 (AW ad)) (F0 m 46 ls []) := by
          intro f1_46 n_46
          induction n_46 with
          | zero => intro v2_46 v3_46 y_46 H locs ls hH hl h; exact False.elim h
          | succ n_46 ih46 =>
            intro v2_46 v3_46 y_46 H locs ls hH hl h
            refine lv_iload_n hx hb dX7_meet_46 rfl (lv_at hl 3 rfl) ?_
            refine lv_aload_n hx hb dX7_meet_47 rfl (lv_at hl 0 rfl) ?_
            refine gf_32 B hH wk3_74 dX7_meet_48 ?_
            refine lv_icmp_ge (tgt := 115) hx hb dX7_meet_51 (by decide) (fun c46_1 => ?_) (fun c46_1 => ?_)
            · replace h := h.1 c46_1
              refine lv_iconst (v := 0) hx hb dX7_meet_115 (by decide) ?_
              refine lv_istore_n (lv' := [(3, .int 0), (0, .ref (ad 35)), (1, .int f1_46), (2, .int v2_46)]) hx hb dX7_meet_116 rfl hl (by decide) rfl (fun ls hl => ?_)
              refine lv_iconst (v := 0) hx hb dX7_meet_117 (by decide) ?_
              refine lv_istore (lv' := [(4, .int 0), (3, .int 0), (0, .ref (ad 35)), (1, .int f1_46), (2, .int v2_46)]) hx hb dX7_meet_118 hl (by decide) rfl (fun ls hl => ?_)
              obtain ⟨n_120, h⟩ := h
              have loop_120 : ∀ (n_120 : Nat) (v3_120 : Int32) (v4_120 : Int32) (y_120 : ST) (H : Heap) (locs : List Loc) (ls : Array Slot), Hd D (AW ad) (Wd ad cy x y_120) s H locs → lv_has ls 5 [(0, .ref (ad 35)), (3, .int v3_120), (4, .int v4_120)] → it (fun (_ : Int32) (_ : Int32) (_ : ST) => False) (FX7_meet_120 K) n_120 v3_120 v4_120 y_120 → W p l e (headSpec (Cond.code yX7_meet cX7_meet 5 none :: WL) ({ frames := 0, cells := 0, slots := 0, locals := 0 } : Room)).room s m ([Value.ref (ad 35)] : List Value).toArray below meth c H locs 0 0 (MQ below (va_Qv K (QW D (fun z => Wd ad cy x z)) (AW ad)) ([Value.ref (ad 35)] : List Value).toArray s 0 0 (AW ad)) (F0 m 120 ls []) := by
                intro n_120
                induction n_120 with
                | zero => intro v3_120 v4_120 y_120 H locs ls hH hl h; exact False.elim h
                | succ n_120 ih120 =>
                  intro v3_120 v4_120 y_120 H locs ls hH hl h
                  refine lv_iload hx hb dX7_meet_120 (lv_at hl 2 rfl) ?_
                  refine lv_aload_n hx hb dX7_meet_122 rfl (lv_at hl 0 rfl) ?_
                  refine gf_33 B hH wk3_75 dX7_meet_123 ?_
                  refine lv_icmp_ge (tgt := 166) hx hb dX7_meet_126 (by decide) (fun c120_1 => ?_) (fun c120_1 => ?_)
                  · replace h := h.1 c120_1
                    refine lv_iconst (v := 0) hx hb dX7_meet_166 (by decide) ?_
                    refine lv_istore_n (lv' := [(3, .int 0), (0, .ref (ad 35)), (4, .int v4_120)]) hx hb dX7_meet_167 rfl hl (by decide) rfl (fun ls hl => ?_)
                    refine lv_aload_n hx hb dX7_meet_168 rfl (lv_at hl 1 rfl) ?_
                    refine gf_32 B hH wk3_74 dX7_meet_169 ?_
                    refine lv_iconst (v := 1) hx hb dX7_meet_172 (by decide) ?_
                    refine lv_isub hx hb dX7_meet_173 ?_
                    refine lv_topi (fun v4_120_2 e120_2 => ?_)
                    replace h := h v4_120_2 e120_2
                    refine lv_istore (lv' := [(4, .int v4_120_2), (3, .int 0), (0, .ref (ad 35))]) hx hb dX7_meet_174 hl (by decide) rfl (fun ls hl => ?_)
                    obtain ⟨n_176, h⟩ := h
                    have loop_176 : ∀ (n_176 : Nat) (v3_176 : Int32) (v4_176 : Int32) (y_176 : ST) (H : Heap) (locs : List Loc) (ls : Array Slot), Hd D (AW ad) (Wd ad cy x y_176) s H locs → lv_has ls 5 [(0, .ref (ad 35)), (3, .int v3_176), (4, .int v4_176)] → it (fun (_ : Int32) (_ : Int32) (_ : ST) => False) (FX7_meet_176 K) n_176 v3_176 v4_176 y_176 → W p l e (headSpec (Cond.code yX7_meet cX7_meet 5 none :: WL) ({ frames := 0, cells := 0, slots := 0, locals := 0 } : Room)).room s m ([Value.ref (ad 35)] : List Value).toArray below meth c H locs 0 0 (MQ below (va_Qv K (QW D (fun z => Wd ad cy x z)) (AW ad)) ([Value.ref (ad 35)] : List Value).toArray s 0 0 (AW ad)) (F0 m 176 ls []) := by
                      intro n_176
                      induction n_176 with
                      | zero => intro v3_176 v4_176 y_176 H locs ls hH hl h; exact False.elim h
                      | succ n_176 ih176 =>
                        intro v3_176 v4_176 y_176 H locs ls hH hl h
                        refine lv_iload hx hb dX7_meet_176 (lv_at hl 2 rfl) ?_
                        refine lv_aload_n hx hb dX7_meet_178 rfl (lv_at hl 0 rfl) ?_
                        refine gf_33 B hH wk3_75 dX7_meet_179 ?_
                        refine lv_icmp_lt (tgt := 222) hx hb dX7_meet_182 (by decide) (fun c176_1 => ?_) (fun c176_1 => ?_)
                        · replace h := h.1 c176_1
                          exact xret_v hx hb hr hlocks hH h dX7_meet_222
                        · replace h := h.2 c176_1
                          refine lv_aload_n hx hb dX7_meet_185 rfl (lv_at hl 0 rfl) ?_
                          refine gr_55 B hH wk3_80 dX7_meet_186 ?_
                          refine lv_iload hx hb dX7_meet_189 (lv_at hl 2 rfl) ?_
                          refine lv_iload_n hx hb dX7_meet_191 rfl (lv_at hl 1 rfl) ?_
                          obtain ⟨b176_2, h⟩ := h
                          refine ast_55 B hH hO b176_2 dX7_meet_192 (fun y176_3 e176_3 H locs hH => ?_)
                          replace h := h y176_3 e176_3
                          refine lv_iload_n hx hb dX7_meet_193 rfl (lv_at hl 1 rfl) ?_
                          refine lv_aload_n hx hb dX7_meet_194 rfl (lv_at hl 0 rfl) ?_
                          refine gr_45 B hH wk3_62 dX7_meet_195 ?_
                          refine lv_aload_n hx hb dX7_meet_198 rfl (lv_at hl 0 rfl) ?_
                          refine gr_54 B hH wk3_79 dX7_meet_199 ?_
                          refine lv_iload hx hb dX7_meet_202 (lv_at hl 2 rfl) ?_
                          refine ald_54 B hH b176_2 dX7_meet_204 ?_
                          obtain ⟨b176_4, h⟩ := h
                          refine ald_45 B hH b176_4 dX7_meet_205 ?_
                          refine lv_iadd hx hb dX7_meet_206 ?_
                          refine lv_topi (fun v3_176_5 e176_5 => ?_)
                          replace h := h v3_176_5 e176_5
                          refine lv_istore_n (lv' := [(3, .int v3_176_5), (0, .ref (ad 35)), (4, .int v4_176)]) hx hb dX7_meet_207 rfl hl (by decide) rfl (fun ls hl => ?_)
                          refine lv_aload_n hx hb dX7_meet_208 rfl (lv_at hl 1 rfl) ?_
                          refine gr_56 B hH wk3_81 dX7_meet_209 ?_
                          refine lv_iload hx hb dX7_meet_212 (lv_at hl 2 rfl) ?_
                          refine lv_iload_n hx hb dX7_meet_214 rfl (lv_at hl 0 rfl) ?_
                          refine ast_56 B hH hO b176_2 dX7_meet_215 (fun y176_6 e176_6 H locs hH => ?_)
                          replace h := h y176_6 e176_6
                          obtain ⟨v4_176_7, e176_7⟩ : ∃ z : Int32, z = v4_176 + (-1) := ⟨_, rfl⟩
                          replace h := h v4_176_7 e176_7
                          refine lv_iinc (v := v4_176_7) (lv' := [(4, .int v4_176_7), (3, .int v3_176_5), (0, .ref (ad 35))]) hx hb dX7_meet_216 hl (k := 2) rfl (by rw [e176_7]; first | rfl | done) (by decide) rfl (fun ls hl => ?_)
                          refine lv_goto (tgt := 176) hx hb dX7_meet_219 (by decide) ?_
                          exact ih176 v3_176_5 v4_176_7 y176_6 _ _ _ hH (lv_sub hl [2, 1, 0] rfl) h
                    exact loop_176 n_176 0 v4_120_2 y_120 _ _ _ hH (lv_sub hl [2, 1, 0] rfl) h
                  · replace h := h.2 c120_1
                    refine lv_aload_n hx hb dX7_meet_129 rfl (lv_at hl 0 rfl) ?_
                    refine gr_55 B hH wk3_80 dX7_meet_130 ?_
                    refine lv_iload hx hb dX7_meet_133 (lv_at hl 2 rfl) ?_
                    refine lv_iload_n hx hb dX7_meet_135 rfl (lv_at hl 1 rfl) ?_
                    obtain ⟨b120_3, h⟩ := h
                    refine ast_55 B hH hO b120_3 dX7_meet_136 (fun y120_4 e120_4 H locs hH => ?_)
                    replace h := h y120_4 e120_4
                    refine lv_iload_n hx hb dX7_meet_137 rfl (lv_at hl 1 rfl) ?_
                    refine lv_aload_n hx hb dX7_meet_138 rfl (lv_at hl 0 rfl) ?_
                    refine gr_45 B hH wk3_62 dX7_meet_139 ?_
                    refine lv_aload_n hx hb dX7_meet_142 rfl (lv_at hl 0 rfl) ?_
                    refine gr_54 B hH wk3_79 dX7_meet_143 ?_
                    refine lv_iload hx hb dX7_meet_146 (lv_at hl 2 rfl) ?_
                    refine ald_54 B hH b120_3 dX7_meet_148 ?_
                    obtain ⟨b120_5, h⟩ := h
                    refine ald_45 B hH b120_5 dX7_meet_149 ?_
                    refine lv_iadd hx hb dX7_meet_150 ?_
                    refine lv_topi (fun v3_120_6 e120_6 => ?_)
                    replace h := h v3_120_6 e120_6
                    refine lv_istore_n (lv' := [(3, .int v3_120_6), (0, .ref (ad 35)), (4, .int v4_120)]) hx hb dX7_meet_151 rfl hl (by decide) rfl (fun ls hl => ?_)
                    refine lv_aload_n hx hb dX7_meet_152 rfl (lv_at hl 1 rfl) ?_
                    refine gr_56 B hH wk3_81 dX7_meet_153 ?_
                    refine lv_iload hx hb dX7_meet_156 (lv_at hl 2 rfl) ?_
                    refine lv_iload_n hx hb dX7_meet_158 rfl (lv_at hl 0 rfl) ?_
                    refine ast_56 B hH hO b120_3 dX7_meet_159 (fun y120_7 e120_7 H locs hH => ?_)
                    replace h := h y120_7 e120_7
                    obtain ⟨v4_120_8, e120_8⟩ : ∃ z : Int32, z = v4_120 + 1 := ⟨_, rfl⟩
                    replace h := h v4_120_8 e120_8
                    refine lv_iinc (v := v4_120_8) (lv' := [(4, .int v4_120_8), (3, .int v3_120_6), (0, .ref (ad 35))]) hx hb dX7_meet_160 hl (k := 2) rfl (by rw [e120_8]; first | rfl | done) (by decide) rfl (fun ls hl => ?_)
                    refine lv_goto (tgt := 120) hx hb dX7_meet_163 (by decide) ?_
                    exact ih120 v3_120_6 v4_120_8 y120_7 _ _ _ hH (lv_sub hl [2, 1, 0] rfl) h
              exact loop_120 n_120 0 0 y_46 _ _ _ hH (lv_sub hl [2, 1, 0] rfl) h
            · replace h := h.2 c46_1
              refine lv_iload_n hx hb dX7_meet_54 rfl (lv_at hl 2 rfl) ?_
              refine lv_aload_n hx hb dX7_meet_55 rfl (lv_at hl 0 rfl) ?_
              refine gr_45 B hH wk3_62 dX7_meet_56 ?_
              refine lv_aload_n hx hb dX7_meet_59 rfl (lv_at hl 0 rfl) ?_
              refine gr_54 B hH wk3_79 dX7_meet_60 ?_
              refine lv_iload_n hx hb dX7_meet_63 rfl (lv_at hl 3 rfl) ?_
              obtain ⟨b46_2, h⟩ := h
              refine ald_54 B hH b46_2 dX7_meet_64 ?_
              obtain ⟨b46_3, h⟩ := h
              refine ald_45 B hH b46_3 dX7_meet_65 ?_
              refine lv_iadd hx hb dX7_meet_66 ?_
              refine lv_topi (fun v2_46_4 e46_4 => ?_)
              replace h := h v2_46_4 e46_4
              refine lv_istore_n (lv' := [(2, .int v2_46_4), (0, .ref (ad 35)), (1, .int f1_46), (3, .int v3_46)]) hx hb dX7_meet_67 rfl hl (by decide) rfl (fun ls hl => ?_)
              refine lv_iload_n hx hb dX7_meet_68 rfl (lv_at hl 0 rfl) ?_
              refine lv_iload_n hx hb dX7_meet_69 rfl (lv_at hl 2 rfl) ?_
              refine lv_iload_n hx hb dX7_meet_70 rfl (lv_at hl 0 rfl) ?_
              refine lv_isub hx hb dX7_meet_71 ?_
              refine lv_icmp_le (tgt := 79) hx hb dX7_meet_72 (by decide) (fun c46_5 => ?_) (fun c46_5 => ?_)
              · replace h := h.1 c46_5
                refine lv_iload_n hx hb dX7_meet_79 rfl (lv_at hl 2 rfl) ?_
                refine lv_iload_n hx hb dX7_meet_80 rfl (lv_at hl 0 rfl) ?_
                refine lv_isub hx hb dX7_meet_81 ?_
                refine lv_topi (fun v4_46_6 e46_6 => ?_)
                replace h := h v4_46_6 e46_6
                refine lv_istore (lv' := [(4, .int v4_46_6), (2, .int v2_46_4), (0, .ref (ad 35)), (1, .int f1_46), (3, .int v3_46)]) hx hb dX7_meet_82 hl (by decide) rfl (fun ls hl => ?_)
                refine lv_iload hx hb dX7_meet_84 (lv_at hl 0 rfl) ?_
                refine lv_aload_n hx hb dX7_meet_86 rfl (lv_at hl 2 rfl) ?_
                refine gf_34 B hH wk3_76 dX7_meet_87 ?_
                refine lv_icmp_lt (tgt := 96) hx hb dX7_meet_90 (by decide) (fun c46_7 => ?_) (fun c46_7 => ?_)
                · replace h := h.1 c46_7
                  refine lv_aload_n hx hb dX7_meet_96 rfl (lv_at hl 2 rfl) ?_
                  refine lv_iload_n hx hb dX7_meet_97 rfl (lv_at hl 4 rfl) ?_
                  refine lv_iconst (v := 1) hx hb dX7_meet_98 (by decide) ?_
                  refine lv_iadd hx hb dX7_meet_99 ?_
                  refine pf_33 B hH hO wk3_75 dX7_meet_100 (fun y46_8 e46_8 H locs hH => ?_)
                  replace h := h y46_8 e46_8
                  refine lv_aload_n hx hb dX7_meet_103 rfl (lv_at hl 2 rfl) ?_
                  refine lv_iload hx hb dX7_meet_104 (lv_at hl 0 rfl) ?_
                  refine pf_34 B hH hO wk3_76 dX7_meet_106 (fun y46_9 e46_9 H locs hH => ?_)
                  replace h := h y46_9 e46_9
                  obtain ⟨v3_46_10, e46_10⟩ : ∃ z : Int32, z = v3_46 + 1 := ⟨_, rfl⟩
                  replace h := h v3_46_10 e46_10
                  refine lv_iinc (v := v3_46_10) (lv' := [(3, .int v3_46_10), (4, .int v4_46_6), (2, .int v2_46_4), (0, .ref (ad 35)), (1, .int f1_46)]) hx hb dX7_meet_109 hl (k := 4) rfl (by rw [e46_10]; first | rfl | done) (by decide) rfl (fun ls hl => ?_)
                  refine lv_goto (tgt := 46) hx hb dX7_meet_112 (by decide) ?_
                  exact ih46 v2_46_4 v3_46_10 y46_9 _ _ _ hH (lv_sub hl [3, 4, 2, 0] rfl) h
                · replace h := h.2 c46_7
                  refine lv_goto (tgt := 109) hx hb dX7_meet_93 (by decide) ?_
                  obtain ⟨v3_46_11, e46_11⟩ : ∃ z : Int32, z = v3_46 + 1 := ⟨_, rfl⟩
                  replace h := h v3_46_11 e46_11
                  refine lv_iinc (v := v3_46_11) (lv' := [(3, .int v3_46_11), (4, .int v4_46_6), (2, .int v2_46_4), (0, .ref (ad 35)), (1, .int f1_46)]) hx hb dX7_meet_109 hl (k := 4) rfl (by rw [e46_11]; first | rfl | done) (by decide) rfl (fun ls hl => ?_)
                  refine lv_goto (tgt := 46) hx hb dX7_meet_112 (by decide) ?_
                  exact ih46 v2_46_4 v3_46_11 y_46 _ _ _ hH (lv_sub hl [3, 4, 2, 0] rfl) h
              · replace h := h.2 c46_5
                refine lv_iload_n hx hb dX7_meet_75 rfl (lv_at hl 0 rfl) ?_
                refine lv_goto (tgt := 82) hx hb dX7_meet_76 (by decide) ?_
                refine lv_istore (lv' := [(4, .int v2_46_4), (2, .int v2_46_4), (0, .ref (ad 35)), (1, .int f1_46), (3, .int v3_46)]) hx hb dX7_meet_82 hl (by decide) rfl (fun ls hl => ?_)
                refine lv_iload hx hb dX7_meet_84 (lv_at hl 0 rfl) ?_
                refine lv_aload_n hx hb dX7_meet_86 rfl (lv_at hl 2 rfl) ?_
                refine gf_34 B hH wk3_76 dX7_meet_87 ?_
                refine lv_icmp_lt (tgt := 96) hx hb dX7_meet_90 (by decide) (fun c46_12 => ?_) (fun c46_12 => ?_)
                · replace h := h.1 c46_12
                  refine lv_aload_n hx hb dX7_meet_96 rfl (lv_at hl 2 rfl) ?_
                  refine lv_iload_n hx hb dX7_meet_97 rfl (lv_at hl 4 rfl) ?_
                  refine lv_iconst (v := 1) hx hb dX7_meet_98 (by decide) ?_
                  refine lv_iadd hx hb dX7_meet_99 ?_
                  refine pf_33 B hH hO wk3_75 dX7_meet_100 (fun y46_13 e46_13 H locs hH => ?_)
                  replace h := h y46_13 e46_13
                  refine lv_aload_n hx hb dX7_meet_103 rfl (lv_at hl 2 rfl) ?_
                  refine lv_iload hx hb dX7_meet_104 (lv_at hl 0 rfl) ?_
                  refine pf_34 B hH hO wk3_76 dX7_meet_106 (fun y46_14 e46_14 H locs hH => ?_)
                  replace h := h y46_14 e46_14
                  obtain ⟨v3_46_15, e46_15⟩ : ∃ z : Int32, z = v3_46 + 1 := ⟨_, rfl⟩
                  replace h := h v3_46_15 e46_15
                  refine lv_iinc (v := v3_46_15) (lv' := [(3, .int v3_46_15), (4, .int v2_46_4), (2, .int v2_46_4), (0, .ref (ad 35)), (1, .int f1_46)]) hx hb dX7_meet_109 hl (k := 4) rfl (by rw [e46_15]; first | rfl | done) (by decide) rfl (fun ls hl => ?_)
                  refine lv_goto (tgt := 46) hx hb dX7_meet_112 (by decide) ?_
                  exact ih46 v2_46_4 v3_46_15 y46_14 _ _ _ hH (lv_sub hl [3, 4, 2, 0] rfl) h
                · replace h := h.2 c46_12
                  refine lv_goto (tgt := 109) hx hb dX7_meet_93 (by decide) ?_
                  obtain ⟨v3_46_16, e46_16⟩ : ∃ z : Int32, z = v3_46 + 1 := ⟨_, rfl⟩
                  replace h := h v3_46_16 e46_16
                  refine lv_iinc (v := v3_46_16) (lv' := [(3, .int v3_46_16), (4, .int v2_46_4), (2, .int v2_46_4), (0, .ref (ad 35)), (1, .int f1_46)]) hx hb dX7_meet_109 hl (k := 4) rfl (by rw [e46_16]; first | rfl | done) (by decide) rfl (fun ls hl => ?_)
                  refine lv_goto (tgt := 46) hx hb dX7_meet_112 (by decide) ?_
                  exact ih46 v2_46_4 v3_46_16 y_46 _ _ _ hH (lv_sub hl [3, 4, 2, 0] rfl) h
        exact loop_46 v1_4 n_46 0 0 y4_3 _ _ _ hH (lv_sub hl [2, 3, 1, 0] rfl) h
      · replace h := h.2 c4_1
        refine lv_iload_n hx hb dX7_meet_12 rfl (lv_at hl 1 rfl) ?_
        refine lv_aload_n hx hb dX7_meet_13 rfl (lv_at hl 0 rfl) ?_
        refine gr_45 B hH wk3_62 dX7_meet_14 ?_
        refine lv_aload_n hx hb dX7_meet_17 rfl (lv_at hl 0 rfl) ?_
        refine gr_54 B hH wk3_79 dX7_meet_18 ?_
        refine lv_iload_n hx hb dX7_meet_21 rfl (lv_at hl 2 rfl) ?_
        obtain ⟨b4_4, h⟩ := h
        refine ald_54 B hH b4_4 dX7_meet_22 ?_
        obtain ⟨b4_5, h⟩ := h
        refine ald_45 B hH b4_5 dX7_meet_23 ?_
        refine lv_iadd hx hb dX7_meet_24 ?_
        refine lv_topi (fun v1_4_6 e4_6 => ?_)
        replace h := h v1_4_6 e4_6
        refine lv_istore_n (lv' := [(1, .int v1_4_6), (0, .ref (ad 35)), (2, .int v2_4)]) hx hb dX7_meet_25 rfl hl (by decide) rfl (fun ls hl => ?_)
        obtain ⟨v2_4_7, e4_7⟩ : ∃ z : Int32, z = v2_4 + 1 := ⟨_, rfl⟩
        replace h := h v2_4_7 e4_7
        refine lv_iinc (v := v2_4_7) (lv' := [(2, .int v2_4_7), (1, .int v1_4_6), (0, .ref (ad 35))]) hx hb dX7_meet_26 hl (k := 2) rfl (by rw [e4_7]; first | rfl | done) (by decide) rfl (fun ls hl => ?_)
        refine lv_goto (tgt := 4) hx hb dX7_meet_29 (by decide) ?_
        exact ih4 v1_4_6 v2_4_7 y_4 _ _ _ hH (lv_sub hl [2, 1, 0] rfl) h
  exact loop_4 n_4 0 0 y _ _ _ hH (lv_sub hl [2, 1, 0] rfl) h
set_option maxHeartbeats 4000000 in
set_option maxRecDepth 100000 in
theorem kX7_pack (l : Launch) {D : va_G} {cy : Nat → ClassId} {ad : Nat → Nat} (hI : AdI ad) (K : ST → Prop) (x y : ST) (h : wX7_pack K y) : Met l yX7_pack (Cond.code yX7_pack cX7_pack 4 none :: WL) ({ frames := 3, cells := 0, slots := 0, locals := 70 } : Room) (va_Pc [.ref (ad 35)] (PW D cy ad x y)) (va_Qv K (QW D (fun z => Wd ad cy x z)) (AW ad)) 0 0 (AW ad) := by
  refine Met.ofW (cc := cX7_pack) (maxL := 4) (ret := none) (by decide) rfl ?_
  intro p e s m args below meth c s₁ B0 hml hv
  obtain ⟨rfl, hP, hK, hN⟩ := hv
  have hr := B0.returns
  have hlocks := B0.notSynchronized
  have hts := atoms_spec (ws := (Cond.code yX7_pack cX7_pack 4 none :: WL)) B0.pre
  have B : Bd p s m ([Value.ref (ad 35)] : List Value).toArray c cX7_pack 4 RX7 D cy := ⟨B0.exec, B0.bytes, hml, findClass_of_methodNamed B0.named, fun w hw => hts w (List.mem_cons_of_mem _ hw), hK, hN⟩
  have hx := B0.exec
  have hb := B0.bytes
  have hO : AdOk ad (AW ad) := hI.self
  have hH : Hd D (AW ad) (Wd ad cy x y) s s.heap [] := ⟨hP, va_S.rf⟩
  have hl := lv_entry ([.ref (ad 35)]) (n := 4) (Nat.le_of_ble_eq_true rfl)
  rw [lg_entry_eq]
  generalize (lg_sl ([.ref (ad 35)]) ++ List.replicate (4 - (lg_sl ([.ref (ad 35)])).length) Slot.unset).toArray = ls at hl ⊢
  have hl : lv_has ls 4 [(0, .ref (ad 35))] := hl
  unfold wX7_pack at h
  refine lv_aload_n hx hb dX7_pack_0 rfl (lv_at hl 0 rfl) ?_
  refine lv_aload_n hx hb dX7_pack_1 rfl (lv_at hl 0 rfl) ?_
  refine gf_23 B hH wk3_49 dX7_pack_2 ?_
  refine xVv (Wf := (fun z => Wd ad cy x z)) (n := 1) (P := 35) (ci := 7) (As := [.int (gI y 23)]) (rest := []) B hH hO (kX7_sort l hO.1 (gI y 23) _ x y h) rfl rfl wk3_231 wk3_233 wkp_19 wk1_8 wk3_234 (by decide +kernel) rfl ⟨rfl, rfl⟩ ⟨Nat.le_of_ble_eq_true rfl, Nat.le_of_ble_eq_true rfl⟩ ⟨Nat.zero_le _, Nat.zero_le _⟩ hl.1 rfl (Nat.le_of_ble_eq_true rfl) dX7_pack_5 (fun y1 H locs h hH => ?_)
  replace hH : Hd D (AW ad) (Wd ad cy x y1) s H locs := hH
  refine lv_aload_n hx hb dX7_pack_8 rfl (lv_at hl 0 rfl) ?_
  refine lv_iconst (v := 0) hx hb dX7_pack_9 (by decide) ?_
  refine pf_32 B hH hO wk3_74 dX7_pack_10 (fun y2 e2 H locs hH => ?_)
  replace h := h y2 e2
  refine lv_iconst (v := 0) hx hb dX7_pack_13 (by decide) ?_
  refine lv_istore_n (lv' := [(1, .int 0), (0, .ref (ad 35))]) hx hb dX7_pack_14 rfl hl (by decide) rfl (fun ls hl => ?_)
  refine lv_iconst (v := 0) hx hb dX7_pack_15 (by decide) ?_
  refine lv_istore_n (lv' := [(2, .int 0), (1, .int 0), (0, .ref (ad 35))]) hx hb dX7_pack_16 rfl hl (by decide) rfl (fun ls hl => ?_)
  obtain ⟨n_17, h⟩ := h
  have loop_17 : ∀ (n_17 : Nat) (v1_17 : Int32) (v2_17 : Int32) (y_17 : ST) (H : Heap) (locs : List Loc) (ls : Array Slot), Hd D (AW ad) (Wd ad cy x y_17) s H locs → lv_has ls 4 [(0, .ref (ad 35)), (1, .int v1_17), (2, .int v2_17)] → it (fun (_ : Int32) (_ : Int32) (_ : ST) => False) (FX7_pack_17 K) n_17 v1_17 v2_17 y_17 → W p l e (headSpec (Cond.code yX7_pack cX7_pack 4 none :: WL) ({ frames := 3, cells := 0, slots := 0, locals := 70 } : Room)).room s m ([Value.ref (ad 35)] : List Value).toArray below meth c H locs 0 0 (MQ below (va_Qv K (QW D (fun z => Wd ad cy x z)) (AW ad)) ([Value.ref (ad 35)] : List Value).toArray s 0 0 (AW ad)) (F0 m 17 ls []) := by
    intro n_17
    induction n_17 with
    | zero => intro v1_17 v2_17 y_17 H locs ls hH hl h; exact False.elim h
    | succ n_17 ih17 =>
      intro v1_17 v2_17 y_17 H locs ls hH hl h
      refine lv_iload_n hx hb dX7_pack_17 rfl (lv_at hl 2 rfl) ?_
      refine lv_aload_n hx hb dX7_pack_18 rfl (lv_at hl 0 rfl) ?_
      refine gf_22 B hH wk3_48 dX7_pack_19 ?_
      refine lv_icmp_ge (tgt := 163) hx hb dX7_pack_22 (by decide) (fun c17_1 => ?_) (fun c17_1 => ?_)
      · replace h := h.1 c17_1
        refine lv_aload_n hx hb dX7_pack_163 rfl (lv_at hl 0 rfl) ?_
        refine xVv (Wf := (fun z => Wd ad cy x z)) (n := 0) (P := 35) (ci := 7) (As := []) (rest := []) B hH hO (kX7_meet l hO.1 _ x y_17 h) rfl rfl wk4_27 wk4_29 wkp_22 wk1_8 wk4_30 (by decide +kernel) rfl ⟨rfl, rfl⟩ ⟨Nat.le_of_ble_eq_true rfl, Nat.le_of_ble_eq_true rfl⟩ ⟨Nat.zero_le _, Nat.zero_le _⟩ hl.1 rfl (Nat.le_of_ble_eq_true rfl) dX7_pack_164 (fun y17_2 H locs h hH => ?_)
        replace hH : Hd D (AW ad) (Wd ad cy x y17_2) s H locs := hH
        exact xret_v hx hb hr hlocks hH h dX7_pack_167
      · replace h := h.2 c17_1
        refine lv_aload_n hx hb dX7_pack_25 rfl (lv_at hl 0 rfl) ?_
        refine gr_47 B hH wk3_67 dX7_pack_26 ?_
        refine lv_iload_n hx hb dX7_pack_29 rfl (lv_at hl 2 rfl) ?_
        obtain ⟨b17_3, h⟩ := h
        refine ald_47 B hH b17_3 dX7_pack_30 ?_
        refine lv_topi (fun v3_17_4 e17_4 => ?_)
        replace h := h v3_17_4 e17_4
        refine lv_istore_n (lv' := [(3, .int v3_17_4), (0, .ref (ad 35)), (1, .int v1_17), (2, .int v2_17)]) hx hb dX7_pack_31 rfl hl (by decide) rfl (fun ls hl => ?_)
        refine lv_aload_n hx hb dX7_pack_32 rfl (lv_at hl 1 rfl) ?_
        refine gf_32 B hH wk3_74 dX7_pack_33 ?_
        refine lv_if_eq (tgt := 74) hx hb dX7_pack_36 (by decide) (fun c17_5 => ?_) (fun c17_5 => ?_)
        · replace h := h.1 c17_5
          refine lv_aload_n hx hb dX7_pack_74 rfl (lv_at hl 1 rfl) ?_
          refine gr_52 B hH wk3_77 dX7_pack_75 ?_
          refine lv_aload_n hx hb dX7_pack_78 rfl (lv_at hl 1 rfl) ?_
          refine gf_32 B hH wk3_74 dX7_pack_79 ?_
          refine lv_iload_n hx hb dX7_pack_82 rfl (lv_at hl 0 rfl) ?_
          obtain ⟨b17_6, h⟩ := h
          refine ast_52 B hH hO b17_6 dX7_pack_83 (fun y17_7 e17_7 H locs hH => ?_)
          replace h := h y17_7 e17_7
          refine lv_aload_n hx hb dX7_pack_84 rfl (lv_at hl 1 rfl) ?_
          refine gr_53 B hH wk3_78 dX7_pack_85 ?_
          refine lv_aload_n hx hb dX7_pack_88 rfl (lv_at hl 1 rfl) ?_
          refine gf_32 B hH wk3_74 dX7_pack_89 ?_
          refine lv_iconst (v := 0) hx hb dX7_pack_92 (by decide) ?_
          obtain ⟨b17_8, h⟩ := h
          refine ast_53 B hH hO b17_8 dX7_pack_93 (fun y17_9 e17_9 H locs hH => ?_)
          replace h := h y17_9 e17_9
          refine lv_aload_n hx hb dX7_pack_94 rfl (lv_at hl 1 rfl) ?_
          refine gr_54 B hH wk3_79 dX7_pack_95 ?_
          refine lv_aload_n hx hb dX7_pack_98 rfl (lv_at hl 1 rfl) ?_
          refine gf_32 B hH wk3_74 dX7_pack_99 ?_
          refine lv_aload_n hx hb dX7_pack_102 rfl (lv_at hl 1 rfl) ?_
          refine gr_40 B hH wk3_56 dX7_pack_103 ?_
          refine lv_iload_n hx hb dX7_pack_106 rfl (lv_at hl 0 rfl) ?_
          obtain ⟨b17_10, h⟩ := h
          refine ald_40 B hH b17_10 dX7_pack_107 ?_
          obtain ⟨b17_11, h⟩ := h
          refine ast_54 B hH hO b17_11 dX7_pack_108 (fun y17_12 e17_12 H locs hH => ?_)
          replace h := h y17_12 e17_12
          refine lv_aload_n hx hb dX7_pack_109 rfl (lv_at hl 1 rfl) ?_
          refine lv_dup hx hb dX7_pack_110 rfl ?_
          refine gf_32 B hH wk3_74 dX7_pack_111 ?_
          refine lv_iconst (v := 1) hx hb dX7_pack_114 (by decide) ?_
          refine lv_iadd hx hb dX7_pack_115 ?_
          refine pf_32 B hH hO wk3_74 dX7_pack_116 (fun y17_13 e17_13 H locs hH => ?_)
          replace h := h y17_13 e17_13
          refine lv_iconst (v := 0) hx hb dX7_pack_119 (by decide) ?_
          refine lv_istore_n (lv' := [(1, .int 0), (3, .int v3_17_4), (0, .ref (ad 35)), (2, .int v2_17)]) hx hb dX7_pack_120 rfl hl (by decide) rfl (fun ls hl => ?_)
          refine lv_aload_n hx hb dX7_pack_121 rfl (lv_at hl 2 rfl) ?_
          refine gr_57 B hH wk3_82 dX7_pack_122 ?_
          refine lv_iload_n hx hb dX7_pack_125 rfl (lv_at hl 1 rfl) ?_
          refine lv_aload_n hx hb dX7_pack_126 rfl (lv_at hl 2 rfl) ?_
          refine gf_32 B hH wk3_74 dX7_pack_127 ?_
          refine lv_iconst (v := 1) hx hb dX7_pack_130 (by decide) ?_
          refine lv_isub hx hb dX7_pack_131 ?_
          refine ast_57 B hH hO b17_10 dX7_pack_132 (fun y17_14 e17_14 H locs hH => ?_)
          replace h := h y17_14 e17_14
          refine lv_aload_n hx hb dX7_pack_133 rfl (lv_at hl 2 rfl) ?_
          refine gr_53 B hH wk3_78 dX7_pack_134 ?_
          refine lv_aload_n hx hb dX7_pack_137 rfl (lv_at hl 2 rfl) ?_
          refine gf_32 B hH wk3_74 dX7_pack_138 ?_
          refine lv_iconst (v := 1) hx hb dX7_pack_141 (by decide) ?_
          refine lv_isub hx hb dX7_pack_142 ?_
          refine lv_dup2_11 hx hb dX7_pack_143 rfl rfl ?_
          obtain ⟨b17_15, h⟩ := h
          refine ald_53 B hH b17_15 dX7_pack_144 ?_
          refine lv_iconst (v := 1) hx hb dX7_pack_145 (by decide) ?_
          refine lv_iadd hx hb dX7_pack_146 ?_
          refine ast_53 B hH hO b17_15 dX7_pack_147 (fun y17_16 e17_16 H locs hH => ?_)
          replace h := h y17_16 e17_16
          refine lv_iload_n hx hb dX7_pack_148 rfl (lv_at hl 0 rfl) ?_
          refine lv_aload_n hx hb dX7_pack_149 rfl (lv_at hl 2 rfl) ?_
          refine gr_41 B hH wk3_57 dX7_pack_150 ?_
          refine lv_iload_n hx hb dX7_pack_153 rfl (lv_at hl 1 rfl) ?_
          refine ald_41 B hH b17_10 dX7_pack_154 ?_
          refine lv_iadd hx hb dX7_pack_155 ?_
          refine lv_topi (fun v1_17_17 e17_17 => ?_)
          replace h := h v1_17_17 e17_17
          refine lv_istore_n (lv' := [(1, .int v1_17_17), (3, .int v3_17_4), (0, .ref (ad 35)), (2, .int v2_17)]) hx hb dX7_pack_156 rfl hl (by decide) rfl (fun ls hl => ?_)
          obtain ⟨v2_17_18, e17_18⟩ : ∃ z : Int32, z = v2_17 + 1 := ⟨_, rfl⟩
          replace h := h v2_17_18 e17_18
          refine lv_iinc (v := v2_17_18) (lv' := [(2, .int v2_17_18), (1, .int v1_17_17), (3, .int v3_17_4), (0, .ref (ad 35))]) hx hb dX7_pack_157 hl (k := 3) rfl (by rw [e17_18]; first | rfl | done) (by decide) rfl (fun ls hl => ?_)
          refine lv_goto (tgt := 17) hx hb dX7_pack_160 (by decide) ?_
          exact ih17 v1_17_17 v2_17_18 y17_16 _ _ _ hH (lv_sub hl [3, 1, 0] rfl) h
        · replace h := h.2 c17_5
          refine lv_iload_n hx hb dX7_pack_39 rfl (lv_at hl 2 rfl) ?_
          refine lv_aload_n hx hb dX7_pack_40 rfl (lv_at hl 1 rfl) ?_
          refine gr_41 B hH wk3_57 dX7_pack_41 ?_
          refine lv_iload_n hx hb dX7_pack_44 rfl (lv_at hl 0 rfl) ?_
          obtain ⟨b17_19, h⟩ := h
          refine ald_41 B hH b17_19 dX7_pack_45 ?_
          refine lv_iadd hx hb dX7_pack_46 ?_
          refine lv_aload_n hx hb dX7_pack_47 rfl (lv_at hl 1 rfl) ?_
          refine gf_25 B hH wk3_51 dX7_pack_48 ?_
          refine lv_icmp_gt (tgt := 74) hx hb dX7_pack_51 (by decide) (fun c17_20 => ?_) (fun c17_20 => ?_)
          · replace h := h.1 c17_20
            refine lv_aload_n hx hb dX7_pack_74 rfl (lv_at hl 1 rfl) ?_
            refine gr_52 B hH wk3_77 dX7_pack_75 ?_
            refine lv_aload_n hx hb dX7_pack_78 rfl (lv_at hl 1 rfl) ?_
            refine gf_32 B hH wk3_74 dX7_pack_79 ?_
            refine lv_iload_n hx hb dX7_pack_82 rfl (lv_at hl 0 rfl) ?_
            obtain ⟨b17_21, h⟩ := h
            refine ast_52 B hH hO b17_21 dX7_pack_83 (fun y17_22 e17_22 H locs hH => ?_)
            replace h := h y17_22 e17_22
            refine lv_aload_n hx hb dX7_pack_84 rfl (lv_at hl 1 rfl) ?_
            refine gr_53 B hH wk3_78 dX7_pack_85 ?_
            refine lv_aload_n hx hb dX7_pack_88 rfl (lv_at hl 1 rfl) ?_
            refine gf_32 B hH wk3_74 dX7_pack_89 ?_
            refine lv_iconst (v := 0) hx hb dX7_pack_92 (by decide) ?_
            obtain ⟨b17_23, h⟩ := h
            refine ast_53 B hH hO b17_23 dX7_pack_93 (fun y17_24 e17_24 H locs hH => ?_)
            replace h := h y17_24 e17_24
            refine lv_aload_n hx hb dX7_pack_94 rfl (lv_at hl 1 rfl) ?_
            refine gr_54 B hH wk3_79 dX7_pack_95 ?_
            refine lv_aload_n hx hb dX7_pack_98 rfl (lv_at hl 1 rfl) ?_
            refine gf_32 B hH wk3_74 dX7_pack_99 ?_
            refine lv_aload_n hx hb dX7_pack_102 rfl (lv_at hl 1 rfl) ?_
            refine gr_40 B hH wk3_56 dX7_pack_103 ?_
            refine lv_iload_n hx hb dX7_pack_106 rfl (lv_at hl 0 rfl) ?_
            refine ald_40 B hH b17_19 dX7_pack_107 ?_
            obtain ⟨b17_25, h⟩ := h
            refine ast_54 B hH hO b17_25 dX7_pack_108 (fun y17_26 e17_26 H locs hH => ?_)
            replace h := h y17_26 e17_26
            refine lv_aload_n hx hb dX7_pack_109 rfl (lv_at hl 1 rfl) ?_
            refine lv_dup hx hb dX7_pack_110 rfl ?_
            refine gf_32 B hH wk3_74 dX7_pack_111 ?_
            refine lv_iconst (v := 1) hx hb dX7_pack_114 (by decide) ?_
            refine lv_iadd hx hb dX7_pack_115 ?_
            refine pf_32 B hH hO wk3_74 dX7_pack_116 (fun y17_27 e17_27 H locs hH => ?_)
            replace h := h y17_27 e17_27
            refine lv_iconst (v := 0) hx hb dX7_pack_119 (by decide) ?_
            refine lv_istore_n (lv' := [(1, .int 0), (3, .int v3_17_4), (0, .ref (ad 35)), (2, .int v2_17)]) hx hb dX7_pack_120 rfl hl (by decide) rfl (fun ls hl => ?_)
            refine lv_aload_n hx hb dX7_pack_121 rfl (lv_at hl 2 rfl) ?_
            refine gr_57 B hH wk3_82 dX7_pack_122 ?_
            refine lv_iload_n hx hb dX7_pack_125 rfl (lv_at hl 1 rfl) ?_
            refine lv_aload_n hx hb dX7_pack_126 rfl (lv_at hl 2 rfl) ?_
            refine gf_32 B hH wk3_74 dX7_pack_127 ?_
            refine lv_iconst (v := 1) hx hb dX7_pack_130 (by decide) ?_
            refine lv_isub hx hb dX7_pack_131 ?_
            refine ast_57 B hH hO b17_19 dX7_pack_132 (fun y17_28 e17_28 H locs hH => ?_)
            replace h := h y17_28 e17_28
            refine lv_aload_n hx hb dX7_pack_133 rfl (lv_at hl 2 rfl) ?_
            refine gr_53 B hH wk3_78 dX7_pack_134 ?_
            refine lv_aload_n hx hb dX7_pack_137 rfl (lv_at hl 2 rfl) ?_
            refine gf_32 B hH wk3_74 dX7_pack_138 ?_
            refine lv_iconst (v := 1) hx hb dX7_pack_141 (by decide) ?_
            refine lv_isub hx hb dX7_pack_142 ?_
            refine lv_dup2_11 hx hb dX7_pack_143 rfl rfl ?_
            obtain ⟨b17_29, h⟩ := h
            refine ald_53 B hH b17_29 dX7_pack_144 ?_
            refine lv_iconst (v := 1) hx hb dX7_pack_145 (by decide) ?_
            refine lv_iadd hx hb dX7_pack_146 ?_
            refine ast_53 B hH hO b17_29 dX7_pack_147 (fun y17_30 e17_30 H locs hH => ?_)
            replace h := h y17_30 e17_30
            refine lv_iload_n hx hb dX7_pack_148 rfl (lv_at hl 0 rfl) ?_
            refine lv_aload_n hx hb dX7_pack_149 rfl (lv_at hl 2 rfl) ?_
            refine gr_41 B hH wk3_57 dX7_pack_150 ?_
            refine lv_iload_n hx hb dX7_pack_153 rfl (lv_at hl 1 rfl) ?_
            refine ald_41 B hH b17_19 dX7_pack_154 ?_
            refine lv_iadd hx hb dX7_pack_155 ?_
            refine lv_topi (fun v1_17_31 e17_31 => ?_)
            replace h := h v1_17_31 e17_31
            refine lv_istore_n (lv' := [(1, .int v1_17_31), (3, .int v3_17_4), (0, .ref (ad 35)), (2, .int v2_17)]) hx hb dX7_pack_156 rfl hl (by decide) rfl (fun ls hl => ?_)
            obtain ⟨v2_17_32, e17_32⟩ : ∃ z : Int32, z = v2_17 + 1 := ⟨_, rfl⟩
            replace h := h v2_17_32 e17_32
            refine lv_iinc (v := v2_17_32) (lv' := [(2, .int v2_17_32), (1, .int v1_17_31), (3, .int v3_17_4), (0, .ref (ad 35))]) hx hb dX7_pack_157 hl (k := 3) rfl (by rw [e17_32]; first | rfl | done) (by decide) rfl (fun ls hl => ?_)
            refine lv_goto (tgt := 17) hx hb dX7_pack_160 (by decide) ?_
            exact ih17 v1_17_31 v2_17_32 y17_30 _ _ _ hH (lv_sub hl [3, 1, 0] rfl) h
          · replace h := h.2 c17_20
            refine lv_aload_n hx hb dX7_pack_54 rfl (lv_at hl 1 rfl) ?_
            refine gr_54 B hH wk3_79 dX7_pack_55 ?_
            refine lv_aload_n hx hb dX7_pack_58 rfl (lv_at hl 1 rfl) ?_
            refine gf_32 B hH wk3_74 dX7_pack_59 ?_
            refine lv_iconst (v := 1) hx hb dX7_pack_62 (by decide) ?_
            refine lv_isub hx hb dX7_pack_63 ?_
            obtain ⟨b17_33, h⟩ := h
            refine ald_54 B hH b17_33 dX7_pack_64 ?_
            refine lv_aload_n hx hb dX7_pack_65 rfl (lv_at hl 1 rfl) ?_
            refine gr_40 B hH wk3_56 dX7_pack_66 ?_
            refine lv_iload_n hx hb dX7_pack_69 rfl (lv_at hl 0 rfl) ?_
            refine ald_40 B hH b17_19 dX7_pack_70 ?_
            refine lv_icmp_eq (tgt := 121) hx hb dX7_pack_71 (by decide) (fun c17_34 => ?_) (fun c17_34 => ?_)
            · replace h := h.1 c17_34
              refine lv_aload_n hx hb dX7_pack_121 rfl (lv_at hl 1 rfl) ?_
              refine gr_57 B hH wk3_82 dX7_pack_122 ?_
              refine lv_iload_n hx hb dX7_pack_125 rfl (lv_at hl 0 rfl) ?_
              refine lv_aload_n hx hb dX7_pack_126 rfl (lv_at hl 1 rfl) ?_
              refine gf_32 B hH wk3_74 dX7_pack_127 ?_
              refine lv_iconst (v := 1) hx hb dX7_pack_130 (by decide) ?_
              refine lv_isub hx hb dX7_pack_131 ?_
              refine ast_57 B hH hO b17_19 dX7_pack_132 (fun y17_35 e17_35 H locs hH => ?_)
              replace h := h y17_35 e17_35
              refine lv_aload_n hx hb dX7_pack_133 rfl (lv_at hl 1 rfl) ?_
              refine gr_53 B hH wk3_78 dX7_pack_134 ?_
              refine lv_aload_n hx hb dX7_pack_137 rfl (lv_at hl 1 rfl) ?_
              refine gf_32 B hH wk3_74 dX7_pack_138 ?_
              refine lv_iconst (v := 1) hx hb dX7_pack_141 (by decide) ?_
              refine lv_isub hx hb dX7_pack_142 ?_
              refine lv_dup2_11 hx hb dX7_pack_143 rfl rfl ?_
              obtain ⟨b17_36, h⟩ := h
              refine ald_53 B hH b17_36 dX7_pack_144 ?_
              refine lv_iconst (v := 1) hx hb dX7_pack_145 (by decide) ?_
              refine lv_iadd hx hb dX7_pack_146 ?_
              refine ast_53 B hH hO b17_36 dX7_pack_147 (fun y17_37 e17_37 H locs hH => ?_)
              replace h := h y17_37 e17_37
              refine lv_iload_n hx hb dX7_pack_148 rfl (lv_at hl 2 rfl) ?_
              refine lv_aload_n hx hb dX7_pack_149 rfl (lv_at hl 1 rfl) ?_
              refine gr_41 B hH wk3_57 dX7_pack_150 ?_
              refine lv_iload_n hx hb dX7_pack_153 rfl (lv_at hl 0 rfl) ?_
              refine ald_41 B hH b17_19 dX7_pack_154 ?_
              refine lv_iadd hx hb dX7_pack_155 ?_
              refine lv_topi (fun v1_17_38 e17_38 => ?_)
              replace h := h v1_17_38 e17_38
              refine lv_istore_n (lv' := [(1, .int v1_17_38), (3, .int v3_17_4), (0, .ref (ad 35)), (2, .int v2_17)]) hx hb dX7_pack_156 rfl hl (by decide) rfl (fun ls hl => ?_)
              obtain ⟨v2_17_39, e17_39⟩ : ∃ z : Int32, z = v2_17 + 1 := ⟨_, rfl⟩
              replace h := h v2_17_39 e17_39
              refine lv_iinc (v := v2_17_39) (lv' := [(2, .int v2_17_39), (1, .int v1_17_38), (3, .int v3_17_4), (0, .ref (ad 35))]) hx hb dX7_pack_157 hl (k := 3) rfl (by rw [e17_39]; first | rfl | done) (by decide) rfl (fun ls hl => ?_)
              refine lv_goto (tgt := 17) hx hb dX7_pack_160 (by decide) ?_
              exact ih17 v1_17_38 v2_17_39 y17_37 _ _ _ hH (lv_sub hl [3, 1, 0] rfl) h
            · replace h := h.2 c17_34
              refine lv_aload_n hx hb dX7_pack_74 rfl (lv_at hl 1 rfl) ?_
              refine gr_52 B hH wk3_77 dX7_pack_75 ?_
              refine lv_aload_n hx hb dX7_pack_78 rfl (lv_at hl 1 rfl) ?_
              refine gf_32 B hH wk3_74 dX7_pack_79 ?_
              refine lv_iload_n hx hb dX7_pack_82 rfl (lv_at hl 0 rfl) ?_
              obtain ⟨b17_40, h⟩ := h
              refine ast_52 B hH hO b17_40 dX7_pack_83 (fun y17_41 e17_41 H locs hH => ?_)
              replace h := h y17_41 e17_41
              refine lv_aload_n hx hb dX7_pack_84 rfl (lv_at hl 1 rfl) ?_
              refine gr_53 B hH wk3_78 dX7_pack_85 ?_
              refine lv_aload_n hx hb dX7_pack_88 rfl (lv_at hl 1 rfl) ?_
              refine gf_32 B hH wk3_74 dX7_pack_89 ?_
              refine lv_iconst (v := 0) hx hb dX7_pack_92 (by decide) ?_
              obtain ⟨b17_42, h⟩ := h
              refine ast_53 B hH hO b17_42 dX7_pack_93 (fun y17_43 e17_43 H locs hH => ?_)
              replace h := h y17_43 e17_43
              refine lv_aload_n hx hb dX7_pack_94 rfl (lv_at hl 1 rfl) ?_
              refine gr_54 B hH wk3_79 dX7_pack_95 ?_
              refine lv_aload_n hx hb dX7_pack_98 rfl (lv_at hl 1 rfl) ?_
              refine gf_32 B hH wk3_74 dX7_pack_99 ?_
              refine lv_aload_n hx hb dX7_pack_102 rfl (lv_at hl 1 rfl) ?_
              refine gr_40 B hH wk3_56 dX7_pack_103 ?_
              refine lv_iload_n hx hb dX7_pack_106 rfl (lv_at hl 0 rfl) ?_
              refine ald_40 B hH b17_19 dX7_pack_107 ?_
              obtain ⟨b17_44, h⟩ := h
              refine ast_54 B hH hO b17_44 dX7_pack_108 (fun y17_45 e17_45 H locs hH => ?_)
              replace h := h y17_45 e17_45
              refine lv_aload_n hx hb dX7_pack_109 rfl (lv_at hl 1 rfl) ?_
              refine lv_dup hx hb dX7_pack_110 rfl ?_
              refine gf_32 B hH wk3_74 dX7_pack_111 ?_
              refine lv_iconst (v := 1) hx hb dX7_pack_114 (by decide) ?_
              refine lv_iadd hx hb dX7_pack_115 ?_
              refine pf_32 B hH hO wk3_74 dX7_pack_116 (fun y17_46 e17_46 H locs hH => ?_)
              replace h := h y17_46 e17_46
              refine lv_iconst (v := 0) hx hb dX7_pack_119 (by decide) ?_
              refine lv_istore_n (lv' := [(1, .int 0), (3, .int v3_17_4), (0, .ref (ad 35)), (2, .int v2_17)]) hx hb dX7_pack_120 rfl hl (by decide) rfl (fun ls hl => ?_)
              refine lv_aload_n hx hb dX7_pack_121 rfl (lv_at hl 2 rfl) ?_
              refine gr_57 B hH wk3_82 dX7_pack_122 ?_
              refine lv_iload_n hx hb dX7_pack_125 rfl (lv_at hl 1 rfl) ?_
              refine lv_aload_n hx hb dX7_pack_126 rfl (lv_at hl 2 rfl) ?_
              refine gf_32 B hH wk3_74 dX7_pack_127 ?_
              refine lv_iconst (v := 1) hx hb dX7_pack_130 (by decide) ?_
              refine lv_isub hx hb dX7_pack_131 ?_
              refine ast_57 B hH hO b17_19 dX7_pack_132 (fun y17_47 e17_47 H locs hH => ?_)
              replace h := h y17_47 e17_47
              refine lv_aload_n hx hb dX7_pack_133 rfl (lv_at hl 2 rfl) ?_
              refine gr_53 B hH wk3_78 dX7_pack_134 ?_
              refine lv_aload_n hx hb dX7_pack_137 rfl (lv_at hl 2 rfl) ?_
              refine gf_32 B hH wk3_74 dX7_pack_138 ?_
              refine lv_iconst (v := 1) hx hb dX7_pack_141 (by decide) ?_
              refine lv_isub hx hb dX7_pack_142 ?_
              refine lv_dup2_11 hx hb dX7_pack_143 rfl rfl ?_
              obtain ⟨b17_48, h⟩ := h
              refine ald_53 B hH b17_48 dX7_pack_144 ?_
              refine lv_iconst (v := 1) hx hb dX7_pack_145 (by decide) ?_
              refine lv_iadd hx hb dX7_pack_146 ?_
              refine ast_53 B hH hO b17_48 dX7_pack_147 (fun y17_49 e17_49 H locs hH => ?_)
              replace h := h y17_49 e17_49
              refine lv_iload_n hx hb dX7_pack_148 rfl (lv_at hl 0 rfl) ?_
              refine lv_aload_n hx hb dX7_pack_149 rfl (lv_at hl 2 rfl) ?_
              refine gr_41 B hH wk3_57 dX7_pack_150 ?_
              refine lv_iload_n hx hb dX7_pack_153 rfl (lv_at hl 1 rfl) ?_
              refine ald_41 B hH b17_19 dX7_pack_154 ?_
              refine lv_iadd hx hb dX7_pack_155 ?_
              refine lv_topi (fun v1_17_50 e17_50 => ?_)
              replace h := h v1_17_50 e17_50
              refine lv_istore_n (lv' := [(1, .int v1_17_50), (3, .int v3_17_4), (0, .ref (ad 35)), (2, .int v2_17)]) hx hb dX7_pack_156 rfl hl (by decide) rfl (fun ls hl => ?_)
              obtain ⟨v2_17_51, e17_51⟩ : ∃ z : Int32, z = v2_17 + 1 := ⟨_, rfl⟩
              replace h := h v2_17_51 e17_51
              refine lv_iinc (v := v2_17_51) (lv' := [(2, .int v2_17_51), (1, .int v1_17_50), (3, .int v3_17_4), (0, .ref (ad 35))]) hx hb dX7_pack_157 hl (k := 3) rfl (by rw [e17_51]; first | rfl | done) (by decide) rfl (fun ls hl => ?_)
              refine lv_goto (tgt := 17) hx hb dX7_pack_160 (by decide) ?_
              exact ih17 v1_17_50 v2_17_51 y17_49 _ _ _ hH (lv_sub hl [3, 1, 0] rfl) h
  exact loop_17 n_17 0 0 y2 _ _ _ hH (lv_sub hl [2, 1, 0] rfl) h
set_option maxHeartbeats 4000000 in
set_option maxRecDepth 100000 in
theorem kX7_counts (l : Launch) {D : va_G} {cy : Nat → ClassId} {ad : Nat → Nat} (hI : AdI ad) (a1 : Int32) (K : Int32 → ST → Prop) (x y : ST) (h : wX7_counts a1 K y) : Met l yX7_counts (Cond.code yX7_counts cX7_counts 2 (some .int) :: WL) ({ frames := 4, cells := 0, slots := 0, locals := 94 } : Room) (va_Pc [.ref (ad 35), .int a1] (PW D cy ad x y)) (va_Qi K (QW D (fun z => Wd ad cy x z)) (AW ad)) 0 0 (AW ad) := by
  refine Met.ofW (cc := cX7_counts) (maxL := 2) (ret := (some .int)) (by decide) rfl ?_
  intro p e s m args below meth c s₁ B0 hml hv
  obtain ⟨rfl, hP, hK, hN⟩ := hv
  have hr := B0.returns
  have hlocks := B0.notSynchronized
  have hts := atoms_spec (ws := (Cond.code yX7_counts cX7_counts 2 (some .int) :: WL)) B0.pre
  have B : Bd p s m ([Value.ref (ad 35), Value.int a1] : List Value).toArray c cX7_counts 2 RX7 D cy := ⟨B0.exec, B0.bytes, hml, findClass_of_methodNamed B0.named, fun w hw => hts w (List.mem_cons_of_mem _ hw), hK, hN⟩
  have hx := B0.exec
  have hb := B0.bytes
  have hO : AdOk ad (AW ad) := hI.self
  have hH : Hd D (AW ad) (Wd ad cy x y) s s.heap [] := ⟨hP, va_S.rf⟩
  have hl := lv_entry ([.ref (ad 35), .int a1]) (n := 2) (Nat.le_of_ble_eq_true rfl)
  rw [lg_entry_eq]
  generalize (lg_sl ([.ref (ad 35), .int a1]) ++ List.replicate (2 - (lg_sl ([.ref (ad 35), .int a1])).length) Slot.unset).toArray = ls at hl ⊢
  have hl : lv_has ls 2 [(0, .ref (ad 35)), (1, .int a1)] := hl
  unfold wX7_counts at h
  refine lv_iload_n hx hb dX7_counts_0 rfl (lv_at hl 1 rfl) ?_
  refine lv_iconst (v := 2) hx hb dX7_counts_1 (by decide) ?_
  refine lv_icmp_ne (tgt := 14) hx hb dX7_counts_2 (by decide) (fun c1 => ?_) (fun c1 => ?_)
  · replace h := h.1 c1
    refine lv_aload_n hx hb dX7_counts_14 rfl (lv_at hl 0 rfl) ?_
    refine xVv (Wf := (fun z => Wd ad cy x z)) (n := 0) (P := 35) (ci := 7) (As := []) (rest := []) B hH hO (kX7_lay l hO.1 _ x y h) rfl rfl wk4_11 wk4_13 wkp_20 wk1_8 wk4_14 (by decide +kernel) rfl ⟨rfl, rfl⟩ ⟨Nat.le_of_ble_eq_true rfl, Nat.le_of_ble_eq_true rfl⟩ ⟨Nat.zero_le _, Nat.zero_le _⟩ hl.1 rfl (Nat.le_of_ble_eq_true rfl) dX7_counts_15 (fun y2 H locs h hH => ?_)
    replace hH : Hd D (AW ad) (Wd ad cy x y2) s H locs := hH
    refine lv_iload_n hx hb dX7_counts_18 rfl (lv_at hl 1 rfl) ?_
    refine lv_if_ne (tgt := 29) hx hb dX7_counts_19 (by decide) (fun c3 => ?_) (fun c3 => ?_)
    · replace h := h.1 c3
      refine lv_iload_n hx hb dX7_counts_29 rfl (lv_at hl 1 rfl) ?_
      refine lv_iconst (v := 1) hx hb dX7_counts_30 (by decide) ?_
      refine lv_icmp_ne (tgt := 41) hx hb dX7_counts_31 (by decide) (fun c4 => ?_) (fun c4 => ?_)
      · replace h := h.1 c4
        refine lv_iconst (v := (-1)) hx hb dX7_counts_41 (by decide) ?_
        exact xret_i hx hb hr hlocks hH h dX7_counts_42
      · replace h := h.2 c4
        refine lv_aload_n hx hb dX7_counts_34 rfl (lv_at hl 0 rfl) ?_
        refine gf_31 B hH wk3_73 dX7_counts_35 ?_
        refine lv_goto (tgt := 42) hx hb dX7_counts_38 (by decide) ?_
        exact xret_i hx hb hr hlocks hH h dX7_counts_42
    · replace h := h.2 c3
      refine lv_aload_n hx hb dX7_counts_22 rfl (lv_at hl 0 rfl) ?_
      refine gf_30 B hH wk3_72 dX7_counts_23 ?_
      refine lv_goto (tgt := 42) hx hb dX7_counts_26 (by decide) ?_
      exact xret_i hx hb hr hlocks hH h dX7_counts_42
  · replace h := h.2 c1
    refine lv_aload_n hx hb dX7_counts_5 rfl (lv_at hl 0 rfl) ?_
    refine xVv (Wf := (fun z => Wd ad cy x z)) (n := 0) (P := 35) (ci := 7) (As := []) (rest := []) B hH hO (kX7_pack l hO.1 _ x y h) rfl rfl wk4_23 wk4_25 wkp_21 wk1_8 wk4_26 (by decide +kernel) rfl ⟨rfl, rfl⟩ ⟨Nat.le_of_ble_eq_true rfl, Nat.le_of_ble_eq_true rfl⟩ ⟨Nat.zero_le _, Nat.zero_le _⟩ hl.1 rfl (Nat.le_of_ble_eq_true rfl) dX7_counts_6 (fun y5 H locs h hH => ?_)
    replace hH : Hd D (AW ad) (Wd ad cy x y5) s H locs := hH
    refine lv_aload_n hx hb dX7_counts_9 rfl (lv_at hl 0 rfl) ?_
    refine gf_32 B hH wk3_74 dX7_counts_10 ?_
    exact xret_i hx hb hr hlocks hH h dX7_counts_13
set_option maxHeartbeats 4000000 in
set_option maxRecDepth 100000 in
theorem kX7_way (l : Launch) {D : va_G} {cy : Nat → ClassId} {ad : Nat → Nat} (hI : AdI ad) (a1 : Int32) (a2 : Int32) (K : Int32 → ST → Prop) (x y : ST) (h : wX7_way a1 a2 K y) : Met l yX7_way (Cond.code yX7_way cX7_way 3 (some .boolean) :: WL) ({ frames := 1, cells := 0, slots := 0, locals := 22 } : Room) (va_Pc [.ref (ad 35), .int a1, .int a2] (PW D cy ad x y)) (va_Qi (fun r z => K r z ∧ (r = 0 ∨ r = 1)) (QW D (fun z => Wd ad cy x z)) (AW ad)) 0 0 (AW ad) := by
  refine Met.ofW (cc := cX7_way) (maxL := 3) (ret := (some .boolean)) (by decide) rfl ?_
  intro p e s m args below meth c s₁ B0 hml hv
  obtain ⟨rfl, hP, hK, hN⟩ := hv
  have hr := B0.returns
  have hlocks := B0.notSynchronized
  have hts := atoms_spec (ws := (Cond.code yX7_way cX7_way 3 (some .boolean) :: WL)) B0.pre
  have B : Bd p s m ([Value.ref (ad 35), Value.int a1, Value.int a2] : List Value).toArray c cX7_way 3 RX7 D cy := ⟨B0.exec, B0.bytes, hml, findClass_of_methodNamed B0.named, fun w hw => hts w (List.mem_cons_of_mem _ hw), hK, hN⟩
  have hx := B0.exec
  have hb := B0.bytes
  have hO : AdOk ad (AW ad) := hI.self
  have hH : Hd D (AW ad) (Wd ad cy x y) s s.heap [] := ⟨hP, va_S.rf⟩
  have hl := lv_entry ([.ref (ad 35), .int a1, .int a2]) (n := 3) (Nat.le_of_ble_eq_true rfl)
  rw [lg_entry_eq]
  generalize (lg_sl ([.ref (ad 35), .int a1, .int a2]) ++ List.replicate (3 - (lg_sl ([.ref (ad 35), .int a1, .int a2])).length) Slot.unset).toArray = ls at hl ⊢
  have hl : lv_has ls 3 [(0, .ref (ad 35)), (1, .int a1), (2, .int a2)] := hl
  unfold wX7_way at h
  refine lv_iload_n hx hb dX7_way_0 rfl (lv_at hl 1 rfl) ?_
  refine lv_iconst (v := 0) hx hb dX7_way_1 (by decide) ?_
  refine lv_iconst (v := 4) hx hb dX7_way_2 (by decide) ?_
  refine xSi (Wf := (fun z => Wd ad cy x z)) (n := 3) (As := [.int a1, .int 0, .int 4]) (rest := []) B hH hO (kX7_isIn l hO.1 a1 0 4 _ x y h) wk3_181 wk3_182 wk1_8 wk3_183 (by decide +kernel) rfl ⟨rfl, rfl⟩ ⟨Nat.le_of_ble_eq_true rfl, Nat.le_of_ble_eq_true rfl⟩ ⟨Nat.zero_le _, Nat.zero_le _⟩ hl.1 rfl (Nat.le_of_ble_eq_true rfl) dX7_way_3 (fun r1 y1 H locs h hH => ?_)
  obtain ⟨h, hz1⟩ := h
  replace hH : Hd D (AW ad) (Wd ad cy x y1) s H locs := hH
  refine lv_if_eq (tgt := 19) hx hb dX7_way_6 (by decide) (fun c2 => ?_) (fun c2 => ?_)
  · replace h := h.1 c2
    refine lv_iconst (v := 0) hx hb dX7_way_19 (by decide) ?_
    exact xret_z hx hb hr hlocks hH (Or.inl rfl) h dX7_way_20
  · replace h := h.2 c2
    refine lv_iload_n hx hb dX7_way_9 rfl (lv_at hl 2 rfl) ?_
    refine lv_iconst (v := 1) hx hb dX7_way_10 (by decide) ?_
    refine lv_bipush (v := 100) hx hb dX7_way_11 (by decide) ?_
    refine xSi (Wf := (fun z => Wd ad cy x z)) (n := 3) (As := [.int a2, .int 1, .int 100]) (rest := []) B hH hO (kX7_isIn l hO.1 a2 1 100 _ x y1 h) wk3_181 wk3_182 wk1_8 wk3_183 (by decide +kernel) rfl ⟨rfl, rfl⟩ ⟨Nat.le_of_ble_eq_true rfl, Nat.le_of_ble_eq_true rfl⟩ ⟨Nat.zero_le _, Nat.zero_le _⟩ hl.1 rfl (Nat.le_of_ble_eq_true rfl) dX7_way_13 (fun r3 y3 H locs h hH => ?_)
    obtain ⟨h, hz3⟩ := h
    replace hH : Hd D (AW ad) (Wd ad cy x y3) s H locs := hH
    refine lv_if_ne (tgt := 21) hx hb dX7_way_16 (by decide) (fun c4 => ?_) (fun c4 => ?_)
    · replace h := h.1 c4
      refine lv_aload_n hx hb dX7_way_21 rfl (lv_at hl 0 rfl) ?_
      refine gr_45 B hH wk3_62 dX7_way_22 ?_
      refine lv_iload_n hx hb dX7_way_25 rfl (lv_at hl 1 rfl) ?_
      refine lv_iload_n hx hb dX7_way_26 rfl (lv_at hl 2 rfl) ?_
      obtain ⟨b5, h⟩ := h
      refine ast_45 B hH hO b5 dX7_way_27 (fun y6 e6 H locs hH => ?_)
      replace h := h y6 e6
      refine lv_iconst (v := 1) hx hb dX7_way_28 (by decide) ?_
      exact xret_z hx hb hr hlocks hH (Or.inr rfl) h dX7_way_29
    · replace h := h.2 c4
      refine lv_iconst (v := 0) hx hb dX7_way_19 (by decide) ?_
      exact xret_z hx hb hr hlocks hH (Or.inl rfl) h dX7_way_20
set_option maxHeartbeats 4000000 in
set_option maxRecDepth 100000 in
theorem kX7_crate (l : Launch) {D : va_G} {cy : Nat → ClassId} {ad : Nat → Nat} (hI : AdI ad) (a1 : Int32) (a2 : Int32) (K : Int32 → ST → Prop) (x y : ST) (h : wX7_crate a1 a2 K y) : Met l yX7_crate (Cond.code yX7_crate cX7_crate 3 (some .int) :: WL) ({ frames := 4, cells := 0, slots := 0, locals := 93 } : Room) (va_Pc [.ref (ad 35), .int a1, .int a2] (PW D cy ad x y)) (va_Qi K (QW D (fun z => Wd ad cy x z)) (AW ad)) 0 0 (AW ad) := by
  refine Met.ofW (cc := cX7_crate) (maxL := 3) (ret := (some .int)) (by decide) rfl ?_
  intro p e s m args below meth c s₁ B0 hml hv
  obtain ⟨rfl, hP, hK, hN⟩ := hv
  have hr := B0.returns
  have hlocks := B0.notSynchronized
  have hts := atoms_spec (ws := (Cond.code yX7_crate cX7_crate 3 (some .int) :: WL)) B0.pre
  have B : Bd p s m ([Value.ref (ad 35), Value.int a1, Value.int a2] : List Value).toArray c cX7_crate 3 RX7 D cy := ⟨B0.exec, B0.bytes, hml, findClass_of_methodNamed B0.named, fun w hw => hts w (List.mem_cons_of_mem _ hw), hK, hN⟩
  have hx := B0.exec
  have hb := B0.bytes
  have hO : AdOk ad (AW ad) := hI.self
  have hH : Hd D (AW ad) (Wd ad cy x y) s s.heap [] := ⟨hP, va_S.rf⟩
  have hl := lv_entry ([.ref (ad 35), .int a1, .int a2]) (n := 3) (Nat.le_of_ble_eq_true rfl)
  rw [lg_entry_eq]
  generalize (lg_sl ([.ref (ad 35), .int a1, .int a2]) ++ List.replicate (3 - (lg_sl ([.ref (ad 35), .int a1, .int a2])).length) Slot.unset).toArray = ls at hl ⊢
  have hl : lv_has ls 3 [(0, .ref (ad 35)), (1, .int a1), (2, .int a2)] := hl
  unfold wX7_crate at h
  refine lv_aload_n hx hb dX7_crate_0 rfl (lv_at hl 0 rfl) ?_
  refine xVv (Wf := (fun z => Wd ad cy x z)) (n := 0) (P := 35) (ci := 7) (As := []) (rest := []) B hH hO (kX7_pack l hO.1 _ x y h) rfl rfl wk4_23 wk4_25 wkp_21 wk1_8 wk4_26 (by decide +kernel) rfl ⟨rfl, rfl⟩ ⟨Nat.le_of_ble_eq_true rfl, Nat.le_of_ble_eq_true rfl⟩ ⟨Nat.zero_le _, Nat.zero_le _⟩ hl.1 rfl (Nat.le_of_ble_eq_true rfl) dX7_crate_1 (fun y1 H locs h hH => ?_)
  replace hH : Hd D (AW ad) (Wd ad cy x y1) s H locs := hH
  refine lv_iload_n hx hb dX7_crate_4 rfl (lv_at hl 1 rfl) ?_
  refine lv_iconst (v := 0) hx hb dX7_crate_5 (by decide) ?_
  refine lv_aload_n hx hb dX7_crate_6 rfl (lv_at hl 0 rfl) ?_
  refine gf_32 B hH wk3_74 dX7_crate_7 ?_
  refine lv_iconst (v := 1) hx hb dX7_crate_10 (by decide) ?_
  refine lv_isub hx hb dX7_crate_11 ?_
  refine xSi (Wf := (fun z => Wd ad cy x z)) (n := 3) (As := [.int a1, .int 0, .int (((gI y1 32) - 1))]) (rest := []) B hH hO (kX7_isIn l hO.1 a1 0 ((gI y1 32) - 1) _ x y1 h) wk3_181 wk3_182 wk1_8 wk3_183 (by decide +kernel) rfl ⟨rfl, rfl⟩ ⟨Nat.le_of_ble_eq_true rfl, Nat.le_of_ble_eq_true rfl⟩ ⟨Nat.zero_le _, Nat.zero_le _⟩ hl.1 rfl (Nat.le_of_ble_eq_true rfl) dX7_crate_12 (fun r2 y2 H locs h hH => ?_)
  obtain ⟨h, hz2⟩ := h
  replace hH : Hd D (AW ad) (Wd ad cy x y2) s H locs := hH
  refine lv_if_ne (tgt := 20) hx hb dX7_crate_15 (by decide) (fun c3 => ?_) (fun c3 => ?_)
  · replace h := h.1 c3
    refine lv_iload_n hx hb dX7_crate_20 rfl (lv_at hl 2 rfl) ?_
    by_cases c4 : a2 = 0
    · replace h := h.1 c4
      refine lv_tableIn (tgt := 60) hx hb dX7_crate_21 (by rw [c4]; decide) (by rw [c4]; decide) (by rw [c4]; rfl) (by decide) ?_
      refine lv_aload_n hx hb dX7_crate_60 rfl (lv_at hl 0 rfl) ?_
      refine gr_52 B hH wk3_77 dX7_crate_61 ?_
      refine lv_iload_n hx hb dX7_crate_64 rfl (lv_at hl 1 rfl) ?_
      obtain ⟨b10, h⟩ := h
      refine ald_52 B hH b10 dX7_crate_65 ?_
      exact xret_i hx hb hr hlocks hH h dX7_crate_66
    · by_cases c5 : a2 = 1
      · replace h := h.2.1 c5
        refine lv_tableIn (tgt := 67) hx hb dX7_crate_21 (by rw [c5]; decide) (by rw [c5]; decide) (by rw [c5]; rfl) (by decide) ?_
        refine lv_aload_n hx hb dX7_crate_67 rfl (lv_at hl 0 rfl) ?_
        refine gr_53 B hH wk3_78 dX7_crate_68 ?_
        refine lv_iload_n hx hb dX7_crate_71 rfl (lv_at hl 1 rfl) ?_
        obtain ⟨b11, h⟩ := h
        refine ald_53 B hH b11 dX7_crate_72 ?_
        exact xret_i hx hb hr hlocks hH h dX7_crate_73
      · by_cases c6 : a2 = 2
        · replace h := h.2.2.1 c6
          refine lv_tableIn (tgt := 74) hx hb dX7_crate_21 (by rw [c6]; decide) (by rw [c6]; decide) (by rw [c6]; rfl) (by decide) ?_
          refine lv_aload_n hx hb dX7_crate_74 rfl (lv_at hl 0 rfl) ?_
          refine gr_54 B hH wk3_79 dX7_crate_75 ?_
          refine lv_iload_n hx hb dX7_crate_78 rfl (lv_at hl 1 rfl) ?_
          obtain ⟨b12, h⟩ := h
          refine ald_54 B hH b12 dX7_crate_79 ?_
          exact xret_i hx hb hr hlocks hH h dX7_crate_80
        · by_cases c7 : a2 = 3
          · replace h := h.2.2.2.1 c7
            refine lv_tableIn (tgt := 81) hx hb dX7_crate_21 (by rw [c7]; decide) (by rw [c7]; decide) (by rw [c7]; rfl) (by decide) ?_
            refine lv_aload_n hx hb dX7_crate_81 rfl (lv_at hl 0 rfl) ?_
            refine gr_55 B hH wk3_80 dX7_crate_82 ?_
            refine lv_iload_n hx hb dX7_crate_85 rfl (lv_at hl 1 rfl) ?_
            obtain ⟨b13, h⟩ := h
            refine ald_55 B hH b13 dX7_crate_86 ?_
            exact xret_i hx hb hr hlocks hH h dX7_crate_87
          · by_cases c8 : a2 = 4
            · replace h := h.2.2.2.2.1 c8
              refine lv_tableIn (tgt := 88) hx hb dX7_crate_21 (by rw [c8]; decide) (by rw [c8]; decide) (by rw [c8]; rfl) (by decide) ?_
              refine lv_aload_n hx hb dX7_crate_88 rfl (lv_at hl 0 rfl) ?_
              refine gr_56 B hH wk3_81 dX7_crate_89 ?_
              refine lv_iload_n hx hb dX7_crate_92 rfl (lv_at hl 1 rfl) ?_
              obtain ⟨b14, h⟩ := h
              refine ald_56 B hH b14 dX7_crate_93 ?_
              exact xret_i hx hb hr hlocks hH h dX7_crate_94
            · by_cases c9 : a2 = 5
              · replace h := h.2.2.2.2.2.1 c9
                refine lv_tableIn (tgt := 95) hx hb dX7_crate_21 (by rw [c9]; decide) (by rw [c9]; decide) (by rw [c9]; rfl) (by decide) ?_
                refine lv_iload_n hx hb dX7_crate_95 rfl (lv_at hl 1 rfl) ?_
                refine lv_aload_n hx hb dX7_crate_96 rfl (lv_at hl 0 rfl) ?_
                refine gf_33 B hH wk3_75 dX7_crate_97 ?_
                refine lv_icmp_ge (tgt := 107) hx hb dX7_crate_100 (by decide) (fun c15 => ?_) (fun c15 => ?_)
                · replace h := h.1 c15
                  refine lv_iconst (v := 1) hx hb dX7_crate_107 (by decide) ?_
                  exact xret_i hx hb hr hlocks hH h dX7_crate_108
                · replace h := h.2 c15
                  refine lv_iconst (v := 0) hx hb dX7_crate_103 (by decide) ?_
                  refine lv_goto (tgt := 108) hx hb dX7_crate_104 (by decide) ?_
                  exact xret_i hx hb hr hlocks hH h dX7_crate_108
              · replace h := h.2.2.2.2.2.2 c4 c5 c6 c7 c8 c9
                refine lv_tableOut (tgt := 109) hx hb dX7_crate_21 (tb_out (N := 6) (by decide) (by decide) (fun j hj => by match j, hj with | 0, _ => exact c4 | 1, _ => exact c5 | 2, _ => exact c6 | 3, _ => exact c7 | 4, _ => exact c8 | 5, _ => exact c9 | j + 6, hj => exact absurd hj (by omega))) (by decide) ?_
                refine lv_iconst (v := (-1)) hx hb dX7_crate_109 (by decide) ?_
                exact xret_i hx hb hr hlocks hH h dX7_crate_110
  · replace h := h.2 c3
    refine lv_iconst (v := (-1)) hx hb dX7_crate_18 (by decide) ?_
    exact xret_i hx hb hr hlocks hH h dX7_crate_19
set_option maxHeartbeats 4000000 in
set_option maxRecDepth 100000 in
theorem kX7_meeting (l : Launch) {D : va_G} {cy : Nat → ClassId} {ad : Nat → Nat} (hI : AdI ad) (a1 : Int32) (K : Int32 → ST → Prop) (x y : ST) (h : wX7_meeting a1 K y) : Met l yX7_meeting (Cond.code yX7_meeting cX7_meeting 2 (some .int) :: WL) ({ frames := 4, cells := 0, slots := 0, locals := 93 } : Room) (va_Pc [.ref (ad 35), .int a1] (PW D cy ad x y)) (va_Qi K (QW D (fun z => Wd ad cy x z)) (AW ad)) 0 0 (AW ad) := by
  refine Met.ofW (cc := cX7_meeting) (maxL := 2) (ret := (some .int)) (by decide) rfl ?_
  intro p e s m args below meth c s₁ B0 hml hv
  obtain ⟨rfl, hP, hK, hN⟩ := hv
  have hr := B0.returns
  have hlocks := B0.notSynchronized
  have hts := atoms_spec (ws := (Cond.code yX7_meeting cX7_meeting 2 (some .int) :: WL)) B0.pre
  have B : Bd p s m ([Value.ref (ad 35), Value.int a1] : List Value).toArray c cX7_meeting 2 RX7 D cy := ⟨B0.exec, B0.bytes, hml, findClass_of_methodNamed B0.named, fun w hw => hts w (List.mem_cons_of_mem _ hw), hK, hN⟩
  have hx := B0.exec
  have hb := B0.bytes
  have hO : AdOk ad (AW ad) := hI.self
  have hH : Hd D (AW ad) (Wd ad cy x y) s s.heap [] := ⟨hP, va_S.rf⟩
  have hl := lv_entry ([.ref (ad 35), .int a1]) (n := 2) (Nat.le_of_ble_eq_true rfl)
  rw [lg_entry_eq]
  generalize (lg_sl ([.ref (ad 35), .int a1]) ++ List.replicate (2 - (lg_sl ([.ref (ad 35), .int a1])).length) Slot.unset).toArray = ls at hl ⊢
  have hl : lv_has ls 2 [(0, .ref (ad 35)), (1, .int a1)] := hl
  unfold wX7_meeting at h
  refine lv_aload_n hx hb dX7_meeting_0 rfl (lv_at hl 0 rfl) ?_
  refine xVv (Wf := (fun z => Wd ad cy x z)) (n := 0) (P := 35) (ci := 7) (As := []) (rest := []) B hH hO (kX7_pack l hO.1 _ x y h) rfl rfl wk4_23 wk4_25 wkp_21 wk1_8 wk4_26 (by decide +kernel) rfl ⟨rfl, rfl⟩ ⟨Nat.le_of_ble_eq_true rfl, Nat.le_of_ble_eq_true rfl⟩ ⟨Nat.zero_le _, Nat.zero_le _⟩ hl.1 rfl (Nat.le_of_ble_eq_true rfl) dX7_meeting_1 (fun y1 H locs h hH => ?_)
  replace hH : Hd D (AW ad) (Wd ad cy x y1) s H locs := hH
  refine lv_iload_n hx hb dX7_meeting_4 rfl (lv_at hl 1 rfl) ?_
  refine lv_if_ne (tgt := 15) hx hb dX7_meeting_5 (by decide) (fun c2 => ?_) (fun c2 => ?_)
  · replace h := h.1 c2
    refine lv_iload_n hx hb dX7_meeting_15 rfl (lv_at hl 1 rfl) ?_
    refine lv_iconst (v := 1) hx hb dX7_meeting_16 (by decide) ?_
    refine lv_icmp_ne (tgt := 27) hx hb dX7_meeting_17 (by decide) (fun c3 => ?_) (fun c3 => ?_)
    · replace h := h.1 c3
      refine lv_iconst (v := (-1)) hx hb dX7_meeting_27 (by decide) ?_
      exact xret_i hx hb hr hlocks hH h dX7_meeting_28
    · replace h := h.2 c3
      refine lv_aload_n hx hb dX7_meeting_20 rfl (lv_at hl 0 rfl) ?_
      refine gf_34 B hH wk3_76 dX7_meeting_21 ?_
      refine lv_goto (tgt := 28) hx hb dX7_meeting_24 (by decide) ?_
      exact xret_i hx hb hr hlocks hH h dX7_meeting_28
  · replace h := h.2 c2
    refine lv_aload_n hx hb dX7_meeting_8 rfl (lv_at hl 0 rfl) ?_
    refine gf_33 B hH wk3_75 dX7_meeting_9 ?_
    refine lv_goto (tgt := 28) hx hb dX7_meeting_12 (by decide) ?_
    exact xret_i hx hb hr hlocks hH h dX7_meeting_28
set_option maxHeartbeats 4000000 in
set_option maxRecDepth 100000 in
theorem kX7_where (l : Launch) {D : va_G} {cy : Nat → ClassId} {ad : Nat → Nat} (hI : AdI ad) (a1 : Int32) (a2 : Int32) (a3 : Int32) (K : Int32 → ST → Prop) (x y : ST) (h : wX7_where a1 a2 a3 K y) : Met l yX7_where (Cond.code yX7_where cX7_where 7 (some .int) :: WL) ({ frames := 4, cells := 0, slots := 0, locals := 93 } : Room) (va_Pc [.ref (ad 35), .int a1, .int a2, .int a3] (PW D cy ad x y)) (va_Qi K (QW D (fun z => Wd ad cy x z)) (AW ad)) 0 0 (AW ad) := by
  refine Met.ofW (cc := cX7_where) (maxL := 7) (ret := (some .int)) (by decide) rfl ?_
  intro p e s m args below meth c s₁ B0 hml hv
  obtain ⟨rfl, hP, hK, hN⟩ := hv
  have hr := B0.returns
  have hlocks := B0.notSynchronized
  have hts := atoms_spec (ws := (Cond.code yX7_where cX7_where 7 (some .int) :: WL)) B0.pre
  have B : Bd p s m ([Value.ref (ad 35), Value.int a1, Value.int a2, Value.int a3] : List Value).toArray c cX7_where 7 RX7 D cy := ⟨B0.exec, B0.bytes, hml, findClass_of_methodNamed B0.named, fun w hw => hts w (List.mem_cons_of_mem _ hw), hK, hN⟩
  have hx := B0.exec
  have hb := B0.bytes
  have hO : AdOk ad (AW ad) := hI.self
  have hH : Hd D (AW ad) (Wd ad cy x y) s s.heap [] := ⟨hP, va_S.rf⟩
  have hl := lv_entry ([.ref (ad 35), .int a1, .int a2, .int a3]) (n := 7) (Nat.le_of_ble_eq_true rfl)
  rw [lg_entry_eq]
  generalize (lg_sl ([.ref (ad 35), .int a1, .int a2, .int a3]) ++ List.replicate (7 - (lg_sl ([.ref (ad 35), .int a1, .int a2, .int a3])).length) Slot.unset).toArray = ls at hl ⊢
  have hl : lv_has ls 7 [(0, .ref (ad 35)), (1, .int a1), (2, .int a2), (3, .int a3)] := hl
  unfold wX7_where at h
  refine lv_aload_n hx hb dX7_where_0 rfl (lv_at hl 0 rfl) ?_
  refine lv_iload_n hx hb dX7_where_1 rfl (lv_at hl 1 rfl) ?_
  refine xVi (Wf := (fun z => Wd ad cy x z)) (n := 1) (P := 35) (ci := 7) (As := [.int a1]) (rest := []) B hH hO (kX7_isBook l hO.1 a1 _ x y h) rfl rfl wk3_212 wk3_214 wkp_16 wk1_8 wk3_215 (by decide +kernel) rfl ⟨rfl, rfl⟩ ⟨Nat.le_of_ble_eq_true rfl, Nat.le_of_ble_eq_true rfl⟩ ⟨Nat.zero_le _, Nat.zero_le _⟩ hl.1 rfl (Nat.le_of_ble_eq_true rfl) dX7_where_2 (fun r1 y1 H locs h hH => ?_)
  obtain ⟨h, hz1⟩ := h
  replace hH : Hd D (AW ad) (Wd ad cy x y1) s H locs := hH
  refine lv_if_eq (tgt := 18) hx hb dX7_where_5 (by decide) (fun c2 => ?_) (fun c2 => ?_)
  · replace h := h.1 c2
    refine lv_iconst (v := (-1)) hx hb dX7_where_18 (by decide) ?_
    exact xret_i hx hb hr hlocks hH h dX7_where_19
  · replace h := h.2 c2
    refine lv_iload_n hx hb dX7_where_8 rfl (lv_at hl 2 rfl) ?_
    refine lv_iconst (v := 0) hx hb dX7_where_9 (by decide) ?_
    refine lv_ldc hx hb B.2.2.2.1 (B.2.2.2.2.1 _ wk4_47) dX7_where_10 ?_
    refine xSi (Wf := (fun z => Wd ad cy x z)) (n := 3) (As := [.int a2, .int 0, .int 100000]) (rest := []) B hH hO (kX7_isIn l hO.1 a2 0 100000 _ x y1 h) wk3_181 wk3_182 wk1_8 wk3_183 (by decide +kernel) rfl ⟨rfl, rfl⟩ ⟨Nat.le_of_ble_eq_true rfl, Nat.le_of_ble_eq_true rfl⟩ ⟨Nat.zero_le _, Nat.zero_le _⟩ hl.1 rfl (Nat.le_of_ble_eq_true rfl) dX7_where_12 (fun r3 y3 H locs h hH => ?_)
    obtain ⟨h, hz3⟩ := h
    replace hH : Hd D (AW ad) (Wd ad cy x y3) s H locs := hH
    refine lv_if_ne (tgt := 20) hx hb dX7_where_15 (by decide) (fun c4 => ?_) (fun c4 => ?_)
    · replace h := h.1 c4
      refine lv_aload_n hx hb dX7_where_20 rfl (lv_at hl 0 rfl) ?_
      refine xVv (Wf := (fun z => Wd ad cy x z)) (n := 0) (P := 35) (ci := 7) (As := []) (rest := []) B hH hO (kX7_pack l hO.1 _ x y3 h) rfl rfl wk4_23 wk4_25 wkp_21 wk1_8 wk4_26 (by decide +kernel) rfl ⟨rfl, rfl⟩ ⟨Nat.le_of_ble_eq_true rfl, Nat.le_of_ble_eq_true rfl⟩ ⟨Nat.zero_le _, Nat.zero_le _⟩ hl.1 rfl (Nat.le_of_ble_eq_true rfl) dX7_where_21 (fun y5 H locs h hH => ?_)
      replace hH : Hd D (AW ad) (Wd ad cy x y5) s H locs := hH
      refine lv_aload_n hx hb dX7_where_24 rfl (lv_at hl 0 rfl) ?_
      refine gr_57 B hH wk3_82 dX7_where_25 ?_
      refine lv_iload_n hx hb dX7_where_28 rfl (lv_at hl 1 rfl) ?_
      obtain ⟨b6, h⟩ := h
      refine ald_57 B hH b6 dX7_where_29 ?_
      refine lv_topi (fun v4_7 e7 => ?_)
      replace h := h v4_7 e7
      refine lv_istore (lv' := [(4, .int v4_7), (0, .ref (ad 35)), (1, .int a1), (2, .int a2), (3, .int a3)]) hx hb dX7_where_30 hl (by decide) rfl (fun ls hl => ?_)
      refine lv_iload_n hx hb dX7_where_32 rfl (lv_at hl 3 rfl) ?_
      refine lv_aload_n hx hb dX7_where_33 rfl (lv_at hl 1 rfl) ?_
      refine gr_56 B hH wk3_81 dX7_where_34 ?_
      refine lv_iload hx hb dX7_where_37 (lv_at hl 0 rfl) ?_
      obtain ⟨b8, h⟩ := h
      refine ald_56 B hH b8 dX7_where_39 ?_
      refine lv_icmp_lt (tgt := 47) hx hb dX7_where_40 (by decide) (fun c9 => ?_) (fun c9 => ?_)
      · replace h := h.1 c9
        refine lv_iload_n hx hb dX7_where_47 rfl (lv_at hl 3 rfl) ?_
        refine lv_aload_n hx hb dX7_where_48 rfl (lv_at hl 1 rfl) ?_
        refine gr_55 B hH wk3_80 dX7_where_49 ?_
        refine lv_iload hx hb dX7_where_52 (lv_at hl 0 rfl) ?_
        refine ald_55 B hH b8 dX7_where_54 ?_
        refine lv_icmp_lt (tgt := 62) hx hb dX7_where_55 (by decide) (fun c10 => ?_) (fun c10 => ?_)
        · replace h := h.1 c10
          refine lv_iconst (v := 0) hx hb dX7_where_62 (by decide) ?_
          refine lv_istore (lv' := [(5, .int 0), (4, .int v4_7), (0, .ref (ad 35)), (1, .int a1), (2, .int a2), (3, .int a3)]) hx hb dX7_where_63 hl (by decide) rfl (fun ls hl => ?_)
          refine lv_iload_n hx hb dX7_where_65 rfl (lv_at hl 5 rfl) ?_
          refine lv_if_ne (tgt := 72) hx hb dX7_where_66 (by decide) (fun c11 => ?_) (fun c11 => ?_)
          · replace h := h.1 c11
            refine lv_iload_n hx hb dX7_where_72 rfl (lv_at hl 5 rfl) ?_
            refine lv_iconst (v := 2) hx hb dX7_where_73 (by decide) ?_
            refine lv_icmp_ne (tgt := 80) hx hb dX7_where_74 (by decide) (fun c12 => ?_) (fun c12 => ?_)
            · replace h := h.1 c12
              refine lv_iload_n hx hb dX7_where_80 rfl (lv_at hl 5 rfl) ?_
              refine lv_iconst (v := 1) hx hb dX7_where_81 (by decide) ?_
              refine lv_icmp_eq (tgt := 87) hx hb dX7_where_82 (by decide) (fun c13 => ?_) (fun c13 => ?_)
              · replace h := h.1 c13
                refine lv_iload_n hx hb dX7_where_87 rfl (lv_at hl 4 rfl) ?_
                refine lv_aload_n hx hb dX7_where_88 rfl (lv_at hl 2 rfl) ?_
                refine gr_45 B hH wk3_62 dX7_where_89 ?_
                refine lv_aload_n hx hb dX7_where_92 rfl (lv_at hl 2 rfl) ?_
                refine gr_40 B hH wk3_56 dX7_where_93 ?_
                refine lv_iload_n hx hb dX7_where_96 rfl (lv_at hl 3 rfl) ?_
                refine ald_40 B hH b6 dX7_where_97 ?_
                obtain ⟨b14, h⟩ := h
                refine ald_45 B hH b14 dX7_where_98 ?_
                refine lv_iadd hx hb dX7_where_99 ?_
                refine lv_topi (fun v6_15 e15 => ?_)
                replace h := h v6_15 e15
                refine lv_istore (lv' := [(6, .int v6_15), (5, .int 0), (4, .int v4_7), (0, .ref (ad 35)), (1, .int a1), (2, .int a2), (3, .int a3)]) hx hb dX7_where_100 hl (by decide) rfl (fun ls hl => ?_)
                refine lv_iload hx hb dX7_where_102 (lv_at hl 1 rfl) ?_
                refine lv_iconst (v := 2) hx hb dX7_where_104 (by decide) ?_
                refine lv_icmp_ne (tgt := 112) hx hb dX7_where_105 (by decide) (fun _ => ?_) (fun cq => absurd cq (by decide))
                refine lv_iload hx hb dX7_where_112 (lv_at hl 1 rfl) ?_
                refine lv_if_ne (tgt := 134) hx hb dX7_where_114 (by decide) (fun cq => absurd (by decide) cq) (fun _ => ?_)
                refine lv_iload hx hb dX7_where_117 (lv_at hl 0 rfl) ?_
                refine lv_aload_n hx hb dX7_where_119 rfl (lv_at hl 3 rfl) ?_
                refine gr_55 B hH wk3_80 dX7_where_120 ?_
                refine lv_iload hx hb dX7_where_123 (lv_at hl 2 rfl) ?_
                refine ald_55 B hH b8 dX7_where_125 ?_
                refine lv_icmp_gt (tgt := 134) hx hb dX7_where_126 (by decide) (fun c16 => ?_) (fun c16 => ?_)
                · replace h := h.1 c16
                  refine lv_aload_n hx hb dX7_where_134 rfl (lv_at hl 3 rfl) ?_
                  refine gr_56 B hH wk3_81 dX7_where_135 ?_
                  refine lv_iload hx hb dX7_where_138 (lv_at hl 2 rfl) ?_
                  refine ald_56 B hH b8 dX7_where_140 ?_
                  exact xret_i hx hb hr hlocks hH h dX7_where_141
                · replace h := h.2 c16
                  refine lv_iload hx hb dX7_where_129 (lv_at hl 0 rfl) ?_
                  refine lv_goto (tgt := 141) hx hb dX7_where_131 (by decide) ?_
                  exact xret_i hx hb hr hlocks hH h dX7_where_141
              · replace h := h.2 c13
                refine lv_iconst (v := (-1)) hx hb dX7_where_85 (by decide) ?_
                exact xret_i hx hb hr hlocks hH h dX7_where_86
            · replace h := h.2 c12
              refine lv_iload hx hb dX7_where_77 (lv_at hl 1 rfl) ?_
              exact xret_i hx hb hr hlocks hH h dX7_where_79
          · replace h := h.2 c11
            refine lv_iload hx hb dX7_where_69 (lv_at hl 0 rfl) ?_
            exact xret_i hx hb hr hlocks hH h dX7_where_71
        · replace h := h.2 c10
          refine lv_iconst (v := 1) hx hb dX7_where_58 (by decide) ?_
          refine lv_goto (tgt := 63) hx hb dX7_where_59 (by decide) ?_
          refine lv_istore (lv' := [(5, .int 1), (4, .int v4_7), (0, .ref (ad 35)), (1, .int a1), (2, .int a2), (3, .int a3)]) hx hb dX7_where_63 hl (by decide) rfl (fun ls hl => ?_)
          refine lv_iload_n hx hb dX7_where_65 rfl (lv_at hl 5 rfl) ?_
          refine lv_if_ne (tgt := 72) hx hb dX7_where_66 (by decide) (fun c17 => ?_) (fun c17 => ?_)
          · replace h := h.1 c17
            refine lv_iload_n hx hb dX7_where_72 rfl (lv_at hl 5 rfl) ?_
            refine lv_iconst (v := 2) hx hb dX7_where_73 (by decide) ?_
            refine lv_icmp_ne (tgt := 80) hx hb dX7_where_74 (by decide) (fun c18 => ?_) (fun c18 => ?_)
            · replace h := h.1 c18
              refine lv_iload_n hx hb dX7_where_80 rfl (lv_at hl 5 rfl) ?_
              refine lv_iconst (v := 1) hx hb dX7_where_81 (by decide) ?_
              refine lv_icmp_eq (tgt := 87) hx hb dX7_where_82 (by decide) (fun c19 => ?_) (fun c19 => ?_)
              · replace h := h.1 c19
                refine lv_iload_n hx hb dX7_where_87 rfl (lv_at hl 4 rfl) ?_
                refine lv_aload_n hx hb dX7_where_88 rfl (lv_at hl 2 rfl) ?_
                refine gr_45 B hH wk3_62 dX7_where_89 ?_
                refine lv_aload_n hx hb dX7_where_92 rfl (lv_at hl 2 rfl) ?_
                refine gr_40 B hH wk3_56 dX7_where_93 ?_
                refine lv_iload_n hx hb dX7_where_96 rfl (lv_at hl 3 rfl) ?_
                refine ald_40 B hH b6 dX7_where_97 ?_
                obtain ⟨b20, h⟩ := h
                refine ald_45 B hH b20 dX7_where_98 ?_
                refine lv_iadd hx hb dX7_where_99 ?_
                refine lv_topi (fun v6_21 e21 => ?_)
                replace h := h v6_21 e21
                refine lv_istore (lv' := [(6, .int v6_21), (5, .int 1), (4, .int v4_7), (0, .ref (ad 35)), (1, .int a1), (2, .int a2), (3, .int a3)]) hx hb dX7_where_100 hl (by decide) rfl (fun ls hl => ?_)
                refine lv_iload hx hb dX7_where_102 (lv_at hl 1 rfl) ?_
                refine lv_iconst (v := 2) hx hb dX7_where_104 (by decide) ?_
                refine lv_icmp_ne (tgt := 112) hx hb dX7_where_105 (by decide) (fun _ => ?_) (fun cq => absurd cq (by decide))
                refine lv_iload hx hb dX7_where_112 (lv_at hl 1 rfl) ?_
                refine lv_if_ne (tgt := 134) hx hb dX7_where_114 (by decide) (fun _ => ?_) (fun cq => absurd cq (by decide))
                refine lv_aload_n hx hb dX7_where_134 rfl (lv_at hl 3 rfl) ?_
                refine gr_56 B hH wk3_81 dX7_where_135 ?_
                refine lv_iload hx hb dX7_where_138 (lv_at hl 2 rfl) ?_
                refine ald_56 B hH b8 dX7_where_140 ?_
                exact xret_i hx hb hr hlocks hH h dX7_where_141
              · replace h := h.2 c19
                refine lv_iconst (v := (-1)) hx hb dX7_where_85 (by decide) ?_
                exact xret_i hx hb hr hlocks hH h dX7_where_86
            · replace h := h.2 c18
              refine lv_iload hx hb dX7_where_77 (lv_at hl 1 rfl) ?_
              exact xret_i hx hb hr hlocks hH h dX7_where_79
          · replace h := h.2 c17
            refine lv_iload hx hb dX7_where_69 (lv_at hl 0 rfl) ?_
            exact xret_i hx hb hr hlocks hH h dX7_where_71
      · replace h := h.2 c9
        refine lv_iconst (v := 2) hx hb dX7_where_43 (by decide) ?_
        refine lv_goto (tgt := 63) hx hb dX7_where_44 (by decide) ?_
        refine lv_istore (lv' := [(5, .int 2), (4, .int v4_7), (0, .ref (ad 35)), (1, .int a1), (2, .int a2), (3, .int a3)]) hx hb dX7_where_63 hl (by decide) rfl (fun ls hl => ?_)
        refine lv_iload_n hx hb dX7_where_65 rfl (lv_at hl 5 rfl) ?_
        refine lv_if_ne (tgt := 72) hx hb dX7_where_66 (by decide) (fun c22 => ?_) (fun c22 => ?_)
        · replace h := h.1 c22
          refine lv_iload_n hx hb dX7_where_72 rfl (lv_at hl 5 rfl) ?_
          refine lv_iconst (v := 2) hx hb dX7_where_73 (by decide) ?_
          refine lv_icmp_ne (tgt := 80) hx hb dX7_where_74 (by decide) (fun c23 => ?_) (fun c23 => ?_)
          · replace h := h.1 c23
            refine lv_iload_n hx hb dX7_where_80 rfl (lv_at hl 5 rfl) ?_
            refine lv_iconst (v := 1) hx hb dX7_where_81 (by decide) ?_
            refine lv_icmp_eq (tgt := 87) hx hb dX7_where_82 (by decide) (fun c24 => ?_) (fun c24 => ?_)
            · replace h := h.1 c24
              refine lv_iload_n hx hb dX7_where_87 rfl (lv_at hl 4 rfl) ?_
              refine lv_aload_n hx hb dX7_where_88 rfl (lv_at hl 2 rfl) ?_
              refine gr_45 B hH wk3_62 dX7_where_89 ?_
              refine lv_aload_n hx hb dX7_where_92 rfl (lv_at hl 2 rfl) ?_
              refine gr_40 B hH wk3_56 dX7_where_93 ?_
              refine lv_iload_n hx hb dX7_where_96 rfl (lv_at hl 3 rfl) ?_
              refine ald_40 B hH b6 dX7_where_97 ?_
              obtain ⟨b25, h⟩ := h
              refine ald_45 B hH b25 dX7_where_98 ?_
              refine lv_iadd hx hb dX7_where_99 ?_
              refine lv_topi (fun v6_26 e26 => ?_)
              replace h := h v6_26 e26
              refine lv_istore (lv' := [(6, .int v6_26), (5, .int 2), (4, .int v4_7), (0, .ref (ad 35)), (1, .int a1), (2, .int a2), (3, .int a3)]) hx hb dX7_where_100 hl (by decide) rfl (fun ls hl => ?_)
              refine lv_iload hx hb dX7_where_102 (lv_at hl 1 rfl) ?_
              refine lv_iconst (v := 2) hx hb dX7_where_104 (by decide) ?_
              refine lv_icmp_ne (tgt := 112) hx hb dX7_where_105 (by decide) (fun cq => absurd (by decide) cq) (fun _ => ?_)
              refine lv_iload_n hx hb dX7_where_108 rfl (lv_at hl 5 rfl) ?_
              refine lv_goto (tgt := 141) hx hb dX7_where_109 (by decide) ?_
              exact xret_i hx hb hr hlocks hH h dX7_where_141
            · replace h := h.2 c24
              refine lv_iconst (v := (-1)) hx hb dX7_where_85 (by decide) ?_
              exact xret_i hx hb hr hlocks hH h dX7_where_86
          · replace h := h.2 c23
            refine lv_iload hx hb dX7_where_77 (lv_at hl 1 rfl) ?_
            exact xret_i hx hb hr hlocks hH h dX7_where_79
        · replace h := h.2 c22
          refine lv_iload hx hb dX7_where_69 (lv_at hl 0 rfl) ?_
          exact xret_i hx hb hr hlocks hH h dX7_where_71
    · replace h := h.2 c4
      refine lv_iconst (v := (-1)) hx hb dX7_where_18 (by decide) ?_
      exact xret_i hx hb hr hlocks hH h dX7_where_19
set_option maxHeartbeats 4000000 in
set_option maxRecDepth 100000 in
theorem kX7_row (l : Launch) {D : va_G} {cy : Nat → ClassId} {ad : Nat → Nat} (hI : AdI ad) (K : Int32 → ST → Prop) (x y : ST) (h : wX7_row K y) : Met l yX7_row (Cond.code yX7_row cX7_row 2 (some .int) :: WL) ({ frames := 4, cells := 0, slots := 0, locals := 94 } : Room) (va_Pc [.ref (ad 35)] (PW D cy ad x y)) (va_Qi K (QW D (fun z => Wd ad cy x z)) (AW ad)) 0 0 (AW ad) := by
  refine Met.ofW (cc := cX7_row) (maxL := 2) (ret := (some .int)) (by decide) rfl ?_
  intro p e s m args below meth c s₁ B0 hml hv
  obtain ⟨rfl, hP, hK, hN⟩ := hv
  have hr := B0.returns
  have hlocks := B0.notSynchronized
  have hts := atoms_spec (ws := (Cond.code yX7_row cX7_row 2 (some .int) :: WL)) B0.pre
  have B : Bd p s m ([Value.ref (ad 35)] : List Value).toArray c cX7_row 2 RX7 D cy := ⟨B0.exec, B0.bytes, hml, findClass_of_methodNamed B0.named, fun w hw => hts w (List.mem_cons_of_mem _ hw), hK, hN⟩
  have hx := B0.exec
  have hb := B0.bytes
  have hO : AdOk ad (AW ad) := hI.self
  have hH : Hd D (AW ad) (Wd ad cy x y) s s.heap [] := ⟨hP, va_S.rf⟩
  have hl := lv_entry ([.ref (ad 35)]) (n := 2) (Nat.le_of_ble_eq_true rfl)
  rw [lg_entry_eq]
  generalize (lg_sl ([.ref (ad 35)]) ++ List.replicate (2 - (lg_sl ([.ref (ad 35)])).length) Slot.unset).toArray = ls at hl ⊢
  have hl : lv_has ls 2 [(0, .ref (ad 35))] := hl
  unfold wX7_row at h
  refine lv_aload_n hx hb dX7_row_0 rfl (lv_at hl 0 rfl) ?_
  refine xVv (Wf := (fun z => Wd ad cy x z)) (n := 0) (P := 35) (ci := 7) (As := []) (rest := []) B hH hO (kX7_lay l hO.1 _ x y h) rfl rfl wk4_11 wk4_13 wkp_20 wk1_8 wk4_14 (by decide +kernel) rfl ⟨rfl, rfl⟩ ⟨Nat.le_of_ble_eq_true rfl, Nat.le_of_ble_eq_true rfl⟩ ⟨Nat.zero_le _, Nat.zero_le _⟩ hl.1 rfl (Nat.le_of_ble_eq_true rfl) dX7_row_1 (fun y1 H locs h hH => ?_)
  replace hH : Hd D (AW ad) (Wd ad cy x y1) s H locs := hH
  refine lv_aload_n hx hb dX7_row_4 rfl (lv_at hl 0 rfl) ?_
  refine lv_iconst (v := 0) hx hb dX7_row_5 (by decide) ?_
  refine pf_35 B hH hO wk3_83 dX7_row_6 (fun y2 e2 H locs hH => ?_)
  replace h := h y2 e2
  refine lv_iconst (v := 0) hx hb dX7_row_9 (by decide) ?_
  refine lv_istore_n (lv' := [(1, .int 0), (0, .ref (ad 35))]) hx hb dX7_row_10 rfl hl (by decide) rfl (fun ls hl => ?_)
  obtain ⟨n_11, h⟩ := h
  have loop_11 : ∀ (n_11 : Nat) (v1_11 : Int32) (y_11 : ST) (H : Heap) (locs : List Loc) (ls : Array Slot), Hd D (AW ad) (Wd ad cy x y_11) s H locs → lv_has ls 2 [(0, .ref (ad 35)), (1, .int v1_11)] → it (fun (_ : Int32) (_ : ST) => False) (FX7_row_11 K) n_11 v1_11 y_11 → W p l e (headSpec (Cond.code yX7_row cX7_row 2 (some .int) :: WL) ({ frames := 4, cells := 0, slots := 0, locals := 94 } : Room)).room s m ([Value.ref (ad 35)] : List Value).toArray below meth c H locs 0 0 (MQ below (va_Qi K (QW D (fun z => Wd ad cy x z)) (AW ad)) ([Value.ref (ad 35)] : List Value).toArray s 0 0 (AW ad)) (F0 m 11 ls []) := by
    intro n_11
    induction n_11 with
    | zero => intro v1_11 y_11 H locs ls hH hl h; exact False.elim h
    | succ n_11 ih11 =>
      intro v1_11 y_11 H locs ls hH hl h
      refine lv_iload_n hx hb dX7_row_11 rfl (lv_at hl 1 rfl) ?_
      refine lv_aload_n hx hb dX7_row_12 rfl (lv_at hl 0 rfl) ?_
      refine gf_22 B hH wk3_48 dX7_row_13 ?_
      refine lv_icmp_ge (tgt := 67) hx hb dX7_row_16 (by decide) (fun c11_1 => ?_) (fun c11_1 => ?_)
      · replace h := h.1 c11_1
        refine lv_aload_n hx hb dX7_row_67 rfl (lv_at hl 0 rfl) ?_
        refine gf_35 B hH wk3_83 dX7_row_68 ?_
        exact xret_i hx hb hr hlocks hH h dX7_row_71
      · replace h := h.2 c11_1
        refine lv_aload_n hx hb dX7_row_19 rfl (lv_at hl 0 rfl) ?_
        refine gr_48 B hH wk3_68 dX7_row_20 ?_
        refine lv_aload_n hx hb dX7_row_23 rfl (lv_at hl 0 rfl) ?_
        refine gr_47 B hH wk3_67 dX7_row_24 ?_
        refine lv_iload_n hx hb dX7_row_27 rfl (lv_at hl 1 rfl) ?_
        obtain ⟨b11_2, h⟩ := h
        refine ald_47 B hH b11_2 dX7_row_28 ?_
        obtain ⟨b11_3, h⟩ := h
        refine ald_48 B hH b11_3 dX7_row_29 ?_
        refine lv_if_ge (tgt := 36) hx hb dX7_row_30 (by decide) (fun c11_4 => ?_) (fun c11_4 => ?_)
        · replace h := h.1 c11_4
          refine lv_aload_n hx hb dX7_row_36 rfl (lv_at hl 0 rfl) ?_
          refine gr_58 B hH wk3_84 dX7_row_37 ?_
          refine lv_aload_n hx hb dX7_row_40 rfl (lv_at hl 0 rfl) ?_
          refine gf_35 B hH wk3_83 dX7_row_41 ?_
          refine lv_aload_n hx hb dX7_row_44 rfl (lv_at hl 0 rfl) ?_
          refine gr_47 B hH wk3_67 dX7_row_45 ?_
          refine lv_iload_n hx hb dX7_row_48 rfl (lv_at hl 1 rfl) ?_
          refine ald_47 B hH b11_2 dX7_row_49 ?_
          obtain ⟨b11_5, h⟩ := h
          refine ast_58 B hH hO b11_5 dX7_row_50 (fun y11_6 e11_6 H locs hH => ?_)
          replace h := h y11_6 e11_6
          refine lv_aload_n hx hb dX7_row_51 rfl (lv_at hl 0 rfl) ?_
          refine lv_dup hx hb dX7_row_52 rfl ?_
          refine gf_35 B hH wk3_83 dX7_row_53 ?_
          refine lv_iconst (v := 1) hx hb dX7_row_56 (by decide) ?_
          refine lv_iadd hx hb dX7_row_57 ?_
          refine pf_35 B hH hO wk3_83 dX7_row_58 (fun y11_7 e11_7 H locs hH => ?_)
          replace h := h y11_7 e11_7
          obtain ⟨v1_11_8, e11_8⟩ : ∃ z : Int32, z = v1_11 + 1 := ⟨_, rfl⟩
          replace h := h v1_11_8 e11_8
          refine lv_iinc (v := v1_11_8) (lv' := [(1, .int v1_11_8), (0, .ref (ad 35))]) hx hb dX7_row_61 hl (k := 1) rfl (by rw [e11_8]; first | rfl | done) (by decide) rfl (fun ls hl => ?_)
          refine lv_goto (tgt := 11) hx hb dX7_row_64 (by decide) ?_
          exact ih11 v1_11_8 y11_7 _ _ _ hH (lv_sub hl [1, 0] rfl) h
        · replace h := h.2 c11_4
          refine lv_goto (tgt := 61) hx hb dX7_row_33 (by decide) ?_
          obtain ⟨v1_11_9, e11_9⟩ : ∃ z : Int32, z = v1_11 + 1 := ⟨_, rfl⟩
          replace h := h v1_11_9 e11_9
          refine lv_iinc (v := v1_11_9) (lv' := [(1, .int v1_11_9), (0, .ref (ad 35))]) hx hb dX7_row_61 hl (k := 1) rfl (by rw [e11_9]; first | rfl | done) (by decide) rfl (fun ls hl => ?_)
          refine lv_goto (tgt := 11) hx hb dX7_row_64 (by decide) ?_
          exact ih11 v1_11_9 y_11 _ _ _ hH (lv_sub hl [1, 0] rfl) h
  exact loop_11 n_11 0 y2 _ _ _ hH (lv_sub hl [1, 0] rfl) h
set_option maxHeartbeats 4000000 in
set_option maxRecDepth 100000 in
theorem kX7_at (l : Launch) {D : va_G} {cy : Nat → ClassId} {ad : Nat → Nat} (hI : AdI ad) (a1 : Int32) (K : Int32 → ST → Prop) (x y : ST) (h : wX7_at a1 K y) : Met l yX7_at (Cond.code yX7_at cX7_at 2 (some .int) :: WL) ({ frames := 1, cells := 0, slots := 0, locals := 22 } : Room) (va_Pc [.ref (ad 35), .int a1] (PW D cy ad x y)) (va_Qi K (QW D (fun z => Wd ad cy x z)) (AW ad)) 0 0 (AW ad) := by
  refine Met.ofW (cc := cX7_at) (maxL := 2) (ret := (some .int)) (by decide) rfl ?_
  intro p e s m args below meth c s₁ B0 hml hv
  obtain ⟨rfl, hP, hK, hN⟩ := hv
  have hr := B0.returns
  have hlocks := B0.notSynchronized
  have hts := atoms_spec (ws := (Cond.code yX7_at cX7_at 2 (some .int) :: WL)) B0.pre
  have B : Bd p s m ([Value.ref (ad 35), Value.int a1] : List Value).toArray c cX7_at 2 RX7 D cy := ⟨B0.exec, B0.bytes, hml, findClass_of_methodNamed B0.named, fun w hw => hts w (List.mem_cons_of_mem _ hw), hK, hN⟩
  have hx := B0.exec
  have hb := B0.bytes
  have hO : AdOk ad (AW ad) := hI.self
  have hH : Hd D (AW ad) (Wd ad cy x y) s s.heap [] := ⟨hP, va_S.rf⟩
  have hl := lv_entry ([.ref (ad 35), .int a1]) (n := 2) (Nat.le_of_ble_eq_true rfl)
  rw [lg_entry_eq]
  generalize (lg_sl ([.ref (ad 35), .int a1]) ++ List.replicate (2 - (lg_sl ([.ref (ad 35), .int a1])).length) Slot.unset).toArray = ls at hl ⊢
  have hl : lv_has ls 2 [(0, .ref (ad 35)), (1, .int a1)] := hl
  unfold wX7_at at h
  refine lv_iload_n hx hb dX7_at_0 rfl (lv_at hl 1 rfl) ?_
  refine lv_iconst (v := 0) hx hb dX7_at_1 (by decide) ?_
  refine lv_aload_n hx hb dX7_at_2 rfl (lv_at hl 0 rfl) ?_
  refine gf_35 B hH wk3_83 dX7_at_3 ?_
  refine lv_iconst (v := 1) hx hb dX7_at_6 (by decide) ?_
  refine lv_isub hx hb dX7_at_7 ?_
  refine xSi (Wf := (fun z => Wd ad cy x z)) (n := 3) (As := [.int a1, .int 0, .int (((gI y 35) - 1))]) (rest := []) B hH hO (kX7_isIn l hO.1 a1 0 ((gI y 35) - 1) _ x y h) wk3_181 wk3_182 wk1_8 wk3_183 (by decide +kernel) rfl ⟨rfl, rfl⟩ ⟨Nat.le_of_ble_eq_true rfl, Nat.le_of_ble_eq_true rfl⟩ ⟨Nat.zero_le _, Nat.zero_le _⟩ hl.1 rfl (Nat.le_of_ble_eq_true rfl) dX7_at_8 (fun r1 y1 H locs h hH => ?_)
  obtain ⟨h, hz1⟩ := h
  replace hH : Hd D (AW ad) (Wd ad cy x y1) s H locs := hH
  refine lv_if_eq (tgt := 23) hx hb dX7_at_11 (by decide) (fun c2 => ?_) (fun c2 => ?_)
  · replace h := h.1 c2
    refine lv_iconst (v := (-1)) hx hb dX7_at_23 (by decide) ?_
    exact xret_i hx hb hr hlocks hH h dX7_at_24
  · replace h := h.2 c2
    refine lv_aload_n hx hb dX7_at_14 rfl (lv_at hl 0 rfl) ?_
    refine gr_58 B hH wk3_84 dX7_at_15 ?_
    refine lv_iload_n hx hb dX7_at_18 rfl (lv_at hl 1 rfl) ?_
    obtain ⟨b3, h⟩ := h
    refine ald_58 B hH b3 dX7_at_19 ?_
    refine lv_goto (tgt := 24) hx hb dX7_at_20 (by decide) ?_
    exact xret_i hx hb hr hlocks hH h dX7_at_24
set_option maxHeartbeats 4000000 in
set_option maxRecDepth 100000 in
theorem kX7_misplace (l : Launch) {D : va_G} {cy : Nat → ClassId} {ad : Nat → Nat} (hI : AdI ad) (a1 : Int32) (a2 : Int32) (K : Int32 → ST → Prop) (x y : ST) (h : wX7_misplace a1 a2 K y) : Met l yX7_misplace (Cond.code yX7_misplace cX7_misplace 5 (some .boolean) :: WL) ({ frames := 1, cells := 0, slots := 0, locals := 22 } : Room) (va_Pc [.ref (ad 35), .int a1, .int a2] (PW D cy ad x y)) (va_Qi (fun r z => K r z ∧ (r = 0 ∨ r = 1)) (QW D (fun z => Wd ad cy x z)) (AW ad)) 0 0 (AW ad) := by
  refine Met.ofW (cc := cX7_misplace) (maxL := 5) (ret := (some .boolean)) (by decide) rfl ?_
  intro p e s m args below meth c s₁ B0 hml hv
  obtain ⟨rfl, hP, hK, hN⟩ := hv
  have hr := B0.returns
  have hlocks := B0.notSynchronized
  have hts := atoms_spec (ws := (Cond.code yX7_misplace cX7_misplace 5 (some .boolean) :: WL)) B0.pre
  have B : Bd p s m ([Value.ref (ad 35), Value.int a1, Value.int a2] : List Value).toArray c cX7_misplace 5 RX7 D cy := ⟨B0.exec, B0.bytes, hml, findClass_of_methodNamed B0.named, fun w hw => hts w (List.mem_cons_of_mem _ hw), hK, hN⟩
  have hx := B0.exec
  have hb := B0.bytes
  have hO : AdOk ad (AW ad) := hI.self
  have hH : Hd D (AW ad) (Wd ad cy x y) s s.heap [] := ⟨hP, va_S.rf⟩
  have hl := lv_entry ([.ref (ad 35), .int a1, .int a2]) (n := 5) (Nat.le_of_ble_eq_true rfl)
  rw [lg_entry_eq]
  generalize (lg_sl ([.ref (ad 35), .int a1, .int a2]) ++ List.replicate (5 - (lg_sl ([.ref (ad 35), .int a1, .int a2])).length) Slot.unset).toArray = ls at hl ⊢
  have hl : lv_has ls 5 [(0, .ref (ad 35)), (1, .int a1), (2, .int a2)] := hl
  unfold wX7_misplace at h
  refine lv_iload_n hx hb dX7_misplace_0 rfl (lv_at hl 1 rfl) ?_
  refine lv_iconst (v := 0) hx hb dX7_misplace_1 (by decide) ?_
  refine lv_aload_n hx hb dX7_misplace_2 rfl (lv_at hl 0 rfl) ?_
  refine gf_35 B hH wk3_83 dX7_misplace_3 ?_
  refine lv_iconst (v := 1) hx hb dX7_misplace_6 (by decide) ?_
  refine lv_isub hx hb dX7_misplace_7 ?_
  refine xSi (Wf := (fun z => Wd ad cy x z)) (n := 3) (As := [.int a1, .int 0, .int (((gI y 35) - 1))]) (rest := []) B hH hO (kX7_isIn l hO.1 a1 0 ((gI y 35) - 1) _ x y h) wk3_181 wk3_182 wk1_8 wk3_183 (by decide +kernel) rfl ⟨rfl, rfl⟩ ⟨Nat.le_of_ble_eq_true rfl, Nat.le_of_ble_eq_true rfl⟩ ⟨Nat.zero_le _, Nat.zero_le _⟩ hl.1 rfl (Nat.le_of_ble_eq_true rfl) dX7_misplace_8 (fun r1 y1 H locs h hH => ?_)
  obtain ⟨h, hz1⟩ := h
  replace hH : Hd D (AW ad) (Wd ad cy x y1) s H locs := hH
  refine lv_if_eq (tgt := 33) hx hb dX7_misplace_11 (by decide) (fun c2 => ?_) (fun c2 => ?_)
  · replace h := h.1 c2
    refine lv_iconst (v := 0) hx hb dX7_misplace_33 (by decide) ?_
    exact xret_z hx hb hr hlocks hH (Or.inl rfl) h dX7_misplace_34
  · replace h := h.2 c2
    refine lv_iload_n hx hb dX7_misplace_14 rfl (lv_at hl 2 rfl) ?_
    refine lv_iconst (v := 0) hx hb dX7_misplace_15 (by decide) ?_
    refine lv_aload_n hx hb dX7_misplace_16 rfl (lv_at hl 0 rfl) ?_
    refine gf_35 B hH wk3_83 dX7_misplace_17 ?_
    refine lv_iconst (v := 1) hx hb dX7_misplace_20 (by decide) ?_
    refine lv_isub hx hb dX7_misplace_21 ?_
    refine xSi (Wf := (fun z => Wd ad cy x z)) (n := 3) (As := [.int a2, .int 0, .int (((gI y1 35) - 1))]) (rest := []) B hH hO (kX7_isIn l hO.1 a2 0 ((gI y1 35) - 1) _ x y1 h) wk3_181 wk3_182 wk1_8 wk3_183 (by decide +kernel) rfl ⟨rfl, rfl⟩ ⟨Nat.le_of_ble_eq_true rfl, Nat.le_of_ble_eq_true rfl⟩ ⟨Nat.zero_le _, Nat.zero_le _⟩ hl.1 rfl (Nat.le_of_ble_eq_true rfl) dX7_misplace_22 (fun r3 y3 H locs h hH => ?_)
    obtain ⟨h, hz3⟩ := h
    replace hH : Hd D (AW ad) (Wd ad cy x y3) s H locs := hH
    refine lv_if_eq (tgt := 33) hx hb dX7_misplace_25 (by decide) (fun c4 => ?_) (fun c4 => ?_)
    · replace h := h.1 c4
      refine lv_iconst (v := 0) hx hb dX7_misplace_33 (by decide) ?_
      exact xret_z hx hb hr hlocks hH (Or.inl rfl) h dX7_misplace_34
    · replace h := h.2 c4
      refine lv_iload_n hx hb dX7_misplace_28 rfl (lv_at hl 1 rfl) ?_
      refine lv_iload_n hx hb dX7_misplace_29 rfl (lv_at hl 2 rfl) ?_
      refine lv_icmp_ne (tgt := 35) hx hb dX7_misplace_30 (by decide) (fun c5 => ?_) (fun c5 => ?_)
      · replace h := h.1 c5
        refine lv_aload_n hx hb dX7_misplace_35 rfl (lv_at hl 0 rfl) ?_
        refine gr_58 B hH wk3_84 dX7_misplace_36 ?_
        refine lv_iload_n hx hb dX7_misplace_39 rfl (lv_at hl 1 rfl) ?_
        obtain ⟨b6, h⟩ := h
        refine ald_58 B hH b6 dX7_misplace_40 ?_
        refine lv_topi (fun v3_7 e7 => ?_)
        replace h := h v3_7 e7
        refine lv_istore_n (lv' := [(3, .int v3_7), (0, .ref (ad 35)), (1, .int a1), (2, .int a2)]) hx hb dX7_misplace_41 rfl hl (by decide) rfl (fun ls hl => ?_)
        refine lv_iload_n hx hb dX7_misplace_42 rfl (lv_at hl 2 rfl) ?_
        refine lv_istore (lv' := [(4, .int a1), (3, .int v3_7), (0, .ref (ad 35)), (1, .int a1), (2, .int a2)]) hx hb dX7_misplace_43 hl (by decide) rfl (fun ls hl => ?_)
        obtain ⟨n_45, h⟩ := h
        have loop_45 : ∀ (f3_45 : Int32) (n_45 : Nat) (v4_45 : Int32) (y_45 : ST) (H : Heap) (locs : List Loc) (ls : Array Slot), Hd D (AW ad) (Wd ad cy x y_45) s H locs → lv_has ls 5 [(0, .ref (ad 35)), (1, .int a1), (2, .int a2), (3, .int f3_45), (4, .int v4_45)] → it (fun (_ : Int32) (_ : ST) => False) (FX7_misplace_45 a1 a2 K f3_45) n_45 v4_45 y_45 → W p l e (headSpec (Cond.code yX7_misplace cX7_misplace 5 (some .boolean) :: WL) ({ frames := 1, cells := 0, slots := 0, locals := 22 } : Room)).room s m ([Value.ref (ad 35), Value.int a1, Value.int a2] : List Value).toArray below meth c H locs 0 0 (MQ below (va_Qi (fun r z => K r z ∧ (r = 0 ∨ r = 1)) (QW D (fun z => Wd ad cy x z)) (AW ad)) ([Value.ref (ad 35), Value.int a1, Value.int a2] : List Value).toArray s 0 0 (AW ad)) (F0 m 45 ls []) := by
          intro f3_45 n_45
          induction n_45 with
          | zero => intro v4_45 y_45 H locs ls hH hl h; exact False.elim h
          | succ n_45 ih45 =>
            intro v4_45 y_45 H locs ls hH hl h
            refine lv_iload hx hb dX7_misplace_45 (lv_at hl 4 rfl) ?_
            refine lv_iload_n hx hb dX7_misplace_47 rfl (lv_at hl 2 rfl) ?_
            refine lv_icmp_ge (tgt := 73) hx hb dX7_misplace_48 (by decide) (fun c45_1 => ?_) (fun c45_1 => ?_)
            · replace h := h.1 c45_1
              refine lv_iload_n hx hb dX7_misplace_73 rfl (lv_at hl 1 rfl) ?_
              refine lv_istore (lv' := [(4, .int a1), (0, .ref (ad 35)), (1, .int a1), (2, .int a2), (3, .int f3_45)]) hx hb dX7_misplace_74 hl (by decide) rfl (fun ls hl => ?_)
              obtain ⟨n_76, h⟩ := h
              have loop_76 : ∀ (f3_76 : Int32) (n_76 : Nat) (v4_76 : Int32) (y_76 : ST) (H : Heap) (locs : List Loc) (ls : Array Slot), Hd D (AW ad) (Wd ad cy x y_76) s H locs → lv_has ls 5 [(0, .ref (ad 35)), (2, .int a2), (3, .int f3_76), (4, .int v4_76)] → it (fun (_ : Int32) (_ : ST) => False) (FX7_misplace_76 a2 K f3_76) n_76 v4_76 y_76 → W p l e (headSpec (Cond.code yX7_misplace cX7_misplace 5 (some .boolean) :: WL) ({ frames := 1, cells := 0, slots := 0, locals := 22 } : Room)).room s m ([Value.ref (ad 35), Value.int a1, Value.int a2] : List Value).toArray below meth c H locs 0 0 (MQ below (va_Qi (fun r z => K r z ∧ (r = 0 ∨ r = 1)) (QW D (fun z => Wd ad cy x z)) (AW ad)) ([Value.ref (ad 35), Value.int a1, Value.int a2] : List Value).toArray s 0 0 (AW ad)) (F0 m 76 ls []) := by
                intro f3_76 n_76
                induction n_76 with
                | zero => intro v4_76 y_76 H locs ls hH hl h; exact False.elim h
                | succ n_76 ih76 =>
                  intro v4_76 y_76 H locs ls hH hl h
                  refine lv_iload hx hb dX7_misplace_76 (lv_at hl 3 rfl) ?_
                  refine lv_iload_n hx hb dX7_misplace_78 rfl (lv_at hl 1 rfl) ?_
                  refine lv_icmp_le (tgt := 104) hx hb dX7_misplace_79 (by decide) (fun c76_1 => ?_) (fun c76_1 => ?_)
                  · replace h := h.1 c76_1
                    refine lv_aload_n hx hb dX7_misplace_104 rfl (lv_at hl 0 rfl) ?_
                    refine gr_58 B hH wk3_84 dX7_misplace_105 ?_
                    refine lv_iload_n hx hb dX7_misplace_108 rfl (lv_at hl 1 rfl) ?_
                    refine lv_iload_n hx hb dX7_misplace_109 rfl (lv_at hl 2 rfl) ?_
                    obtain ⟨b76_2, h⟩ := h
                    refine ast_58 B hH hO b76_2 dX7_misplace_110 (fun y76_3 e76_3 H locs hH => ?_)
                    replace h := h y76_3 e76_3
                    refine lv_iconst (v := 1) hx hb dX7_misplace_111 (by decide) ?_
                    exact xret_z hx hb hr hlocks hH (Or.inr rfl) h dX7_misplace_112
                  · replace h := h.2 c76_1
                    refine lv_aload_n hx hb dX7_misplace_82 rfl (lv_at hl 0 rfl) ?_
                    refine gr_58 B hH wk3_84 dX7_misplace_83 ?_
                    refine lv_iload hx hb dX7_misplace_86 (lv_at hl 3 rfl) ?_
                    refine lv_aload_n hx hb dX7_misplace_88 rfl (lv_at hl 0 rfl) ?_
                    refine gr_58 B hH wk3_84 dX7_misplace_89 ?_
                    refine lv_iload hx hb dX7_misplace_92 (lv_at hl 3 rfl) ?_
                    refine lv_iconst (v := 1) hx hb dX7_misplace_94 (by decide) ?_
                    refine lv_isub hx hb dX7_misplace_95 ?_
                    obtain ⟨b76_4, h⟩ := h
                    refine ald_58 B hH b76_4 dX7_misplace_96 ?_
                    obtain ⟨b76_5, h⟩ := h
                    refine ast_58 B hH hO b76_5 dX7_misplace_97 (fun y76_6 e76_6 H locs hH => ?_)
                    replace h := h y76_6 e76_6
                    obtain ⟨v4_76_7, e76_7⟩ : ∃ z : Int32, z = v4_76 + (-1) := ⟨_, rfl⟩
                    replace h := h v4_76_7 e76_7
                    refine lv_iinc (v := v4_76_7) (lv' := [(4, .int v4_76_7), (0, .ref (ad 35)), (2, .int a2), (3, .int f3_76)]) hx hb dX7_misplace_98 hl (k := 3) rfl (by rw [e76_7]; first | rfl | done) (by decide) rfl (fun ls hl => ?_)
                    refine lv_goto (tgt := 76) hx hb dX7_misplace_101 (by decide) ?_
                    exact ih76 v4_76_7 y76_6 _ _ _ hH (lv_sub hl [1, 2, 3, 0] rfl) h
              exact loop_76 f3_45 n_76 a1 y_45 _ _ _ hH (lv_sub hl [1, 3, 4, 0] rfl) h
            · replace h := h.2 c45_1
              refine lv_aload_n hx hb dX7_misplace_51 rfl (lv_at hl 0 rfl) ?_
              refine gr_58 B hH wk3_84 dX7_misplace_52 ?_
              refine lv_iload hx hb dX7_misplace_55 (lv_at hl 4 rfl) ?_
              refine lv_aload_n hx hb dX7_misplace_57 rfl (lv_at hl 0 rfl) ?_
              refine gr_58 B hH wk3_84 dX7_misplace_58 ?_
              refine lv_iload hx hb dX7_misplace_61 (lv_at hl 4 rfl) ?_
              refine lv_iconst (v := 1) hx hb dX7_misplace_63 (by decide) ?_
              refine lv_iadd hx hb dX7_misplace_64 ?_
              obtain ⟨b45_2, h⟩ := h
              refine ald_58 B hH b45_2 dX7_misplace_65 ?_
              obtain ⟨b45_3, h⟩ := h
              refine ast_58 B hH hO b45_3 dX7_misplace_66 (fun y45_4 e45_4 H locs hH => ?_)
              replace h := h y45_4 e45_4
              obtain ⟨v4_45_5, e45_5⟩ : ∃ z : Int32, z = v4_45 + 1 := ⟨_, rfl⟩
              replace h := h v4_45_5 e45_5
              refine lv_iinc (v := v4_45_5) (lv' := [(4, .int v4_45_5), (0, .ref (ad 35)), (1, .int a1), (2, .int a2), (3, .int f3_45)]) hx hb dX7_misplace_67 hl (k := 4) rfl (by rw [e45_5]; first | rfl | done) (by decide) rfl (fun ls hl => ?_)
              refine lv_goto (tgt := 45) hx hb dX7_misplace_70 (by decide) ?_
              exact ih45 v4_45_5 y45_4 _ _ _ hH (lv_sub hl [1, 2, 3, 4, 0] rfl) h
        exact loop_45 v3_7 n_45 a1 y3 _ _ _ hH (lv_sub hl [2, 3, 4, 1, 0] rfl) h
      · replace h := h.2 c5
        refine lv_iconst (v := 0) hx hb dX7_misplace_33 (by decide) ?_
        exact xret_z hx hb hr hlocks hH (Or.inl rfl) h dX7_misplace_34
set_option maxHeartbeats 4000000 in
set_option maxRecDepth 100000 in
theorem kX7_takeOut (l : Launch) {D : va_G} {cy : Nat → ClassId} {ad : Nat → Nat} (hI : AdI ad) (K : Int32 → ST → Prop) (x y : ST) (h : wX7_takeOut K y) : Met l yX7_takeOut (Cond.code yX7_takeOut cX7_takeOut 5 (some .int) :: WL) ({ frames := 2, cells := 0, slots := 0, locals := 47 } : Room) (va_Pc [.ref (ad 35)] (PW D cy ad x y)) (va_Qi K (QW D (fun z => Wd ad cy x z)) (AW ad)) 0 0 (AW ad) := by
  refine Met.ofW (cc := cX7_takeOut) (maxL := 5) (ret := (some .int)) (by decide) rfl ?_
  intro p e s m args below meth c s₁ B0 hml hv
  obtain ⟨rfl, hP, hK, hN⟩ := hv
  have hr := B0.returns
  have hlocks := B0.notSynchronized
  have hts := atoms_spec (ws := (Cond.code yX7_takeOut cX7_takeOut 5 (some .int) :: WL)) B0.pre
  have B : Bd p s m ([Value.ref (ad 35)] : List Value).toArray c cX7_takeOut 5 RX7 D cy := ⟨B0.exec, B0.bytes, hml, findClass_of_methodNamed B0.named, fun w hw => hts w (List.mem_cons_of_mem _ hw), hK, hN⟩
  have hx := B0.exec
  have hb := B0.bytes
  have hO : AdOk ad (AW ad) := hI.self
  have hH : Hd D (AW ad) (Wd ad cy x y) s s.heap [] := ⟨hP, va_S.rf⟩
  have hl := lv_entry ([.ref (ad 35)]) (n := 5) (Nat.le_of_ble_eq_true rfl)
  rw [lg_entry_eq]
  generalize (lg_sl ([.ref (ad 35)]) ++ List.replicate (5 - (lg_sl ([.ref (ad 35)])).length) Slot.unset).toArray = ls at hl ⊢
  have hl : lv_has ls 5 [(0, .ref (ad 35))] := hl
  unfold wX7_takeOut at h
  refine lv_iconst (v := 0) hx hb dX7_takeOut_0 (by decide) ?_
  refine lv_istore_n (lv' := [(1, .int 0), (0, .ref (ad 35))]) hx hb dX7_takeOut_1 rfl hl (by decide) rfl (fun ls hl => ?_)
  refine lv_aload_n hx hb dX7_takeOut_2 rfl (lv_at hl 1 rfl) ?_
  refine gf_35 B hH wk3_83 dX7_takeOut_3 ?_
  refine lv_iconst (v := 1) hx hb dX7_takeOut_6 (by decide) ?_
  refine lv_isub hx hb dX7_takeOut_7 ?_
  refine lv_topi (fun v2_1 e1 => ?_)
  replace h := h v2_1 e1
  refine lv_istore_n (lv' := [(2, .int v2_1), (1, .int 0), (0, .ref (ad 35))]) hx hb dX7_takeOut_8 rfl hl (by decide) rfl (fun ls hl => ?_)
  obtain ⟨n_9, h⟩ := h
  have loop_9 : ∀ (n_9 : Nat) (v1_9 : Int32) (v2_9 : Int32) (y_9 : ST) (H : Heap) (locs : List Loc) (ls : Array Slot), Hd D (AW ad) (Wd ad cy x y_9) s H locs → lv_has ls 5 [(0, .ref (ad 35)), (1, .int v1_9), (2, .int v2_9)] → it (fun (_ : Int32) (_ : Int32) (_ : ST) => False) (FX7_takeOut_9 K) n_9 v1_9 v2_9 y_9 → W p l e (headSpec (Cond.code yX7_takeOut cX7_takeOut 5 (some .int) :: WL) ({ frames := 2, cells := 0, slots := 0, locals := 47 } : Room)).room s m ([Value.ref (ad 35)] : List Value).toArray below meth c H locs 0 0 (MQ below (va_Qi K (QW D (fun z => Wd ad cy x z)) (AW ad)) ([Value.ref (ad 35)] : List Value).toArray s 0 0 (AW ad)) (F0 m 9 ls []) := by
    intro n_9
    induction n_9 with
    | zero => intro v1_9 v2_9 y_9 H locs ls hH hl h; exact False.elim h
    | succ n_9 ih9 =>
      intro v1_9 v2_9 y_9 H locs ls hH hl h
      refine lv_iload_n hx hb dX7_takeOut_9 rfl (lv_at hl 2 rfl) ?_
      refine lv_if_lt (tgt := 115) hx hb dX7_takeOut_10 (by decide) (fun c9_1 => ?_) (fun c9_1 => ?_)
      · replace h := h.1 c9_1
        refine lv_iload_n hx hb dX7_takeOut_115 rfl (lv_at hl 1 rfl) ?_
        refine lv_istore_n (lv' := [(2, .int v1_9), (0, .ref (ad 35)), (1, .int v1_9)]) hx hb dX7_takeOut_116 rfl hl (by decide) rfl (fun ls hl => ?_)
        refine lv_iconst (v := (-1)) hx hb dX7_takeOut_117 (by decide) ?_
        refine lv_istore_n (lv' := [(3, .int ((-1))), (2, .int v1_9), (0, .ref (ad 35)), (1, .int v1_9)]) hx hb dX7_takeOut_118 rfl hl (by decide) rfl (fun ls hl => ?_)
        refine lv_iconst (v := 0) hx hb dX7_takeOut_119 (by decide) ?_
        refine lv_istore (lv' := [(4, .int 0), (3, .int ((-1))), (2, .int v1_9), (0, .ref (ad 35)), (1, .int v1_9)]) hx hb dX7_takeOut_120 hl (by decide) rfl (fun ls hl => ?_)
        obtain ⟨n_122, h⟩ := h
        have loop_122 : ∀ (f1_122 : Int32) (n_122 : Nat) (v2_122 : Int32) (v3_122 : Int32) (v4_122 : Int32) (y_122 : ST) (H : Heap) (locs : List Loc) (ls : Array Slot), Hd D (AW ad) (Wd ad cy x y_122) s H locs → lv_has ls 5 [(0, .ref (ad 35)), (1, .int f1_122), (2, .int v2_122), (3, .int v3_122), (4, .int v4_122)] → it (fun (_ : Int32) (_ : Int32) (_ : Int32) (_ : ST) => False) (FX7_takeOut_122 K f1_122) n_122 v2_122 v3_122 v4_122 y_122 → W p l e (headSpec (Cond.code yX7_takeOut cX7_takeOut 5 (some .int) :: WL) ({ frames := 2, cells := 0, slots := 0, locals := 47 } : Room)).room s m ([Value.ref (ad 35)] : List Value).toArray below meth c H locs 0 0 (MQ below (va_Qi K (QW D (fun z => Wd ad cy x z)) (AW ad)) ([Value.ref (ad 35)] : List Value).toArray s 0 0 (AW ad)) (F0 m 122 ls []) := by
          intro f1_122 n_122
          induction n_122 with
          | zero => intro v2_122 v3_122 v4_122 y_122 H locs ls hH hl h; exact False.elim h
          | succ n_122 ih122 =>
            intro v2_122 v3_122 v4_122 y_122 H locs ls hH hl h
            refine lv_iload hx hb dX7_takeOut_122 (lv_at hl 4 rfl) ?_
            refine lv_aload_n hx hb dX7_takeOut_124 rfl (lv_at hl 0 rfl) ?_
            refine gf_35 B hH wk3_83 dX7_takeOut_125 ?_
            refine lv_icmp_ge (tgt := 211) hx hb dX7_takeOut_128 (by decide) (fun c122_1 => ?_) (fun c122_1 => ?_)
            · replace h := h.1 c122_1
              refine lv_aload_n hx hb dX7_takeOut_211 rfl (lv_at hl 0 rfl) ?_
              refine gf_35 B hH wk3_83 dX7_takeOut_212 ?_
              refine lv_iload_n hx hb dX7_takeOut_215 rfl (lv_at hl 1 rfl) ?_
              refine lv_isub hx hb dX7_takeOut_216 ?_
              exact xret_i hx hb hr hlocks hH h dX7_takeOut_217
            · replace h := h.2 c122_1
              refine lv_aload_n hx hb dX7_takeOut_131 rfl (lv_at hl 0 rfl) ?_
              refine gr_60 B hH wk3_86 dX7_takeOut_132 ?_
              refine lv_iload hx hb dX7_takeOut_135 (lv_at hl 4 rfl) ?_
              refine lv_iload_n hx hb dX7_takeOut_137 rfl (lv_at hl 2 rfl) ?_
              refine lv_if_eq (tgt := 175) hx hb dX7_takeOut_138 (by decide) (fun c122_2 => ?_) (fun c122_2 => ?_)
              · replace h := h.1 c122_2
                refine lv_iconst (v := 1) hx hb dX7_takeOut_175 (by decide) ?_
                refine lv_goto (tgt := 180) hx hb dX7_takeOut_176 (by decide) ?_
                obtain ⟨b122_3, h⟩ := h
                refine ast_60 B hH hO b122_3 (Or.inr rfl) dX7_takeOut_180 (fun y122_4 e122_4 H locs hH => ?_)
                replace h := h y122_4 e122_4
                refine lv_aload_n hx hb dX7_takeOut_181 rfl (lv_at hl 0 rfl) ?_
                refine gr_60 B hH wk3_86 dX7_takeOut_182 ?_
                refine lv_iload hx hb dX7_takeOut_185 (lv_at hl 4 rfl) ?_
                refine ald_60 B hH b122_3 dX7_takeOut_187 ?_
                refine lv_if_eq (tgt := 194) hx hb dX7_takeOut_188 (by decide) (fun c122_5 => ?_) (fun c122_5 => ?_)
                · replace h := h.1 c122_5
                  refine lv_aload_n hx hb dX7_takeOut_194 rfl (lv_at hl 0 rfl) ?_
                  refine gr_58 B hH wk3_84 dX7_takeOut_195 ?_
                  refine lv_iload hx hb dX7_takeOut_198 (lv_at hl 4 rfl) ?_
                  refine ald_58 B hH b122_3 dX7_takeOut_200 ?_
                  refine lv_topi (fun v3_122_6 e122_6 => ?_)
                  replace h := h v3_122_6 e122_6
                  refine lv_istore_n (lv' := [(3, .int v3_122_6), (0, .ref (ad 35)), (1, .int f1_122), (2, .int v2_122), (4, .int v4_122)]) hx hb dX7_takeOut_201 rfl hl (by decide) rfl (fun ls hl => ?_)
                  obtain ⟨v2_122_7, e122_7⟩ : ∃ z : Int32, z = v2_122 + (-1) := ⟨_, rfl⟩
                  replace h := h v2_122_7 e122_7
                  refine lv_iinc (v := v2_122_7) (lv' := [(2, .int v2_122_7), (3, .int v3_122_6), (0, .ref (ad 35)), (1, .int f1_122), (4, .int v4_122)]) hx hb dX7_takeOut_202 hl (k := 3) rfl (by rw [e122_7]; first | rfl | done) (by decide) rfl (fun ls hl => ?_)
                  obtain ⟨v4_122_8, e122_8⟩ : ∃ z : Int32, z = v4_122 + 1 := ⟨_, rfl⟩
                  replace h := h v4_122_8 e122_8
                  refine lv_iinc (v := v4_122_8) (lv' := [(4, .int v4_122_8), (2, .int v2_122_7), (3, .int v3_122_6), (0, .ref (ad 35)), (1, .int f1_122)]) hx hb dX7_takeOut_205 hl (k := 4) rfl (by rw [e122_8]; first | rfl | done) (by decide) rfl (fun ls hl => ?_)
                  refine lv_goto (tgt := 122) hx hb dX7_takeOut_208 (by decide) ?_
                  exact ih122 v2_122_7 v3_122_6 v4_122_8 y122_4 _ _ _ hH (lv_sub hl [3, 4, 1, 2, 0] rfl) h
                · replace h := h.2 c122_5
                  refine lv_goto (tgt := 205) hx hb dX7_takeOut_191 (by decide) ?_
                  obtain ⟨v4_122_9, e122_9⟩ : ∃ z : Int32, z = v4_122 + 1 := ⟨_, rfl⟩
                  replace h := h v4_122_9 e122_9
                  refine lv_iinc (v := v4_122_9) (lv' := [(4, .int v4_122_9), (0, .ref (ad 35)), (1, .int f1_122), (2, .int v2_122), (3, .int v3_122)]) hx hb dX7_takeOut_205 hl (k := 4) rfl (by rw [e122_9]; first | rfl | done) (by decide) rfl (fun ls hl => ?_)
                  refine lv_goto (tgt := 122) hx hb dX7_takeOut_208 (by decide) ?_
                  exact ih122 v2_122 v3_122 v4_122_9 y122_4 _ _ _ hH (lv_sub hl [1, 2, 3, 4, 0] rfl) h
              · replace h := h.2 c122_2
                refine lv_aload_n hx hb dX7_takeOut_141 rfl (lv_at hl 0 rfl) ?_
                refine gr_59 B hH wk3_85 dX7_takeOut_142 ?_
                refine lv_iload hx hb dX7_takeOut_145 (lv_at hl 4 rfl) ?_
                obtain ⟨b122_10, h⟩ := h
                refine ald_59 B hH b122_10 dX7_takeOut_147 ?_
                refine lv_iload_n hx hb dX7_takeOut_148 rfl (lv_at hl 2 rfl) ?_
                refine lv_icmp_ne (tgt := 175) hx hb dX7_takeOut_149 (by decide) (fun c122_11 => ?_) (fun c122_11 => ?_)
                · replace h := h.1 c122_11
                  refine lv_iconst (v := 1) hx hb dX7_takeOut_175 (by decide) ?_
                  refine lv_goto (tgt := 180) hx hb dX7_takeOut_176 (by decide) ?_
                  refine ast_60 B hH hO b122_10 (Or.inr rfl) dX7_takeOut_180 (fun y122_12 e122_12 H locs hH => ?_)
                  replace h := h y122_12 e122_12
                  refine lv_aload_n hx hb dX7_takeOut_181 rfl (lv_at hl 0 rfl) ?_
                  refine gr_60 B hH wk3_86 dX7_takeOut_182 ?_
                  refine lv_iload hx hb dX7_takeOut_185 (lv_at hl 4 rfl) ?_
                  refine ald_60 B hH b122_10 dX7_takeOut_187 ?_
                  refine lv_if_eq (tgt := 194) hx hb dX7_takeOut_188 (by decide) (fun c122_13 => ?_) (fun c122_13 => ?_)
                  · replace h := h.1 c122_13
                    refine lv_aload_n hx hb dX7_takeOut_194 rfl (lv_at hl 0 rfl) ?_
                    refine gr_58 B hH wk3_84 dX7_takeOut_195 ?_
                    refine lv_iload hx hb dX7_takeOut_198 (lv_at hl 4 rfl) ?_
                    refine ald_58 B hH b122_10 dX7_takeOut_200 ?_
                    refine lv_topi (fun v3_122_14 e122_14 => ?_)
                    replace h := h v3_122_14 e122_14
                    refine lv_istore_n (lv' := [(3, .int v3_122_14), (0, .ref (ad 35)), (1, .int f1_122), (2, .int v2_122), (4, .int v4_122)]) hx hb dX7_takeOut_201 rfl hl (by decide) rfl (fun ls hl => ?_)
                    obtain ⟨v2_122_15, e122_15⟩ : ∃ z : Int32, z = v2_122 + (-1) := ⟨_, rfl⟩
                    replace h := h v2_122_15 e122_15
                    refine lv_iinc (v := v2_122_15) (lv' := [(2, .int v2_122_15), (3, .int v3_122_14), (0, .ref (ad 35)), (1, .int f1_122), (4, .int v4_122)]) hx hb dX7_takeOut_202 hl (k := 3) rfl (by rw [e122_15]; first | rfl | done) (by decide) rfl (fun ls hl => ?_)
                    obtain ⟨v4_122_16, e122_16⟩ : ∃ z : Int32, z = v4_122 + 1 := ⟨_, rfl⟩
                    replace h := h v4_122_16 e122_16
                    refine lv_iinc (v := v4_122_16) (lv' := [(4, .int v4_122_16), (2, .int v2_122_15), (3, .int v3_122_14), (0, .ref (ad 35)), (1, .int f1_122)]) hx hb dX7_takeOut_205 hl (k := 4) rfl (by rw [e122_16]; first | rfl | done) (by decide) rfl (fun ls hl => ?_)
                    refine lv_goto (tgt := 122) hx hb dX7_takeOut_208 (by decide) ?_
                    exact ih122 v2_122_15 v3_122_14 v4_122_16 y122_12 _ _ _ hH (lv_sub hl [3, 4, 1, 2, 0] rfl) h
                  · replace h := h.2 c122_13
                    refine lv_goto (tgt := 205) hx hb dX7_takeOut_191 (by decide) ?_
                    obtain ⟨v4_122_17, e122_17⟩ : ∃ z : Int32, z = v4_122 + 1 := ⟨_, rfl⟩
                    replace h := h v4_122_17 e122_17
                    refine lv_iinc (v := v4_122_17) (lv' := [(4, .int v4_122_17), (0, .ref (ad 35)), (1, .int f1_122), (2, .int v2_122), (3, .int v3_122)]) hx hb dX7_takeOut_205 hl (k := 4) rfl (by rw [e122_17]; first | rfl | done) (by decide) rfl (fun ls hl => ?_)
                    refine lv_goto (tgt := 122) hx hb dX7_takeOut_208 (by decide) ?_
                    exact ih122 v2_122 v3_122 v4_122_17 y122_12 _ _ _ hH (lv_sub hl [1, 2, 3, 4, 0] rfl) h
                · replace h := h.2 c122_11
                  refine lv_iload_n hx hb dX7_takeOut_152 rfl (lv_at hl 3 rfl) ?_
                  refine lv_if_lt (tgt := 179) hx hb dX7_takeOut_153 (by decide) (fun c122_18 => ?_) (fun c122_18 => ?_)
                  · replace h := h.1 c122_18
                    refine lv_iconst (v := 0) hx hb dX7_takeOut_179 (by decide) ?_
                    refine ast_60 B hH hO b122_10 (Or.inl rfl) dX7_takeOut_180 (fun y122_19 e122_19 H locs hH => ?_)
                    replace h := h y122_19 e122_19
                    refine lv_aload_n hx hb dX7_takeOut_181 rfl (lv_at hl 0 rfl) ?_
                    refine gr_60 B hH wk3_86 dX7_takeOut_182 ?_
                    refine lv_iload hx hb dX7_takeOut_185 (lv_at hl 4 rfl) ?_
                    refine ald_60 B hH b122_10 dX7_takeOut_187 ?_
                    refine lv_if_eq (tgt := 194) hx hb dX7_takeOut_188 (by decide) (fun c122_20 => ?_) (fun c122_20 => ?_)
                    · replace h := h.1 c122_20
                      refine lv_aload_n hx hb dX7_takeOut_194 rfl (lv_at hl 0 rfl) ?_
                      refine gr_58 B hH wk3_84 dX7_takeOut_195 ?_
                      refine lv_iload hx hb dX7_takeOut_198 (lv_at hl 4 rfl) ?_
                      refine ald_58 B hH b122_10 dX7_takeOut_200 ?_
                      refine lv_topi (fun v3_122_21 e122_21 => ?_)
                      replace h := h v3_122_21 e122_21
                      refine lv_istore_n (lv' := [(3, .int v3_122_21), (0, .ref (ad 35)), (1, .int f1_122), (2, .int v2_122), (4, .int v4_122)]) hx hb dX7_takeOut_201 rfl hl (by decide) rfl (fun ls hl => ?_)
                      obtain ⟨v2_122_22, e122_22⟩ : ∃ z : Int32, z = v2_122 + (-1) := ⟨_, rfl⟩
                      replace h := h v2_122_22 e122_22
                      refine lv_iinc (v := v2_122_22) (lv' := [(2, .int v2_122_22), (3, .int v3_122_21), (0, .ref (ad 35)), (1, .int f1_122), (4, .int v4_122)]) hx hb dX7_takeOut_202 hl (k := 3) rfl (by rw [e122_22]; first | rfl | done) (by decide) rfl (fun ls hl => ?_)
                      obtain ⟨v4_122_23, e122_23⟩ : ∃ z : Int32, z = v4_122 + 1 := ⟨_, rfl⟩
                      replace h := h v4_122_23 e122_23
                      refine lv_iinc (v := v4_122_23) (lv' := [(4, .int v4_122_23), (2, .int v2_122_22), (3, .int v3_122_21), (0, .ref (ad 35)), (1, .int f1_122)]) hx hb dX7_takeOut_205 hl (k := 4) rfl (by rw [e122_23]; first | rfl | done) (by decide) rfl (fun ls hl => ?_)
                      refine lv_goto (tgt := 122) hx hb dX7_takeOut_208 (by decide) ?_
                      exact ih122 v2_122_22 v3_122_21 v4_122_23 y122_19 _ _ _ hH (lv_sub hl [3, 4, 1, 2, 0] rfl) h
                    · replace h := h.2 c122_20
                      refine lv_goto (tgt := 205) hx hb dX7_takeOut_191 (by decide) ?_
                      obtain ⟨v4_122_24, e122_24⟩ : ∃ z : Int32, z = v4_122 + 1 := ⟨_, rfl⟩
                      replace h := h v4_122_24 e122_24
                      refine lv_iinc (v := v4_122_24) (lv' := [(4, .int v4_122_24), (0, .ref (ad 35)), (1, .int f1_122), (2, .int v2_122), (3, .int v3_122)]) hx hb dX7_takeOut_205 hl (k := 4) rfl (by rw [e122_24]; first | rfl | done) (by decide) rfl (fun ls hl => ?_)
                      refine lv_goto (tgt := 122) hx hb dX7_takeOut_208 (by decide) ?_
                      exact ih122 v2_122 v3_122 v4_122_24 y122_19 _ _ _ hH (lv_sub hl [1, 2, 3, 4, 0] rfl) h
                  · replace h := h.2 c122_18
                    refine lv_aload_n hx hb dX7_takeOut_156 rfl (lv_at hl 0 rfl) ?_
                    refine lv_iload_n hx hb dX7_takeOut_157 rfl (lv_at hl 3 rfl) ?_
                    refine lv_aload_n hx hb dX7_takeOut_158 rfl (lv_at hl 0 rfl) ?_
                    refine gr_58 B hH wk3_84 dX7_takeOut_159 ?_
                    refine lv_iload hx hb dX7_takeOut_162 (lv_at hl 4 rfl) ?_
                    refine ald_58 B hH b122_10 dX7_takeOut_164 ?_
                    refine lv_aload_n hx hb dX7_takeOut_165 rfl (lv_at hl 0 rfl) ?_
                    refine gf_23 B hH wk3_49 dX7_takeOut_166 ?_
                    refine xVi (Wf := (fun z => Wd ad cy x z)) (n := 3) (P := 35) (ci := 7) (As := [.int v3_122, .int (gA y_122 58 v4_122), .int (gI y_122 23)]) (rest := [.int v4_122, .ref (ad 60)]) B hH hO (kX7_against l hO.1 v3_122 (gA y_122 58 v4_122) (gI y_122 23) _ x y_122 h) rfl rfl wk3_216 wk3_218 wkp_17 wk1_8 wk3_219 (by decide +kernel) rfl ⟨rfl, rfl⟩ ⟨Nat.le_of_ble_eq_true rfl, Nat.le_of_ble_eq_true rfl⟩ ⟨Nat.zero_le _, Nat.zero_le _⟩ hl.1 rfl (Nat.le_of_ble_eq_true rfl) dX7_takeOut_169 (fun r122_25 y122_25 H locs h hH => ?_)
                    replace hH : Hd D (AW ad) (Wd ad cy x y122_25) s H locs := hH
                    refine lv_if_le (tgt := 179) hx hb dX7_takeOut_172 (by decide) (fun c122_26 => ?_) (fun c122_26 => ?_)
                    · replace h := h.1 c122_26
                      refine lv_iconst (v := 0) hx hb dX7_takeOut_179 (by decide) ?_
                      refine ast_60 B hH hO b122_10 (Or.inl rfl) dX7_takeOut_180 (fun y122_27 e122_27 H locs hH => ?_)
                      replace h := h y122_27 e122_27
                      refine lv_aload_n hx hb dX7_takeOut_181 rfl (lv_at hl 0 rfl) ?_
                      refine gr_60 B hH wk3_86 dX7_takeOut_182 ?_
                      refine lv_iload hx hb dX7_takeOut_185 (lv_at hl 4 rfl) ?_
                      refine ald_60 B hH b122_10 dX7_takeOut_187 ?_
                      refine lv_if_eq (tgt := 194) hx hb dX7_takeOut_188 (by decide) (fun c122_28 => ?_) (fun c122_28 => ?_)
                      · replace h := h.1 c122_28
                        refine lv_aload_n hx hb dX7_takeOut_194 rfl (lv_at hl 0 rfl) ?_
                        refine gr_58 B hH wk3_84 dX7_takeOut_195 ?_
                        refine lv_iload hx hb dX7_takeOut_198 (lv_at hl 4 rfl) ?_
                        refine ald_58 B hH b122_10 dX7_takeOut_200 ?_
                        refine lv_topi (fun v3_122_29 e122_29 => ?_)
                        replace h := h v3_122_29 e122_29
                        refine lv_istore_n (lv' := [(3, .int v3_122_29), (0, .ref (ad 35)), (1, .int f1_122), (2, .int v2_122), (4, .int v4_122)]) hx hb dX7_takeOut_201 rfl hl (by decide) rfl (fun ls hl => ?_)
                        obtain ⟨v2_122_30, e122_30⟩ : ∃ z : Int32, z = v2_122 + (-1) := ⟨_, rfl⟩
                        replace h := h v2_122_30 e122_30
                        refine lv_iinc (v := v2_122_30) (lv' := [(2, .int v2_122_30), (3, .int v3_122_29), (0, .ref (ad 35)), (1, .int f1_122), (4, .int v4_122)]) hx hb dX7_takeOut_202 hl (k := 3) rfl (by rw [e122_30]; first | rfl | done) (by decide) rfl (fun ls hl => ?_)
                        obtain ⟨v4_122_31, e122_31⟩ : ∃ z : Int32, z = v4_122 + 1 := ⟨_, rfl⟩
                        replace h := h v4_122_31 e122_31
                        refine lv_iinc (v := v4_122_31) (lv' := [(4, .int v4_122_31), (2, .int v2_122_30), (3, .int v3_122_29), (0, .ref (ad 35)), (1, .int f1_122)]) hx hb dX7_takeOut_205 hl (k := 4) rfl (by rw [e122_31]; first | rfl | done) (by decide) rfl (fun ls hl => ?_)
                        refine lv_goto (tgt := 122) hx hb dX7_takeOut_208 (by decide) ?_
                        exact ih122 v2_122_30 v3_122_29 v4_122_31 y122_27 _ _ _ hH (lv_sub hl [3, 4, 1, 2, 0] rfl) h
                      · replace h := h.2 c122_28
                        refine lv_goto (tgt := 205) hx hb dX7_takeOut_191 (by decide) ?_
                        obtain ⟨v4_122_32, e122_32⟩ : ∃ z : Int32, z = v4_122 + 1 := ⟨_, rfl⟩
                        replace h := h v4_122_32 e122_32
                        refine lv_iinc (v := v4_122_32) (lv' := [(4, .int v4_122_32), (0, .ref (ad 35)), (1, .int f1_122), (2, .int v2_122), (3, .int v3_122)]) hx hb dX7_takeOut_205 hl (k := 4) rfl (by rw [e122_32]; first | rfl | done) (by decide) rfl (fun ls hl => ?_)
                        refine lv_goto (tgt := 122) hx hb dX7_takeOut_208 (by decide) ?_
                        exact ih122 v2_122 v3_122 v4_122_32 y122_27 _ _ _ hH (lv_sub hl [1, 2, 3, 4, 0] rfl) h
                    · replace h := h.2 c122_26
                      refine lv_iconst (v := 1) hx hb dX7_takeOut_175 (by decide) ?_
                      refine lv_goto (tgt := 180) hx hb dX7_takeOut_176 (by decide) ?_
                      refine ast_60 B hH hO b122_10 (Or.inr rfl) dX7_takeOut_180 (fun y122_33 e122_33 H locs hH => ?_)
                      replace h := h y122_33 e122_33
                      refine lv_aload_n hx hb dX7_takeOut_181 rfl (lv_at hl 0 rfl) ?_
                      refine gr_60 B hH wk3_86 dX7_takeOut_182 ?_
                      refine lv_iload hx hb dX7_takeOut_185 (lv_at hl 4 rfl) ?_
                      refine ald_60 B hH b122_10 dX7_takeOut_187 ?_
                      refine lv_if_eq (tgt := 194) hx hb dX7_takeOut_188 (by decide) (fun c122_34 => ?_) (fun c122_34 => ?_)
                      · replace h := h.1 c122_34
                        refine lv_aload_n hx hb dX7_takeOut_194 rfl (lv_at hl 0 rfl) ?_
                        refine gr_58 B hH wk3_84 dX7_takeOut_195 ?_
                        refine lv_iload hx hb dX7_takeOut_198 (lv_at hl 4 rfl) ?_
                        refine ald_58 B hH b122_10 dX7_takeOut_200 ?_
                        refine lv_topi (fun v3_122_35 e122_35 => ?_)
                        replace h := h v3_122_35 e122_35
                        refine lv_istore_n (lv' := [(3, .int v3_122_35), (0, .ref (ad 35)), (1, .int f1_122), (2, .int v2_122), (4, .int v4_122)]) hx hb dX7_takeOut_201 rfl hl (by decide) rfl (fun ls hl => ?_)
                        obtain ⟨v2_122_36, e122_36⟩ : ∃ z : Int32, z = v2_122 + (-1) := ⟨_, rfl⟩
                        replace h := h v2_122_36 e122_36
                        refine lv_iinc (v := v2_122_36) (lv' := [(2, .int v2_122_36), (3, .int v3_122_35), (0, .ref (ad 35)), (1, .int f1_122), (4, .int v4_122)]) hx hb dX7_takeOut_202 hl (k := 3) rfl (by rw [e122_36]; first | rfl | done) (by decide) rfl (fun ls hl => ?_)
                        obtain ⟨v4_122_37, e122_37⟩ : ∃ z : Int32, z = v4_122 + 1 := ⟨_, rfl⟩
                        replace h := h v4_122_37 e122_37
                        refine lv_iinc (v := v4_122_37) (lv' := [(4, .int v4_122_37), (2, .int v2_122_36), (3, .int v3_122_35), (0, .ref (ad 35)), (1, .int f1_122)]) hx hb dX7_takeOut_205 hl (k := 4) rfl (by rw [e122_37]; first | rfl | done) (by decide) rfl (fun ls hl => ?_)
                        refine lv_goto (tgt := 122) hx hb dX7_takeOut_208 (by decide) ?_
                        exact ih122 v2_122_36 v3_122_35 v4_122_37 y122_33 _ _ _ hH (lv_sub hl [3, 4, 1, 2, 0] rfl) h
                      · replace h := h.2 c122_34
                        refine lv_goto (tgt := 205) hx hb dX7_takeOut_191 (by decide) ?_
                        obtain ⟨v4_122_38, e122_38⟩ : ∃ z : Int32, z = v4_122 + 1 := ⟨_, rfl⟩
                        replace h := h v4_122_38 e122_38
                        refine lv_iinc (v := v4_122_38) (lv' := [(4, .int v4_122_38), (0, .ref (ad 35)), (1, .int f1_122), (2, .int v2_122), (3, .int v3_122)]) hx hb dX7_takeOut_205 hl (k := 4) rfl (by rw [e122_38]; first | rfl | done) (by decide) rfl (fun ls hl => ?_)
                        refine lv_goto (tgt := 122) hx hb dX7_takeOut_208 (by decide) ?_
                        exact ih122 v2_122 v3_122 v4_122_38 y122_33 _ _ _ hH (lv_sub hl [1, 2, 3, 4, 0] rfl) h
        exact loop_122 v1_9 n_122 v1_9 (-1) 0 y_9 _ _ _ hH (lv_sub hl [3, 4, 2, 1, 0] rfl) h
      · replace h := h.2 c9_1
        refine lv_aload_n hx hb dX7_takeOut_13 rfl (lv_at hl 0 rfl) ?_
        refine gr_59 B hH wk3_85 dX7_takeOut_14 ?_
        refine lv_iload_n hx hb dX7_takeOut_17 rfl (lv_at hl 2 rfl) ?_
        refine lv_iconst (v := 1) hx hb dX7_takeOut_18 (by decide) ?_
        obtain ⟨b9_2, h⟩ := h
        refine ast_59 B hH hO b9_2 dX7_takeOut_19 (fun y9_3 e9_3 H locs hH => ?_)
        replace h := h y9_3 e9_3
        refine lv_iload_n hx hb dX7_takeOut_20 rfl (lv_at hl 2 rfl) ?_
        refine lv_iconst (v := 1) hx hb dX7_takeOut_21 (by decide) ?_
        refine lv_iadd hx hb dX7_takeOut_22 ?_
        refine lv_topi (fun v3_9_4 e9_4 => ?_)
        replace h := h v3_9_4 e9_4
        refine lv_istore_n (lv' := [(3, .int v3_9_4), (0, .ref (ad 35)), (1, .int v1_9), (2, .int v2_9)]) hx hb dX7_takeOut_23 rfl hl (by decide) rfl (fun ls hl => ?_)
        obtain ⟨n_24, h⟩ := h
        have loop_24 : ∀ (f1_24 : Int32) (f2_24 : Int32) (n_24 : Nat) (v3_24 : Int32) (y_24 : ST) (H : Heap) (locs : List Loc) (ls : Array Slot), Hd D (AW ad) (Wd ad cy x y_24) s H locs → lv_has ls 5 [(0, .ref (ad 35)), (1, .int f1_24), (2, .int f2_24), (3, .int v3_24)] → it (fun (_ : Int32) (_ : ST) => False) (FX7_takeOut_24 (it (fun (_ : Int32) (_ : Int32) (_ : ST) => False) (FX7_takeOut_9 K) n_9) f1_24 f2_24) n_24 v3_24 y_24 → W p l e (headSpec (Cond.code yX7_takeOut cX7_takeOut 5 (some .int) :: WL) ({ frames := 2, cells := 0, slots := 0, locals := 47 } : Room)).room s m ([Value.ref (ad 35)] : List Value).toArray below meth c H locs 0 0 (MQ below (va_Qi K (QW D (fun z => Wd ad cy x z)) (AW ad)) ([Value.ref (ad 35)] : List Value).toArray s 0 0 (AW ad)) (F0 m 24 ls []) := by
          intro f1_24 f2_24 n_24
          induction n_24 with
          | zero => intro v3_24 y_24 H locs ls hH hl h; exact False.elim h
          | succ n_24 ih24 =>
            intro v3_24 y_24 H locs ls hH hl h
            refine lv_iload_n hx hb dX7_takeOut_24 rfl (lv_at hl 3 rfl) ?_
            refine lv_aload_n hx hb dX7_takeOut_25 rfl (lv_at hl 0 rfl) ?_
            refine gf_35 B hH wk3_83 dX7_takeOut_26 ?_
            refine lv_icmp_ge (tgt := 92) hx hb dX7_takeOut_29 (by decide) (fun c24_1 => ?_) (fun c24_1 => ?_)
            · replace h := h.1 c24_1
              refine lv_aload_n hx hb dX7_takeOut_92 rfl (lv_at hl 0 rfl) ?_
              refine gr_59 B hH wk3_85 dX7_takeOut_93 ?_
              refine lv_iload_n hx hb dX7_takeOut_96 rfl (lv_at hl 2 rfl) ?_
              obtain ⟨b24_2, h⟩ := h
              refine ald_59 B hH b24_2 dX7_takeOut_97 ?_
              refine lv_iload_n hx hb dX7_takeOut_98 rfl (lv_at hl 1 rfl) ?_
              refine lv_icmp_le (tgt := 109) hx hb dX7_takeOut_99 (by decide) (fun c24_3 => ?_) (fun c24_3 => ?_)
              · replace h := h.1 c24_3
                obtain ⟨v2_24_4, e24_4⟩ : ∃ z : Int32, z = f2_24 + (-1) := ⟨_, rfl⟩
                replace h := h v2_24_4 e24_4
                refine lv_iinc (v := v2_24_4) (lv' := [(2, .int v2_24_4), (0, .ref (ad 35)), (1, .int f1_24), (3, .int v3_24)]) hx hb dX7_takeOut_109 hl (k := 2) rfl (by rw [e24_4]; first | rfl | done) (by decide) rfl (fun ls hl => ?_)
                refine lv_goto (tgt := 9) hx hb dX7_takeOut_112 (by decide) ?_
                exact ih9 f1_24 v2_24_4 y_24 _ _ _ hH (lv_sub hl [1, 2, 0] rfl) h
              · replace h := h.2 c24_3
                refine lv_aload_n hx hb dX7_takeOut_102 rfl (lv_at hl 0 rfl) ?_
                refine gr_59 B hH wk3_85 dX7_takeOut_103 ?_
                refine lv_iload_n hx hb dX7_takeOut_106 rfl (lv_at hl 2 rfl) ?_
                refine ald_59 B hH b24_2 dX7_takeOut_107 ?_
                refine lv_topi (fun v1_24_5 e24_5 => ?_)
                replace h := h v1_24_5 e24_5
                refine lv_istore_n (lv' := [(1, .int v1_24_5), (0, .ref (ad 35)), (2, .int f2_24), (3, .int v3_24)]) hx hb dX7_takeOut_108 rfl hl (by decide) rfl (fun ls hl => ?_)
                obtain ⟨v2_24_6, e24_6⟩ : ∃ z : Int32, z = f2_24 + (-1) := ⟨_, rfl⟩
                replace h := h v2_24_6 e24_6
                refine lv_iinc (v := v2_24_6) (lv' := [(2, .int v2_24_6), (1, .int v1_24_5), (0, .ref (ad 35)), (3, .int v3_24)]) hx hb dX7_takeOut_109 hl (k := 2) rfl (by rw [e24_6]; first | rfl | done) (by decide) rfl (fun ls hl => ?_)
                refine lv_goto (tgt := 9) hx hb dX7_takeOut_112 (by decide) ?_
                exact ih9 v1_24_5 v2_24_6 y_24 _ _ _ hH (lv_sub hl [2, 1, 0] rfl) h
            · replace h := h.2 c24_1
              refine lv_aload_n hx hb dX7_takeOut_32 rfl (lv_at hl 0 rfl) ?_
              refine lv_aload_n hx hb dX7_takeOut_33 rfl (lv_at hl 0 rfl) ?_
              refine gr_58 B hH wk3_84 dX7_takeOut_34 ?_
              refine lv_iload_n hx hb dX7_takeOut_37 rfl (lv_at hl 2 rfl) ?_
              obtain ⟨b24_7, h⟩ := h
              refine ald_58 B hH b24_7 dX7_takeOut_38 ?_
              refine lv_aload_n hx hb dX7_takeOut_39 rfl (lv_at hl 0 rfl) ?_
              refine gr_58 B hH wk3_84 dX7_takeOut_40 ?_
              refine lv_iload_n hx hb dX7_takeOut_43 rfl (lv_at hl 3 rfl) ?_
              obtain ⟨b24_8, h⟩ := h
              refine ald_58 B hH b24_8 dX7_takeOut_44 ?_
              refine lv_aload_n hx hb dX7_takeOut_45 rfl (lv_at hl 0 rfl) ?_
              refine gf_23 B hH wk3_49 dX7_takeOut_46 ?_
              refine xVi (Wf := (fun z => Wd ad cy x z)) (n := 3) (P := 35) (ci := 7) (As := [.int (gA y_24 58 f2_24), .int (gA y_24 58 v3_24), .int (gI y_24 23)]) (rest := []) B hH hO (kX7_against l hO.1 (gA y_24 58 f2_24) (gA y_24 58 v3_24) (gI y_24 23) _ x y_24 h) rfl rfl wk3_216 wk3_218 wkp_17 wk1_8 wk3_219 (by decide +kernel) rfl ⟨rfl, rfl⟩ ⟨Nat.le_of_ble_eq_true rfl, Nat.le_of_ble_eq_true rfl⟩ ⟨Nat.zero_le _, Nat.zero_le _⟩ hl.1 rfl (Nat.le_of_ble_eq_true rfl) dX7_takeOut_49 (fun r24_9 y24_9 H locs h hH => ?_)
              replace hH : Hd D (AW ad) (Wd ad cy x y24_9) s H locs := hH
              refine lv_if_ge (tgt := 86) hx hb dX7_takeOut_52 (by decide) (fun c24_10 => ?_) (fun c24_10 => ?_)
              · replace h := h.1 c24_10
                obtain ⟨v3_24_11, e24_11⟩ : ∃ z : Int32, z = v3_24 + 1 := ⟨_, rfl⟩
                replace h := h v3_24_11 e24_11
                refine lv_iinc (v := v3_24_11) (lv' := [(3, .int v3_24_11), (0, .ref (ad 35)), (1, .int f1_24), (2, .int f2_24)]) hx hb dX7_takeOut_86 hl (k := 3) rfl (by rw [e24_11]; first | rfl | done) (by decide) rfl (fun ls hl => ?_)
                refine lv_goto (tgt := 24) hx hb dX7_takeOut_89 (by decide) ?_
                exact ih24 v3_24_11 y24_9 _ _ _ hH (lv_sub hl [1, 2, 3, 0] rfl) h
              · replace h := h.2 c24_10
                refine lv_aload_n hx hb dX7_takeOut_55 rfl (lv_at hl 0 rfl) ?_
                refine gr_59 B hH wk3_85 dX7_takeOut_56 ?_
                refine lv_iload_n hx hb dX7_takeOut_59 rfl (lv_at hl 3 rfl) ?_
                refine ald_59 B hH b24_8 dX7_takeOut_60 ?_
                refine lv_iconst (v := 1) hx hb dX7_takeOut_61 (by decide) ?_
                refine lv_iadd hx hb dX7_takeOut_62 ?_
                refine lv_aload_n hx hb dX7_takeOut_63 rfl (lv_at hl 0 rfl) ?_
                refine gr_59 B hH wk3_85 dX7_takeOut_64 ?_
                refine lv_iload_n hx hb dX7_takeOut_67 rfl (lv_at hl 2 rfl) ?_
                refine ald_59 B hH b24_7 dX7_takeOut_68 ?_
                refine lv_icmp_le (tgt := 86) hx hb dX7_takeOut_69 (by decide) (fun c24_12 => ?_) (fun c24_12 => ?_)
                · replace h := h.1 c24_12
                  obtain ⟨v3_24_13, e24_13⟩ : ∃ z : Int32, z = v3_24 + 1 := ⟨_, rfl⟩
                  replace h := h v3_24_13 e24_13
                  refine lv_iinc (v := v3_24_13) (lv' := [(3, .int v3_24_13), (0, .ref (ad 35)), (1, .int f1_24), (2, .int f2_24)]) hx hb dX7_takeOut_86 hl (k := 3) rfl (by rw [e24_13]; first | rfl | done) (by decide) rfl (fun ls hl => ?_)
                  refine lv_goto (tgt := 24) hx hb dX7_takeOut_89 (by decide) ?_
                  exact ih24 v3_24_13 y24_9 _ _ _ hH (lv_sub hl [1, 2, 3, 0] rfl) h
                · replace h := h.2 c24_12
                  refine lv_aload_n hx hb dX7_takeOut_72 rfl (lv_at hl 0 rfl) ?_
                  refine gr_59 B hH wk3_85 dX7_takeOut_73 ?_
                  refine lv_iload_n hx hb dX7_takeOut_76 rfl (lv_at hl 2 rfl) ?_
                  refine lv_aload_n hx hb dX7_takeOut_77 rfl (lv_at hl 0 rfl) ?_
                  refine gr_59 B hH wk3_85 dX7_takeOut_78 ?_
                  refine lv_iload_n hx hb dX7_takeOut_81 rfl (lv_at hl 3 rfl) ?_
                  refine ald_59 B hH b24_8 dX7_takeOut_82 ?_
                  refine lv_iconst (v := 1) hx hb dX7_takeOut_83 (by decide) ?_
                  refine lv_iadd hx hb dX7_takeOut_84 ?_
                  refine ast_59 B hH hO b24_7 dX7_takeOut_85 (fun y24_14 e24_14 H locs hH => ?_)
                  replace h := h y24_14 e24_14
                  obtain ⟨v3_24_15, e24_15⟩ : ∃ z : Int32, z = v3_24 + 1 := ⟨_, rfl⟩
                  replace h := h v3_24_15 e24_15
                  refine lv_iinc (v := v3_24_15) (lv' := [(3, .int v3_24_15), (0, .ref (ad 35)), (1, .int f1_24), (2, .int f2_24)]) hx hb dX7_takeOut_86 hl (k := 3) rfl (by rw [e24_15]; first | rfl | done) (by decide) rfl (fun ls hl => ?_)
                  refine lv_goto (tgt := 24) hx hb dX7_takeOut_89 (by decide) ?_
                  exact ih24 v3_24_15 y24_14 _ _ _ hH (lv_sub hl [1, 2, 3, 0] rfl) h
        exact loop_24 v1_9 v2_9 n_24 v3_9_4 y9_3 _ _ _ hH (lv_sub hl [1, 2, 3, 0] rfl) h
  exact loop_9 n_9 0 v2_1 y _ _ _ hH (lv_sub hl [2, 1, 0] rfl) h
set_option maxHeartbeats 4000000 in
set_option maxRecDepth 100000 in
theorem kX7_takenOut (l : Launch) {D : va_G} {cy : Nat → ClassId} {ad : Nat → Nat} (hI : AdI ad) (K : Int32 → ST → Prop) (x y : ST) (h : wX7_takenOut K y) : Met l yX7_takenOut (Cond.code yX7_takenOut cX7_takenOut 1 (some .int) :: WL) ({ frames := 3, cells := 0, slots := 0, locals := 71 } : Room) (va_Pc [.ref (ad 35)] (PW D cy ad x y)) (va_Qi K (QW D (fun z => Wd ad cy x z)) (AW ad)) 0 0 (AW ad) := by
  refine Met.ofW (cc := cX7_takenOut) (maxL := 1) (ret := (some .int)) (by decide) rfl ?_
  intro p e s m args below meth c s₁ B0 hml hv
  obtain ⟨rfl, hP, hK, hN⟩ := hv
  have hr := B0.returns
  have hlocks := B0.notSynchronized
  have hts := atoms_spec (ws := (Cond.code yX7_takenOut cX7_takenOut 1 (some .int) :: WL)) B0.pre
  have B : Bd p s m ([Value.ref (ad 35)] : List Value).toArray c cX7_takenOut 1 RX7 D cy := ⟨B0.exec, B0.bytes, hml, findClass_of_methodNamed B0.named, fun w hw => hts w (List.mem_cons_of_mem _ hw), hK, hN⟩
  have hx := B0.exec
  have hb := B0.bytes
  have hO : AdOk ad (AW ad) := hI.self
  have hH : Hd D (AW ad) (Wd ad cy x y) s s.heap [] := ⟨hP, va_S.rf⟩
  have hl := lv_entry ([.ref (ad 35)]) (n := 1) (Nat.le_of_ble_eq_true rfl)
  rw [lg_entry_eq]
  generalize (lg_sl ([.ref (ad 35)]) ++ List.replicate (1 - (lg_sl ([.ref (ad 35)])).length) Slot.unset).toArray = ls at hl ⊢
  have hl : lv_has ls 1 [(0, .ref (ad 35))] := hl
  unfold wX7_takenOut at h
  refine lv_aload_n hx hb dX7_takenOut_0 rfl (lv_at hl 0 rfl) ?_
  refine xVi (Wf := (fun z => Wd ad cy x z)) (n := 0) (P := 35) (ci := 7) (As := []) (rest := []) B hH hO (kX7_takeOut l hO.1 _ x y h) rfl rfl wk4_64 wk4_66 wkp_23 wk1_8 wk4_67 (by decide +kernel) rfl ⟨rfl, rfl⟩ ⟨Nat.le_of_ble_eq_true rfl, Nat.le_of_ble_eq_true rfl⟩ ⟨Nat.zero_le _, Nat.zero_le _⟩ hl.1 rfl (Nat.le_of_ble_eq_true rfl) dX7_takenOut_1 (fun r1 y1 H locs h hH => ?_)
  replace hH : Hd D (AW ad) (Wd ad cy x y1) s H locs := hH
  exact xret_i hx hb hr hlocks hH h dX7_takenOut_4
set_option maxHeartbeats 4000000 in
set_option maxRecDepth 100000 in
theorem kX7_isOut (l : Launch) {D : va_G} {cy : Nat → ClassId} {ad : Nat → Nat} (hI : AdI ad) (a1 : Int32) (K : Int32 → ST → Prop) (x y : ST) (h : wX7_isOut a1 K y) : Met l yX7_isOut (Cond.code yX7_isOut cX7_isOut 2 (some .int) :: WL) ({ frames := 3, cells := 0, slots := 0, locals := 71 } : Room) (va_Pc [.ref (ad 35), .int a1] (PW D cy ad x y)) (va_Qi K (QW D (fun z => Wd ad cy x z)) (AW ad)) 0 0 (AW ad) := by
  refine Met.ofW (cc := cX7_isOut) (maxL := 2) (ret := (some .int)) (by decide) rfl ?_
  intro p e s m args below meth c s₁ B0 hml hv
  obtain ⟨rfl, hP, hK, hN⟩ := hv
  have hr := B0.returns
  have hlocks := B0.notSynchronized
  have hts := atoms_spec (ws := (Cond.code yX7_isOut cX7_isOut 2 (some .int) :: WL)) B0.pre
  have B : Bd p s m ([Value.ref (ad 35), Value.int a1] : List Value).toArray c cX7_isOut 2 RX7 D cy := ⟨B0.exec, B0.bytes, hml, findClass_of_methodNamed B0.named, fun w hw => hts w (List.mem_cons_of_mem _ hw), hK, hN⟩
  have hx := B0.exec
  have hb := B0.bytes
  have hO : AdOk ad (AW ad) := hI.self
  have hH : Hd D (AW ad) (Wd ad cy x y) s s.heap [] := ⟨hP, va_S.rf⟩
  have hl := lv_entry ([.ref (ad 35), .int a1]) (n := 2) (Nat.le_of_ble_eq_true rfl)
  rw [lg_entry_eq]
  generalize (lg_sl ([.ref (ad 35), .int a1]) ++ List.replicate (2 - (lg_sl ([.ref (ad 35), .int a1])).length) Slot.unset).toArray = ls at hl ⊢
  have hl : lv_has ls 2 [(0, .ref (ad 35)), (1, .int a1)] := hl
  unfold wX7_isOut at h
  refine lv_iload_n hx hb dX7_isOut_0 rfl (lv_at hl 1 rfl) ?_
  refine lv_iconst (v := 0) hx hb dX7_isOut_1 (by decide) ?_
  refine lv_aload_n hx hb dX7_isOut_2 rfl (lv_at hl 0 rfl) ?_
  refine gf_35 B hH wk3_83 dX7_isOut_3 ?_
  refine lv_iconst (v := 1) hx hb dX7_isOut_6 (by decide) ?_
  refine lv_isub hx hb dX7_isOut_7 ?_
  refine xSi (Wf := (fun z => Wd ad cy x z)) (n := 3) (As := [.int a1, .int 0, .int (((gI y 35) - 1))]) (rest := []) B hH hO (kX7_isIn l hO.1 a1 0 ((gI y 35) - 1) _ x y h) wk3_181 wk3_182 wk1_8 wk3_183 (by decide +kernel) rfl ⟨rfl, rfl⟩ ⟨Nat.le_of_ble_eq_true rfl, Nat.le_of_ble_eq_true rfl⟩ ⟨Nat.zero_le _, Nat.zero_le _⟩ hl.1 rfl (Nat.le_of_ble_eq_true rfl) dX7_isOut_8 (fun r1 y1 H locs h hH => ?_)
  obtain ⟨h, hz1⟩ := h
  replace hH : Hd D (AW ad) (Wd ad cy x y1) s H locs := hH
  refine lv_if_ne (tgt := 16) hx hb dX7_isOut_11 (by decide) (fun c2 => ?_) (fun c2 => ?_)
  · replace h := h.1 c2
    refine lv_aload_n hx hb dX7_isOut_16 rfl (lv_at hl 0 rfl) ?_
    refine xVi (Wf := (fun z => Wd ad cy x z)) (n := 0) (P := 35) (ci := 7) (As := []) (rest := []) B hH hO (kX7_takeOut l hO.1 _ x y1 h) rfl rfl wk4_64 wk4_66 wkp_23 wk1_8 wk4_67 (by decide +kernel) rfl ⟨rfl, rfl⟩ ⟨Nat.le_of_ble_eq_true rfl, Nat.le_of_ble_eq_true rfl⟩ ⟨Nat.zero_le _, Nat.zero_le _⟩ hl.1 rfl (Nat.le_of_ble_eq_true rfl) dX7_isOut_17 (fun r3 y3 H locs h hH => ?_)
    replace hH : Hd D (AW ad) (Wd ad cy x y3) s H locs := hH
    refine lv_pop hx hb dX7_isOut_20 rfl ?_
    refine lv_aload_n hx hb dX7_isOut_21 rfl (lv_at hl 0 rfl) ?_
    refine gr_60 B hH wk3_86 dX7_isOut_22 ?_
    refine lv_iload_n hx hb dX7_isOut_25 rfl (lv_at hl 1 rfl) ?_
    obtain ⟨b4, h⟩ := h
    refine ald_60 B hH b4 dX7_isOut_26 ?_
    refine lv_if_eq (tgt := 34) hx hb dX7_isOut_27 (by decide) (fun c5 => ?_) (fun c5 => ?_)
    · replace h := h.1 c5
      refine lv_iconst (v := 0) hx hb dX7_isOut_34 (by decide) ?_
      exact xret_i hx hb hr hlocks hH h dX7_isOut_35
    · replace h := h.2 c5
      refine lv_iconst (v := 1) hx hb dX7_isOut_30 (by decide) ?_
      refine lv_goto (tgt := 35) hx hb dX7_isOut_31 (by decide) ?_
      exact xret_i hx hb hr hlocks hH h dX7_isOut_35
  · replace h := h.2 c2
    refine lv_iconst (v := (-1)) hx hb dX7_isOut_14 (by decide) ?_
    exact xret_i hx hb hr hlocks hH h dX7_isOut_15
set_option maxHeartbeats 4000000 in
set_option maxRecDepth 100000 in
theorem kX7_drawn (l : Launch) {D : va_G} {cy : Nat → ClassId} {ad : Nat → Nat} (hI : AdI ad) (a1 : Int32) (a2 : Int32) (a3 : Int32) (K : Int32 → ST → Prop) (x y : ST) (h : wX7_drawn a1 a2 a3 K y) : Met l yX7_drawn (Cond.code yX7_drawn cX7_drawn 10 (some .int) :: WL) ({ frames := 2, cells := 0, slots := 0, locals := 47 } : Room) (va_Pc [.ref (ad 35), .int a1, .int a2, .int a3] (PW D cy ad x y)) (va_Qi K (QW D (fun z => Wd ad cy x z)) (AW ad)) 0 0 (AW ad) := by
  refine Met.ofW (cc := cX7_drawn) (maxL := 10) (ret := (some .int)) (by decide) rfl ?_
  intro p e s m args below meth c s₁ B0 hml hv
  obtain ⟨rfl, hP, hK, hN⟩ := hv
  have hr := B0.returns
  have hlocks := B0.notSynchronized
  have hts := atoms_spec (ws := (Cond.code yX7_drawn cX7_drawn 10 (some .int) :: WL)) B0.pre
  have B : Bd p s m ([Value.ref (ad 35), Value.int a1, Value.int a2, Value.int a3] : List Value).toArray c cX7_drawn 10 RX7 D cy := ⟨B0.exec, B0.bytes, hml, findClass_of_methodNamed B0.named, fun w hw => hts w (List.mem_cons_of_mem _ hw), hK, hN⟩
  have hx := B0.exec
  have hb := B0.bytes
  have hO : AdOk ad (AW ad) := hI.self
  have hH : Hd D (AW ad) (Wd ad cy x y) s s.heap [] := ⟨hP, va_S.rf⟩
  have hl := lv_entry ([.ref (ad 35), .int a1, .int a2, .int a3]) (n := 10) (Nat.le_of_ble_eq_true rfl)
  rw [lg_entry_eq]
  generalize (lg_sl ([.ref (ad 35), .int a1, .int a2, .int a3]) ++ List.replicate (10 - (lg_sl ([.ref (ad 35), .int a1, .int a2, .int a3])).length) Slot.unset).toArray = ls at hl ⊢
  have hl : lv_has ls 10 [(0, .ref (ad 35)), (1, .int a1), (2, .int a2), (3, .int a3)] := hl
  unfold wX7_drawn at h
  refine lv_aload_n hx hb dX7_drawn_0 rfl (lv_at hl 0 rfl) ?_
  refine gf_35 B hH wk3_83 dX7_drawn_1 ?_
  refine lv_iconst (v := 1) hx hb dX7_drawn_4 (by decide) ?_
  refine lv_isub hx hb dX7_drawn_5 ?_
  refine lv_topi (fun v4_1 e1 => ?_)
  replace h := h v4_1 e1
  refine lv_istore (lv' := [(4, .int v4_1), (0, .ref (ad 35)), (1, .int a1), (2, .int a2), (3, .int a3)]) hx hb dX7_drawn_6 hl (by decide) rfl (fun ls hl => ?_)
  refine lv_iload_n hx hb dX7_drawn_8 rfl (lv_at hl 2 rfl) ?_
  refine lv_iconst (v := 1) hx hb dX7_drawn_9 (by decide) ?_
  refine lv_iload hx hb dX7_drawn_10 (lv_at hl 0 rfl) ?_
  refine xSi (Wf := (fun z => Wd ad cy x z)) (n := 3) (As := [.int a1, .int 1, .int v4_1]) (rest := []) B hH hO (kX7_isIn l hO.1 a1 1 v4_1 _ x y h) wk3_181 wk3_182 wk1_8 wk3_183 (by decide +kernel) rfl ⟨rfl, rfl⟩ ⟨Nat.le_of_ble_eq_true rfl, Nat.le_of_ble_eq_true rfl⟩ ⟨Nat.zero_le _, Nat.zero_le _⟩ hl.1 rfl (Nat.le_of_ble_eq_true rfl) dX7_drawn_12 (fun r2 y2 H locs h hH => ?_)
  obtain ⟨h, hz2⟩ := h
  replace hH : Hd D (AW ad) (Wd ad cy x y2) s H locs := hH
  refine lv_if_eq (tgt := 27) hx hb dX7_drawn_15 (by decide) (fun c3 => ?_) (fun c3 => ?_)
  · replace h := h.1 c3
    refine lv_iconst (v := (-1)) hx hb dX7_drawn_27 (by decide) ?_
    exact xret_i hx hb hr hlocks hH h dX7_drawn_28
  · replace h := h.2 c3
    refine lv_iload_n hx hb dX7_drawn_18 rfl (lv_at hl 4 rfl) ?_
    refine lv_iconst (v := 0) hx hb dX7_drawn_19 (by decide) ?_
    refine lv_iconst (v := 2) hx hb dX7_drawn_20 (by decide) ?_
    refine xSi (Wf := (fun z => Wd ad cy x z)) (n := 3) (As := [.int a3, .int 0, .int 2]) (rest := []) B hH hO (kX7_isIn l hO.1 a3 0 2 _ x y2 h) wk3_181 wk3_182 wk1_8 wk3_183 (by decide +kernel) rfl ⟨rfl, rfl⟩ ⟨Nat.le_of_ble_eq_true rfl, Nat.le_of_ble_eq_true rfl⟩ ⟨Nat.zero_le _, Nat.zero_le _⟩ hl.1 rfl (Nat.le_of_ble_eq_true rfl) dX7_drawn_21 (fun r4 y4 H locs h hH => ?_)
    obtain ⟨h, hz4⟩ := h
    replace hH : Hd D (AW ad) (Wd ad cy x y4) s H locs := hH
    refine lv_if_ne (tgt := 29) hx hb dX7_drawn_24 (by decide) (fun c5 => ?_) (fun c5 => ?_)
    · replace h := h.1 c5
      refine lv_iload_n hx hb dX7_drawn_29 rfl (lv_at hl 3 rfl) ?_
      refine lv_istore (lv' := [(5, .int a2), (4, .int v4_1), (0, .ref (ad 35)), (1, .int a1), (2, .int a2), (3, .int a3)]) hx hb dX7_drawn_30 hl (by decide) rfl (fun ls hl => ?_)
      refine lv_iconst (v := 0) hx hb dX7_drawn_32 (by decide) ?_
      refine lv_istore (lv' := [(6, .int 0), (5, .int a2), (4, .int v4_1), (0, .ref (ad 35)), (1, .int a1), (2, .int a2), (3, .int a3)]) hx hb dX7_drawn_33 hl (by decide) rfl (fun ls hl => ?_)
      obtain ⟨n_35, h⟩ := h
      have loop_35 : ∀ (f4_35 : Int32) (f5_35 : Int32) (n_35 : Nat) (v6_35 : Int32) (y_35 : ST) (H : Heap) (locs : List Loc) (ls : Array Slot), Hd D (AW ad) (Wd ad cy x y_35) s H locs → lv_has ls 10 [(0, .ref (ad 35)), (1, .int a1), (3, .int a3), (4, .int f4_35), (5, .int f5_35), (6, .int v6_35)] → it (fun (_ : Int32) (_ : ST) => False) (FX7_drawn_35 a1 a3 K f4_35 f5_35) n_35 v6_35 y_35 → W p l e (headSpec (Cond.code yX7_drawn cX7_drawn 10 (some .int) :: WL) ({ frames := 2, cells := 0, slots := 0, locals := 47 } : Room)).room s m ([Value.ref (ad 35), Value.int a1, Value.int a2, Value.int a3] : List Value).toArray below meth c H locs 0 0 (MQ below (va_Qi K (QW D (fun z => Wd ad cy x z)) (AW ad)) ([Value.ref (ad 35), Value.int a1, Value.int a2, Value.int a3] : List Value).toArray s 0 0 (AW ad)) (F0 m 35 ls []) := by
        intro f4_35 f5_35 n_35
        induction n_35 with
        | zero => intro v6_35 y_35 H locs ls hH hl h; exact False.elim h
        | succ n_35 ih35 =>
          intro v6_35 y_35 H locs ls hH hl h
          refine lv_iload hx hb dX7_drawn_35 (lv_at hl 5 rfl) ?_
          refine lv_iload hx hb dX7_drawn_37 (lv_at hl 3 rfl) ?_
          refine lv_icmp_ge (tgt := 57) hx hb dX7_drawn_39 (by decide) (fun c35_1 => ?_) (fun c35_1 => ?_)
          · replace h := h.1 c35_1
            refine lv_iconst (v := 0) hx hb dX7_drawn_57 (by decide) ?_
            refine lv_istore (lv' := [(6, .int 0), (0, .ref (ad 35)), (1, .int a1), (3, .int a3), (4, .int f4_35), (5, .int f5_35)]) hx hb dX7_drawn_58 hl (by decide) rfl (fun ls hl => ?_)
            refine lv_iconst (v := 0) hx hb dX7_drawn_60 (by decide) ?_
            refine lv_istore (lv' := [(7, .int 0), (6, .int 0), (0, .ref (ad 35)), (1, .int a1), (3, .int a3), (4, .int f4_35), (5, .int f5_35)]) hx hb dX7_drawn_61 hl (by decide) rfl (fun ls hl => ?_)
            obtain ⟨n_63, h⟩ := h
            have loop_63 : ∀ (f4_63 : Int32) (n_63 : Nat) (v5_63 : Int32) (v6_63 : Int32) (v7_63 : Int32) (y_63 : ST) (H : Heap) (locs : List Loc) (ls : Array Slot), Hd D (AW ad) (Wd ad cy x y_63) s H locs → lv_has ls 10 [(0, .ref (ad 35)), (1, .int a1), (3, .int a3), (4, .int f4_63), (5, .int v5_63), (6, .int v6_63), (7, .int v7_63)] → it (fun (_ : Int32) (_ : Int32) (_ : Int32) (_ : ST) => False) (FX7_drawn_63 a1 a3 K f4_63) n_63 v5_63 v6_63 v7_63 y_63 → W p l e (headSpec (Cond.code yX7_drawn cX7_drawn 10 (some .int) :: WL) ({ frames := 2, cells := 0, slots := 0, locals := 47 } : Room)).room s m ([Value.ref (ad 35), Value.int a1, Value.int a2, Value.int a3] : List Value).toArray below meth c H locs 0 0 (MQ below (va_Qi K (QW D (fun z => Wd ad cy x z)) (AW ad)) ([Value.ref (ad 35), Value.int a1, Value.int a2, Value.int a3] : List Value).toArray s 0 0 (AW ad)) (F0 m 63 ls []) := by
              intro f4_63 n_63
              induction n_63 with
              | zero => intro v5_63 v6_63 v7_63 y_63 H locs ls hH hl h; exact False.elim h
              | succ n_63 ih63 =>
                intro v5_63 v6_63 v7_63 y_63 H locs ls hH hl h
                refine lv_iload hx hb dX7_drawn_63 (lv_at hl 6 rfl) ?_
                refine lv_iload_n hx hb dX7_drawn_65 rfl (lv_at hl 1 rfl) ?_
                refine lv_icmp_ge (tgt := 181) hx hb dX7_drawn_66 (by decide) (fun c63_1 => ?_) (fun c63_1 => ?_)
                · replace h := h.1 c63_1
                  refine lv_iload_n hx hb dX7_drawn_181 rfl (lv_at hl 2 rfl) ?_
                  refine lv_iconst (v := 2) hx hb dX7_drawn_182 (by decide) ?_
                  refine lv_icmp_ne (tgt := 196) hx hb dX7_drawn_183 (by decide) (fun c63_2 => ?_) (fun c63_2 => ?_)
                  · replace h := h.1 c63_2
                    refine lv_iload hx hb dX7_drawn_196 (lv_at hl 5 rfl) ?_
                    exact xret_i hx hb hr hlocks hH h dX7_drawn_198
                  · replace h := h.2 c63_2
                    refine lv_iload hx hb dX7_drawn_186 (lv_at hl 5 rfl) ?_
                    refine lv_iload hx hb dX7_drawn_188 (lv_at hl 3 rfl) ?_
                    refine lv_iadd hx hb dX7_drawn_190 ?_
                    refine lv_iload_n hx hb dX7_drawn_191 rfl (lv_at hl 1 rfl) ?_
                    refine lv_isub hx hb dX7_drawn_192 ?_
                    refine lv_goto (tgt := 198) hx hb dX7_drawn_193 (by decide) ?_
                    exact xret_i hx hb hr hlocks hH h dX7_drawn_198
                · replace h := h.2 c63_1
                  refine lv_iload hx hb dX7_drawn_69 (lv_at hl 4 rfl) ?_
                  refine lv_ldc hx hb B.2.2.2.1 (B.2.2.2.2.1 _ wk4_76) dX7_drawn_71 ?_
                  refine lv_imul hx hb dX7_drawn_73 ?_
                  refine lv_sipush (v := 12345) hx hb dX7_drawn_74 (by decide) ?_
                  refine lv_iadd hx hb dX7_drawn_77 ?_
                  refine lv_topi (fun v5_63_3 e63_3 => ?_)
                  replace h := h v5_63_3 e63_3
                  refine lv_istore (lv' := [(5, .int v5_63_3), (0, .ref (ad 35)), (1, .int a1), (3, .int a3), (4, .int f4_63), (6, .int v6_63), (7, .int v7_63)]) hx hb dX7_drawn_78 hl (by decide) rfl (fun ls hl => ?_)
                  refine lv_iload hx hb dX7_drawn_80 (lv_at hl 6 rfl) ?_
                  refine lv_iload hx hb dX7_drawn_82 (lv_at hl 0 rfl) ?_
                  refine lv_bipush (v := 16) hx hb dX7_drawn_84 (by decide) ?_
                  refine lv_iushr hx hb dX7_drawn_86 rfl ?_
                  refine lv_iload hx hb dX7_drawn_87 (lv_at hl 4 rfl) ?_
                  refine lv_iload hx hb dX7_drawn_89 (lv_at hl 6 rfl) ?_
                  refine lv_isub hx hb dX7_drawn_91 ?_
                  obtain ⟨z63_4, h⟩ := h
                  refine lv_irem hx hb dX7_drawn_92 z63_4 ?_
                  refine lv_iadd hx hb dX7_drawn_93 ?_
                  refine lv_topi (fun v8_63_5 e63_5 => ?_)
                  replace h := h v8_63_5 e63_5
                  refine lv_istore (lv' := [(8, .int v8_63_5), (5, .int v5_63_3), (0, .ref (ad 35)), (1, .int a1), (3, .int a3), (4, .int f4_63), (6, .int v6_63), (7, .int v7_63)]) hx hb dX7_drawn_94 hl (by decide) rfl (fun ls hl => ?_)
                  refine lv_aload_n hx hb dX7_drawn_96 rfl (lv_at hl 2 rfl) ?_
                  refine gr_61 B hH wk3_87 dX7_drawn_97 ?_
                  refine lv_iload hx hb dX7_drawn_100 (lv_at hl 7 rfl) ?_
                  obtain ⟨b63_6, h⟩ := h
                  refine ald_61 B hH b63_6 dX7_drawn_102 ?_
                  refine lv_topi (fun v9_63_7 e63_7 => ?_)
                  replace h := h v9_63_7 e63_7
                  refine lv_istore (lv' := [(9, .int v9_63_7), (8, .int v8_63_5), (5, .int v5_63_3), (0, .ref (ad 35)), (1, .int a1), (3, .int a3), (4, .int f4_63), (6, .int v6_63), (7, .int v7_63)]) hx hb dX7_drawn_103 hl (by decide) rfl (fun ls hl => ?_)
                  refine lv_aload_n hx hb dX7_drawn_105 rfl (lv_at hl 3 rfl) ?_
                  refine gr_61 B hH wk3_87 dX7_drawn_106 ?_
                  refine lv_iload hx hb dX7_drawn_109 (lv_at hl 8 rfl) ?_
                  refine lv_aload_n hx hb dX7_drawn_111 rfl (lv_at hl 3 rfl) ?_
                  refine gr_61 B hH wk3_87 dX7_drawn_112 ?_
                  refine lv_iload hx hb dX7_drawn_115 (lv_at hl 1 rfl) ?_
                  obtain ⟨b63_8, h⟩ := h
                  refine ald_61 B hH b63_8 dX7_drawn_117 ?_
                  refine ast_61 B hH hO b63_6 dX7_drawn_118 (fun y63_9 e63_9 H locs hH => ?_)
                  replace h := h y63_9 e63_9
                  refine lv_aload_n hx hb dX7_drawn_119 rfl (lv_at hl 3 rfl) ?_
                  refine gr_61 B hH wk3_87 dX7_drawn_120 ?_
                  refine lv_iload hx hb dX7_drawn_123 (lv_at hl 1 rfl) ?_
                  refine lv_iload hx hb dX7_drawn_125 (lv_at hl 0 rfl) ?_
                  refine ast_61 B hH hO b63_8 dX7_drawn_127 (fun y63_10 e63_10 H locs hH => ?_)
                  replace h := h y63_10 e63_10
                  refine lv_iload hx hb dX7_drawn_128 (lv_at hl 7 rfl) ?_
                  refine lv_aload_n hx hb dX7_drawn_130 rfl (lv_at hl 3 rfl) ?_
                  refine lv_aload_n hx hb dX7_drawn_131 rfl (lv_at hl 3 rfl) ?_
                  refine gr_58 B hH wk3_84 dX7_drawn_132 ?_
                  refine lv_aload_n hx hb dX7_drawn_135 rfl (lv_at hl 3 rfl) ?_
                  refine gr_61 B hH wk3_87 dX7_drawn_136 ?_
                  refine lv_iload hx hb dX7_drawn_139 (lv_at hl 8 rfl) ?_
                  refine ald_61 B hH b63_6 dX7_drawn_141 ?_
                  obtain ⟨b63_11, h⟩ := h
                  refine ald_58 B hH b63_11 dX7_drawn_142 ?_
                  refine lv_aload_n hx hb dX7_drawn_143 rfl (lv_at hl 3 rfl) ?_
                  refine gr_58 B hH wk3_84 dX7_drawn_144 ?_
                  refine lv_aload_n hx hb dX7_drawn_147 rfl (lv_at hl 3 rfl) ?_
                  refine gr_61 B hH wk3_87 dX7_drawn_148 ?_
                  refine lv_iload hx hb dX7_drawn_151 (lv_at hl 8 rfl) ?_
                  refine ald_61 B hH b63_6 dX7_drawn_153 ?_
                  refine lv_iconst (v := 1) hx hb dX7_drawn_154 (by decide) ?_
                  refine lv_iadd hx hb dX7_drawn_155 ?_
                  obtain ⟨b63_12, h⟩ := h
                  refine ald_58 B hH b63_12 dX7_drawn_156 ?_
                  refine lv_aload_n hx hb dX7_drawn_157 rfl (lv_at hl 3 rfl) ?_
                  refine gf_23 B hH wk3_49 dX7_drawn_158 ?_
                  refine xVi (Wf := (fun z => Wd ad cy x z)) (n := 3) (P := 35) (ci := 7) (As := [.int (gA y63_10 58 (gA y63_10 61 v7_63)), .int (gA y63_10 58 ((gA y63_10 61 v7_63) + 1)), .int (gI y63_10 23)]) (rest := [.int v6_63]) B hH hO (kX7_against l hO.1 (gA y63_10 58 (gA y63_10 61 v7_63)) (gA y63_10 58 ((gA y63_10 61 v7_63) + 1)) (gI y63_10 23) _ x y63_10 h) rfl rfl wk3_216 wk3_218 wkp_17 wk1_8 wk3_219 (by decide +kernel) rfl ⟨rfl, rfl⟩ ⟨Nat.le_of_ble_eq_true rfl, Nat.le_of_ble_eq_true rfl⟩ ⟨Nat.zero_le _, Nat.zero_le _⟩ hl.1 rfl (Nat.le_of_ble_eq_true rfl) dX7_drawn_161 (fun r63_13 y63_13 H locs h hH => ?_)
                  replace hH : Hd D (AW ad) (Wd ad cy x y63_13) s H locs := hH
                  refine lv_if_le (tgt := 171) hx hb dX7_drawn_164 (by decide) (fun c63_14 => ?_) (fun c63_14 => ?_)
                  · replace h := h.1 c63_14
                    refine lv_iconst (v := 0) hx hb dX7_drawn_171 (by decide) ?_
                    refine lv_iadd hx hb dX7_drawn_172 ?_
                    refine lv_topi (fun v6_63_15 e63_15 => ?_)
                    replace h := h v6_63_15 e63_15
                    refine lv_istore (lv' := [(6, .int v6_63_15), (9, .int v9_63_7), (8, .int v8_63_5), (5, .int v5_63_3), (0, .ref (ad 35)), (1, .int a1), (3, .int a3), (4, .int f4_63), (7, .int v7_63)]) hx hb dX7_drawn_173 hl (by decide) rfl (fun ls hl => ?_)
                    obtain ⟨v7_63_16, e63_16⟩ : ∃ z : Int32, z = v7_63 + 1 := ⟨_, rfl⟩
                    replace h := h v7_63_16 e63_16
                    refine lv_iinc (v := v7_63_16) (lv' := [(7, .int v7_63_16), (6, .int v6_63_15), (9, .int v9_63_7), (8, .int v8_63_5), (5, .int v5_63_3), (0, .ref (ad 35)), (1, .int a1), (3, .int a3), (4, .int f4_63)]) hx hb dX7_drawn_175 hl (k := 8) rfl (by rw [e63_16]; first | rfl | done) (by decide) rfl (fun ls hl => ?_)
                    refine lv_goto (tgt := 63) hx hb dX7_drawn_178 (by decide) ?_
                    exact ih63 v5_63_3 v6_63_15 v7_63_16 y63_13 _ _ _ hH (lv_sub hl [5, 6, 7, 8, 4, 1, 0] rfl) h
                  · replace h := h.2 c63_14
                    refine lv_iconst (v := 1) hx hb dX7_drawn_167 (by decide) ?_
                    refine lv_goto (tgt := 172) hx hb dX7_drawn_168 (by decide) ?_
                    refine lv_iadd hx hb dX7_drawn_172 ?_
                    refine lv_topi (fun v6_63_17 e63_17 => ?_)
                    replace h := h v6_63_17 e63_17
                    refine lv_istore (lv' := [(6, .int v6_63_17), (9, .int v9_63_7), (8, .int v8_63_5), (5, .int v5_63_3), (0, .ref (ad 35)), (1, .int a1), (3, .int a3), (4, .int f4_63), (7, .int v7_63)]) hx hb dX7_drawn_173 hl (by decide) rfl (fun ls hl => ?_)
                    obtain ⟨v7_63_18, e63_18⟩ : ∃ z : Int32, z = v7_63 + 1 := ⟨_, rfl⟩
                    replace h := h v7_63_18 e63_18
                    refine lv_iinc (v := v7_63_18) (lv' := [(7, .int v7_63_18), (6, .int v6_63_17), (9, .int v9_63_7), (8, .int v8_63_5), (5, .int v5_63_3), (0, .ref (ad 35)), (1, .int a1), (3, .int a3), (4, .int f4_63)]) hx hb dX7_drawn_175 hl (k := 8) rfl (by rw [e63_18]; first | rfl | done) (by decide) rfl (fun ls hl => ?_)
                    refine lv_goto (tgt := 63) hx hb dX7_drawn_178 (by decide) ?_
                    exact ih63 v5_63_3 v6_63_17 v7_63_18 y63_13 _ _ _ hH (lv_sub hl [5, 6, 7, 8, 4, 1, 0] rfl) h
            exact loop_63 f4_35 n_63 f5_35 0 0 y_35 _ _ _ hH (lv_sub hl [2, 3, 4, 5, 6, 1, 0] rfl) h
          · replace h := h.2 c35_1
            refine lv_aload_n hx hb dX7_drawn_42 rfl (lv_at hl 0 rfl) ?_
            refine gr_61 B hH wk3_87 dX7_drawn_43 ?_
            refine lv_iload hx hb dX7_drawn_46 (lv_at hl 5 rfl) ?_
            refine lv_iload hx hb dX7_drawn_48 (lv_at hl 5 rfl) ?_
            obtain ⟨b35_2, h⟩ := h
            refine ast_61 B hH hO b35_2 dX7_drawn_50 (fun y35_3 e35_3 H locs hH => ?_)
            replace h := h y35_3 e35_3
            obtain ⟨v6_35_4, e35_4⟩ : ∃ z : Int32, z = v6_35 + 1 := ⟨_, rfl⟩
            replace h := h v6_35_4 e35_4
            refine lv_iinc (v := v6_35_4) (lv' := [(6, .int v6_35_4), (0, .ref (ad 35)), (1, .int a1), (3, .int a3), (4, .int f4_35), (5, .int f5_35)]) hx hb dX7_drawn_51 hl (k := 5) rfl (by rw [e35_4]; first | rfl | done) (by decide) rfl (fun ls hl => ?_)
            refine lv_goto (tgt := 35) hx hb dX7_drawn_54 (by decide) ?_
            exact ih35 v6_35_4 y35_3 _ _ _ hH (lv_sub hl [1, 2, 3, 4, 5, 0] rfl) h
      exact loop_35 v4_1 a2 n_35 0 y4 _ _ _ hH (lv_sub hl [3, 4, 6, 2, 1, 0] rfl) h
    · replace h := h.2 c5
      refine lv_iconst (v := (-1)) hx hb dX7_drawn_27 (by decide) ?_
      exact xret_i hx hb hr hlocks hH h dX7_drawn_28
set_option maxHeartbeats 4000000 in
set_option maxRecDepth 100000 in
theorem kX7_about (l : Launch) {D : va_G} {cy : Nat → ClassId} {ad : Nat → Nat} (hI : AdI ad) (a1 : Int32) (K : Int32 → ST → Prop) (x y : ST) (h : wX7_about a1 K y) : Met l yX7_about (Cond.code yX7_about cX7_about 2 (some .int) :: WL) ({ frames := 1, cells := 0, slots := 0, locals := 22 } : Room) (va_Pc [.ref (ad 35), .int a1] (PW D cy ad x y)) (va_Qi K (QW D (fun z => Wd ad cy x z)) (AW ad)) 0 0 (AW ad) := by
  refine Met.ofW (cc := cX7_about) (maxL := 2) (ret := (some .int)) (by decide) rfl ?_
  intro p e s m args below meth c s₁ B0 hml hv
  obtain ⟨rfl, hP, hK, hN⟩ := hv
  have hr := B0.returns
  have hlocks := B0.notSynchronized
  have hts := atoms_spec (ws := (Cond.code yX7_about cX7_about 2 (some .int) :: WL)) B0.pre
  have B : Bd p s m ([Value.ref (ad 35), Value.int a1] : List Value).toArray c cX7_about 2 RX7 D cy := ⟨B0.exec, B0.bytes, hml, findClass_of_methodNamed B0.named, fun w hw => hts w (List.mem_cons_of_mem _ hw), hK, hN⟩
  have hx := B0.exec
  have hb := B0.bytes
  have hO : AdOk ad (AW ad) := hI.self
  have hH : Hd D (AW ad) (Wd ad cy x y) s s.heap [] := ⟨hP, va_S.rf⟩
  have hl := lv_entry ([.ref (ad 35), .int a1]) (n := 2) (Nat.le_of_ble_eq_true rfl)
  rw [lg_entry_eq]
  generalize (lg_sl ([.ref (ad 35), .int a1]) ++ List.replicate (2 - (lg_sl ([.ref (ad 35), .int a1])).length) Slot.unset).toArray = ls at hl ⊢
  have hl : lv_has ls 2 [(0, .ref (ad 35)), (1, .int a1)] := hl
  unfold wX7_about at h
  refine lv_iload_n hx hb dX7_about_0 rfl (lv_at hl 1 rfl) ?_
  refine lv_bipush (v := 10) hx hb dX7_about_1 (by decide) ?_
  refine lv_bipush (v := 19) hx hb dX7_about_3 (by decide) ?_
  refine xSi (Wf := (fun z => Wd ad cy x z)) (n := 3) (As := [.int a1, .int 10, .int 19]) (rest := []) B hH hO (kX7_isIn l hO.1 a1 10 19 _ x y h) wk3_181 wk3_182 wk1_8 wk3_183 (by decide +kernel) rfl ⟨rfl, rfl⟩ ⟨Nat.le_of_ble_eq_true rfl, Nat.le_of_ble_eq_true rfl⟩ ⟨Nat.zero_le _, Nat.zero_le _⟩ hl.1 rfl (Nat.le_of_ble_eq_true rfl) dX7_about_5 (fun r1 y1 H locs h hH => ?_)
  obtain ⟨h, hz1⟩ := h
  replace hH : Hd D (AW ad) (Wd ad cy x y1) s H locs := hH
  refine lv_if_eq (tgt := 21) hx hb dX7_about_8 (by decide) (fun c2 => ?_) (fun c2 => ?_)
  · replace h := h.1 c2
    refine lv_iload_n hx hb dX7_about_21 rfl (lv_at hl 1 rfl) ?_
    refine lv_bipush (v := 20) hx hb dX7_about_22 (by decide) ?_
    refine lv_bipush (v := 24) hx hb dX7_about_24 (by decide) ?_
    refine xSi (Wf := (fun z => Wd ad cy x z)) (n := 3) (As := [.int a1, .int 20, .int 24]) (rest := []) B hH hO (kX7_isIn l hO.1 a1 20 24 _ x y1 h) wk3_181 wk3_182 wk1_8 wk3_183 (by decide +kernel) rfl ⟨rfl, rfl⟩ ⟨Nat.le_of_ble_eq_true rfl, Nat.le_of_ble_eq_true rfl⟩ ⟨Nat.zero_le _, Nat.zero_le _⟩ hl.1 rfl (Nat.le_of_ble_eq_true rfl) dX7_about_26 (fun r3 y3 H locs h hH => ?_)
    obtain ⟨h, hz3⟩ := h
    replace hH : Hd D (AW ad) (Wd ad cy x y3) s H locs := hH
    refine lv_if_eq (tgt := 42) hx hb dX7_about_29 (by decide) (fun c4 => ?_) (fun c4 => ?_)
    · replace h := h.1 c4
      refine lv_iload_n hx hb dX7_about_42 rfl (lv_at hl 1 rfl) ?_
      by_cases c5 : a1 = 0
      · replace h := h.1 c5
        refine lv_tableIn (tgt := 84) hx hb dX7_about_43 (by rw [c5]; decide) (by rw [c5]; decide) (by rw [c5]; rfl) (by decide) ?_
        refine lv_aload_n hx hb dX7_about_84 rfl (lv_at hl 0 rfl) ?_
        refine gf_22 B hH wk3_48 dX7_about_85 ?_
        exact xret_i hx hb hr hlocks hH h dX7_about_88
      · by_cases c6 : a1 = 1
        · replace h := h.2.1 c6
          refine lv_tableIn (tgt := 89) hx hb dX7_about_43 (by rw [c6]; decide) (by rw [c6]; decide) (by rw [c6]; rfl) (by decide) ?_
          refine lv_aload_n hx hb dX7_about_89 rfl (lv_at hl 0 rfl) ?_
          refine gf_26 B hH wk3_59 dX7_about_90 ?_
          exact xret_i hx hb hr hlocks hH h dX7_about_93
        · by_cases c7 : a1 = 2
          · replace h := h.2.2.1 c7
            refine lv_tableIn (tgt := 94) hx hb dX7_about_43 (by rw [c7]; decide) (by rw [c7]; decide) (by rw [c7]; rfl) (by decide) ?_
            refine lv_aload_n hx hb dX7_about_94 rfl (lv_at hl 0 rfl) ?_
            refine gf_23 B hH wk3_49 dX7_about_95 ?_
            exact xret_i hx hb hr hlocks hH h dX7_about_98
          · by_cases c8 : a1 = 3
            · replace h := h.2.2.2.1 c8
              refine lv_tableIn (tgt := 99) hx hb dX7_about_43 (by rw [c8]; decide) (by rw [c8]; decide) (by rw [c8]; rfl) (by decide) ?_
              refine lv_aload_n hx hb dX7_about_99 rfl (lv_at hl 0 rfl) ?_
              refine gf_24 B hH wk3_50 dX7_about_100 ?_
              exact xret_i hx hb hr hlocks hH h dX7_about_103
            · by_cases c9 : a1 = 4
              · replace h := h.2.2.2.2.1 c9
                refine lv_tableIn (tgt := 104) hx hb dX7_about_43 (by rw [c9]; decide) (by rw [c9]; decide) (by rw [c9]; rfl) (by decide) ?_
                refine lv_aload_n hx hb dX7_about_104 rfl (lv_at hl 0 rfl) ?_
                refine gf_25 B hH wk3_51 dX7_about_105 ?_
                exact xret_i hx hb hr hlocks hH h dX7_about_108
              · by_cases c10 : a1 = 5
                · replace h := h.2.2.2.2.2.1 c10
                  refine lv_tableIn (tgt := 109) hx hb dX7_about_43 (by rw [c10]; decide) (by rw [c10]; decide) (by rw [c10]; rfl) (by decide) ?_
                  refine lv_aload_n hx hb dX7_about_109 rfl (lv_at hl 0 rfl) ?_
                  refine gf_35 B hH wk3_83 dX7_about_110 ?_
                  exact xret_i hx hb hr hlocks hH h dX7_about_113
                · by_cases c11 : a1 = 6
                  · replace h := h.2.2.2.2.2.2.1 c11
                    refine lv_tableIn (tgt := 114) hx hb dX7_about_43 (by rw [c11]; decide) (by rw [c11]; decide) (by rw [c11]; rfl) (by decide) ?_
                    refine lv_aload_n hx hb dX7_about_114 rfl (lv_at hl 0 rfl) ?_
                    refine gf_27 B hH wk3_64 dX7_about_115 ?_
                    exact xret_i hx hb hr hlocks hH h dX7_about_118
                  · replace h := h.2.2.2.2.2.2.2 c5 c6 c7 c8 c9 c10 c11
                    refine lv_tableOut (tgt := 119) hx hb dX7_about_43 (tb_out (N := 7) (by decide) (by decide) (fun j hj => by match j, hj with | 0, _ => exact c5 | 1, _ => exact c6 | 2, _ => exact c7 | 3, _ => exact c8 | 4, _ => exact c9 | 5, _ => exact c10 | 6, _ => exact c11 | j + 7, hj => exact absurd hj (by omega))) (by decide) ?_
                    refine lv_iconst (v := (-1)) hx hb dX7_about_119 (by decide) ?_
                    exact xret_i hx hb hr hlocks hH h dX7_about_120
    · replace h := h.2 c4
      refine lv_aload_n hx hb dX7_about_32 rfl (lv_at hl 0 rfl) ?_
      refine gr_45 B hH wk3_62 dX7_about_33 ?_
      refine lv_iload_n hx hb dX7_about_36 rfl (lv_at hl 1 rfl) ?_
      refine lv_bipush (v := 20) hx hb dX7_about_37 (by decide) ?_
      refine lv_isub hx hb dX7_about_39 ?_
      obtain ⟨b12, h⟩ := h
      refine ald_45 B hH b12 dX7_about_40 ?_
      exact xret_i hx hb hr hlocks hH h dX7_about_41
  · replace h := h.2 c2
    refine lv_aload_n hx hb dX7_about_11 rfl (lv_at hl 0 rfl) ?_
    refine gr_44 B hH wk3_61 dX7_about_12 ?_
    refine lv_iload_n hx hb dX7_about_15 rfl (lv_at hl 1 rfl) ?_
    refine lv_bipush (v := 10) hx hb dX7_about_16 (by decide) ?_
    refine lv_isub hx hb dX7_about_18 ?_
    obtain ⟨b13, h⟩ := h
    refine ald_44 B hH b13 dX7_about_19 ?_
    exact xret_i hx hb hr hlocks hH h dX7_about_20
