/-! THE CLAIM OUT OF ONE WALK OF THE LAW'S BODY. Your part is whole_start (and what it stands on); all else here is the same for every law, but numbers. -/
def R_law : String := "BooksMovedLaw"
def lw_P (b : Addr) (xs : List Int32) (args : Array Value) (s : State) : Prop := args = #[.ref b] ∧ s.IntsAt b xs ∧ xs.length ≤ 3072 ∧ (Jvm.Cond.and given_1 narrow_1).before args s = true
def lw_Q (_ : Array Value) (s : State) (o : Outcome) (t : State) : Prop := o = .returned (some (.int 1)) ∧ Framed s o t [] 600000 7302250
def lw_Z (below : List Frame) (a : Array Value) (s : State) : State → Prop := fun t => ∃ o, t.status = .running ∧ Ended t below o ∧ lw_Q a s o t
/-- the law's own end, with 1 on the stack, nothing written that was there before, its room as the claim has it -/
theorem lw_ret {p : Program} {l : Launch} {e : Env} {s : State} {m : MethodId} {below : List Frame} {meth : Method} {c : Code} {b : Nat} (hx : p.tables.exec = Jvm.exec) (hb : c.code = code) (hr : meth.sig.returnType = ret) (hlocks : meth.locks = false) {pc : Nat} {H : Heap} {ls : Array Slot} (hdg : decode code pc = .ok (.ireturn, 1)) : W p l e room_1 s m #[Value.ref b] below meth c H [] 600000 7302250 (lw_Z below #[Value.ref b] s) (F0 m pc ls [.int 1]) := by
  intro T hT X
  obtain ⟨fs, hret, hrun, hended, hW, hframe⟩ := X.leave (v := some (.int 1)) (hlocks := hlocks) (fun h => by rw [hr] at h; cases h)
  have hmeth' : T.vm.method? m = some meth := X.method'
  refine ⟨T.setFrames fs, ?_, .returned (some (.int 1)), hrun, hended, rfl, ⟨_, rfl⟩, hW, hframe⟩
  jvm_step X.here [X.here.top, hx, hb, hdg, hmeth', hr, ret, narrow_b1]
  (try refine ⟨rfl, ?_⟩); (try refine ⟨rfl, ?_⟩)
  first | (intro acts; rw [hret _ acts rfl rfl rfl]) | rw [hret _ _ rfl rfl rfl]
  exact Steps.refl _
/-- what holds at the law's entry: the machine, the code, the tables' words (any of lw_tbl by 'hts w (by decide +kernel)'), the script of L ints xs at the cell b, what the Statement gives of the start (any of its parts by flat_of_before) -/
def lw_At (p : Program) (s : State) (m : MethodId) (meth : Method) (c : Code) (b L : Nat) (xs : Nat → Int32) : Prop :=
  p.tables.exec = Jvm.exec ∧ c.code = code ∧ meth.sig.returnType = ret ∧ c.maxLocals = 4 ∧ s.vm.findClass R_law = some m.cls ∧ (∀ w ∈ lw_tbl, w.before #[Value.ref b] s = true) ∧ va_X b L xs s s.heap ∧ b < s.heap.size ∧ meth.locks = false ∧ (Jvm.Cond.and given_1 narrow_1).before #[Value.ref b] s = true
def FL (L : Nat) (xs : Nat → Int32) (G : Int32 → ST → ST → Prop) (i : Int32) (x y : ST) : Prop :=
  ((((Int32.ofNat L) - 6) < i → True) ∧ (¬ ((Int32.ofNat L) - 6) < i → vp_in i L ∧ ∀ w3 : Int32, w3 = ((xs i.toNatClampNeg) &&& 31) → ((w3 = 0 → vp_in (i + 1) L ∧ vp_in (i + 2) L ∧ vp_in (i + 3) L ∧ vp_in (i + 4) L ∧ vp_in (i + 5) L ∧ wX6_feed (xs (i + 1).toNatClampNeg) (xs (i + 2).toNatClampNeg) (xs (i + 3).toNatClampNeg) (xs (i + 4).toNatClampNeg) (xs (i + 5).toNatClampNeg) (fun (r33 : Int32) (x33 : ST) => wX7_feed (xs (i + 1).toNatClampNeg) (xs (i + 2).toNatClampNeg) (xs (i + 3).toNatClampNeg) (xs (i + 4).toNatClampNeg) (xs (i + 5).toNatClampNeg) (fun (r34 : Int32) (y34 : ST) => ((r33 = r34 → ∀ v3_36 : Int32, v3_36 = i + 6 → G v3_36 x33 y34) ∧ (¬ r33 = r34 → False))) y) x) ∧ (w3 = 1 → vp_in (i + 1) L ∧ wX6_end (xs (i + 1).toNatClampNeg) (fun (r38 : Int32) (x38 : ST) => wX7_end (xs (i + 1).toNatClampNeg) (fun (r39 : Int32) (y39 : ST) => ((r38 = r39 → ∀ v3_41 : Int32, v3_41 = i + 6 → G v3_41 x38 y39) ∧ (¬ r38 = r39 → False))) y) x) ∧ (w3 = 2 → vp_in (i + 1) L ∧ vp_in (i + 2) L ∧ vp_in (i + 3) L ∧ wX6_book (xs (i + 1).toNatClampNeg) (xs (i + 2).toNatClampNeg) (xs (i + 3).toNatClampNeg) (fun (r45 : Int32) (x45 : ST) => wX7_book (xs (i + 1).toNatClampNeg) (xs (i + 2).toNatClampNeg) (xs (i + 3).toNatClampNeg) (fun (r46 : Int32) (y46 : ST) => ((r45 = r46 → ∀ v3_48 : Int32, v3_48 = i + 6 → G v3_48 x45 y46) ∧ (¬ r45 = r46 → False))) y) x) ∧ (w3 = 3 → wX6_wrong (fun (r49 : Int32) (x49 : ST) => wX7_wrong (fun (r50 : Int32) (y50 : ST) => ((r49 = r50 → ∀ v3_52 : Int32, v3_52 = i + 6 → G v3_52 x49 y50) ∧ (¬ r49 = r50 → False))) y) x) ∧ (w3 = 4 → vp_in (i + 1) L ∧ wX6_rule (xs (i + 1).toNatClampNeg) (fun (r54 : Int32) (x54 : ST) => wX7_rule (xs (i + 1).toNatClampNeg) (fun (r55 : Int32) (y55 : ST) => ((r54 = r55 → ∀ v3_57 : Int32, v3_57 = i + 6 → G v3_57 x54 y55) ∧ (¬ r54 = r55 → False))) y) x) ∧ (w3 = 5 → vp_in (i + 1) L ∧ vp_in (i + 2) L ∧ vp_in (i + 3) L ∧ wX6_compare (xs (i + 1).toNatClampNeg) (xs (i + 2).toNatClampNeg) (xs (i + 3).toNatClampNeg) (fun (r61 : Int32) (x61 : ST) => wX7_compare (xs (i + 1).toNatClampNeg) (xs (i + 2).toNatClampNeg) (xs (i + 3).toNatClampNeg) (fun (r62 : Int32) (y62 : ST) => ((r61 = r62 → ∀ v3_64 : Int32, v3_64 = i + 6 → G v3_64 x61 y62) ∧ (¬ r61 = r62 → False))) y) x) ∧ (w3 = 6 → vp_in (i + 1) L ∧ vp_in (i + 2) L ∧ wX6_ordered (xs (i + 1).toNatClampNeg) (xs (i + 2).toNatClampNeg) (fun (r67 : Int32) (x67 : ST) => wX7_ordered (xs (i + 1).toNatClampNeg) (xs (i + 2).toNatClampNeg) (fun (r68 : Int32) (y68 : ST) => ((r67 = r68 → ∀ v3_70 : Int32, v3_70 = i + 6 → G v3_70 x67 y68) ∧ (¬ r67 = r68 → False))) y) x) ∧ (w3 = 7 → wX6_quarrels (fun (r71 : Int32) (x71 : ST) => wX7_quarrels (fun (r72 : Int32) (y72 : ST) => ((r71 = r72 → ∀ v3_74 : Int32, v3_74 = i + 6 → G v3_74 x71 y72) ∧ (¬ r71 = r72 → False))) y) x) ∧ (w3 = 8 → vp_in (i + 1) L ∧ wX6_shelf (xs (i + 1).toNatClampNeg) (fun (r76 : Int32) (x76 : ST) => wX7_shelf (xs (i + 1).toNatClampNeg) (fun (r77 : Int32) (y77 : ST) => ((r76 = r77 → ∀ v3_79 : Int32, v3_79 = i + 6 → G v3_79 x76 y77) ∧ (¬ r76 = r77 → False))) y) x) ∧ (w3 = 9 → vp_in (i + 1) L ∧ vp_in (i + 2) L ∧ wX6_sizes (xs (i + 1).toNatClampNeg) (xs (i + 2).toNatClampNeg) (fun (r82 : Int32) (x82 : ST) => wX7_sizes (xs (i + 1).toNatClampNeg) (xs (i + 2).toNatClampNeg) (fun (r83 : Int32) (y83 : ST) => ((r82 = r83 → ∀ v3_85 : Int32, v3_85 = i + 6 → G v3_85 x82 y83) ∧ (¬ r82 = r83 → False))) y) x) ∧ (w3 = 10 → vp_in (i + 1) L ∧ vp_in (i + 2) L ∧ wX6_laid (xs (i + 1).toNatClampNeg) (xs (i + 2).toNatClampNeg) (fun (r88 : Int32) (x88 : ST) => wX7_laid (xs (i + 1).toNatClampNeg) (xs (i + 2).toNatClampNeg) (fun (r89 : Int32) (y89 : ST) => ((r88 = r89 → ∀ v3_91 : Int32, v3_91 = i + 6 → G v3_91 x88 y89) ∧ (¬ r88 = r89 → False))) y) x) ∧ (w3 = 11 → vp_in (i + 1) L ∧ vp_in (i + 2) L ∧ wX6_shelfOf (xs (i + 1).toNatClampNeg) (xs (i + 2).toNatClampNeg) (fun (r94 : Int32) (x94 : ST) => wX7_shelfOf (xs (i + 1).toNatClampNeg) (xs (i + 2).toNatClampNeg) (fun (r95 : Int32) (y95 : ST) => ((r94 = r95 → ∀ v3_97 : Int32, v3_97 = i + 6 → G v3_97 x94 y95) ∧ (¬ r94 = r95 → False))) y) x) ∧ (w3 = 12 → vp_in (i + 1) L ∧ wX6_counts (xs (i + 1).toNatClampNeg) (fun (r99 : Int32) (x99 : ST) => wX7_counts (xs (i + 1).toNatClampNeg) (fun (r100 : Int32) (y100 : ST) => ((r99 = r100 → ∀ v3_102 : Int32, v3_102 = i + 6 → G v3_102 x99 y100) ∧ (¬ r99 = r100 → False))) y) x) ∧ (w3 = 13 → vp_in (i + 1) L ∧ vp_in (i + 2) L ∧ wX6_way (xs (i + 1).toNatClampNeg) (xs (i + 2).toNatClampNeg) (fun (r105 : Int32) (x105 : ST) => wX7_way (xs (i + 1).toNatClampNeg) (xs (i + 2).toNatClampNeg) (fun (r106 : Int32) (y106 : ST) => ((r105 = r106 → ∀ v3_108 : Int32, v3_108 = i + 6 → G v3_108 x105 y106) ∧ (¬ r105 = r106 → False))) y) x) ∧ (w3 = 14 → vp_in (i + 1) L ∧ vp_in (i + 2) L ∧ wX6_crate (xs (i + 1).toNatClampNeg) (xs (i + 2).toNatClampNeg) (fun (r111 : Int32) (x111 : ST) => wX7_crate (xs (i + 1).toNatClampNeg) (xs (i + 2).toNatClampNeg) (fun (r112 : Int32) (y112 : ST) => ((r111 = r112 → ∀ v3_114 : Int32, v3_114 = i + 6 → G v3_114 x111 y112) ∧ (¬ r111 = r112 → False))) y) x) ∧ (w3 = 15 → vp_in (i + 1) L ∧ wX6_meeting (xs (i + 1).toNatClampNeg) (fun (r116 : Int32) (x116 : ST) => wX7_meeting (xs (i + 1).toNatClampNeg) (fun (r117 : Int32) (y117 : ST) => ((r116 = r117 → ∀ v3_119 : Int32, v3_119 = i + 6 → G v3_119 x116 y117) ∧ (¬ r116 = r117 → False))) y) x) ∧ (w3 = 16 → vp_in (i + 1) L ∧ vp_in (i + 2) L ∧ vp_in (i + 3) L ∧ wX6_where (xs (i + 1).toNatClampNeg) (xs (i + 2).toNatClampNeg) (xs (i + 3).toNatClampNeg) (fun (r123 : Int32) (x123 : ST) => wX7_where (xs (i + 1).toNatClampNeg) (xs (i + 2).toNatClampNeg) (xs (i + 3).toNatClampNeg) (fun (r124 : Int32) (y124 : ST) => ((r123 = r124 → ∀ v3_126 : Int32, v3_126 = i + 6 → G v3_126 x123 y124) ∧ (¬ r123 = r124 → False))) y) x) ∧ (w3 = 17 → wX6_row (fun (r127 : Int32) (x127 : ST) => wX7_row (fun (r128 : Int32) (y128 : ST) => ((r127 = r128 → ∀ v3_130 : Int32, v3_130 = i + 6 → G v3_130 x127 y128) ∧ (¬ r127 = r128 → False))) y) x) ∧ (w3 = 18 → vp_in (i + 1) L ∧ wX6_at (xs (i + 1).toNatClampNeg) (fun (r132 : Int32) (x132 : ST) => wX7_at (xs (i + 1).toNatClampNeg) (fun (r133 : Int32) (y133 : ST) => ((r132 = r133 → ∀ v3_135 : Int32, v3_135 = i + 6 → G v3_135 x132 y133) ∧ (¬ r132 = r133 → False))) y) x) ∧ (w3 = 19 → vp_in (i + 1) L ∧ vp_in (i + 2) L ∧ wX6_misplace (xs (i + 1).toNatClampNeg) (xs (i + 2).toNatClampNeg) (fun (r138 : Int32) (x138 : ST) => wX7_misplace (xs (i + 1).toNatClampNeg) (xs (i + 2).toNatClampNeg) (fun (r139 : Int32) (y139 : ST) => ((r138 = r139 → ∀ v3_141 : Int32, v3_141 = i + 6 → G v3_141 x138 y139) ∧ (¬ r138 = r139 → False))) y) x) ∧ (w3 = 20 → wX6_takenOut (fun (r142 : Int32) (x142 : ST) => wX7_takenOut (fun (r143 : Int32) (y143 : ST) => ((r142 = r143 → ∀ v3_145 : Int32, v3_145 = i + 6 → G v3_145 x142 y143) ∧ (¬ r142 = r143 → False))) y) x) ∧ (w3 = 21 → vp_in (i + 1) L ∧ wX6_isOut (xs (i + 1).toNatClampNeg) (fun (r147 : Int32) (x147 : ST) => wX7_isOut (xs (i + 1).toNatClampNeg) (fun (r148 : Int32) (y148 : ST) => ((r147 = r148 → ∀ v3_150 : Int32, v3_150 = i + 6 → G v3_150 x147 y148) ∧ (¬ r147 = r148 → False))) y) x) ∧ (w3 = 22 → vp_in (i + 1) L ∧ vp_in (i + 2) L ∧ vp_in (i + 3) L ∧ wX6_drawn (xs (i + 1).toNatClampNeg) (xs (i + 2).toNatClampNeg) (xs (i + 3).toNatClampNeg) (fun (r154 : Int32) (x154 : ST) => wX7_drawn (xs (i + 1).toNatClampNeg) (xs (i + 2).toNatClampNeg) (xs (i + 3).toNatClampNeg) (fun (r155 : Int32) (y155 : ST) => ((r154 = r155 → ∀ v3_157 : Int32, v3_157 = i + 6 → G v3_157 x154 y155) ∧ (¬ r154 = r155 → False))) y) x) ∧ (w3 = 23 → vp_in (i + 1) L ∧ wX6_about (xs (i + 1).toNatClampNeg) (fun (r159 : Int32) (x159 : ST) => wX7_about (xs (i + 1).toNatClampNeg) (fun (r160 : Int32) (y160 : ST) => ((r159 = r160 → ∀ v3_162 : Int32, v3_162 = i + 6 → G v3_162 x159 y160) ∧ (¬ r159 = r160 → False))) y) x) ∧ (¬ w3 = 0 → ¬ w3 = 1 → ¬ w3 = 2 → ¬ w3 = 3 → ¬ w3 = 4 → ¬ w3 = 5 → ¬ w3 = 6 → ¬ w3 = 7 → ¬ w3 = 8 → ¬ w3 = 9 → ¬ w3 = 10 → ¬ w3 = 11 → ¬ w3 = 12 → ¬ w3 = 13 → ¬ w3 = 14 → ¬ w3 = 15 → ¬ w3 = 16 → ¬ w3 = 17 → ¬ w3 = 18 → ¬ w3 = 19 → ¬ w3 = 20 → ¬ w3 = 21 → ¬ w3 = 22 → ¬ w3 = 23 → ∀ v3_163 : Int32, v3_163 = i + 6 → G v3_163 x y))))
set_option maxHeartbeats 8000000 in
set_option maxRecDepth 100000 in
/-- THE LAW'S LOOP, at its head -/
theorem law_loop {p : Program} {l : Launch} {e : Env} {s : State} {m : MethodId} {below : List Frame} {meth : Method} {c : Code} {D : va_G} {cy : Nat → ClassId} {ad : Nat → Nat} {b L : Nat} {xs : Nat → Int32} (C0 : lw_At p s m meth c b L xs) (B : Bd p s m #[Value.ref b] c code 4 "BooksMovedLaw" D cy) (hO : AdOk ad (fun q : Nat => s.heap.size ≤ q)) :
    ∀ (n : Nat) (i : Int32) (x y : ST) (H : Heap) (locs : List Loc) (ls : Array Slot), Hd D (fun q : Nat => s.heap.size ≤ q) (Wd ad cy x y) s H locs → lv_has ls 4 [(0, .ref b), (1, .ref (ad 0)), (2, .ref (ad 35)), (3, .int i)] → it (fun (_ : Int32) (_ : ST) (_ : ST) => False) (FL L xs) n i x y → W p l e room_1 s m #[Value.ref b] below meth c H locs 600000 7302250 (lw_Z below #[Value.ref b] s) (F0 m 18 ls []) := by
  obtain ⟨hx, hb, hr, hml, hown, hts, hX, hbl, hlocks, hgv⟩ := C0
  have hbA : ¬ (fun q : Nat => s.heap.size ≤ q) b := Nat.not_le.mpr hbl
  intro n
  induction n with
  | zero => intro i x y H locs ls hH hl h; exact False.elim h
  | succ n ih =>
    intro i x y H locs ls hH hl h
    refine lv_iload_n hx hb dL_law_18 rfl (lv_at hl 3 rfl) ?_
    refine lv_aload_n hx hb dL_law_19 rfl (lv_at hl 0 rfl) ?_
    refine va_slen hx hb hX hbl hbA hH.2 dL_law_20 ?_
    refine lv_bipush (v := 6) hx hb dL_law_21 (by decide) ?_
    refine lv_isub hx hb dL_law_23 ?_
    refine lv_icmp_gt (tgt := 852) hx hb dL_law_24 (by decide) (fun c1 => ?_) (fun c1 => ?_)
    · replace h := h.1 c1
      refine lv_iconst (v := 1) hx hb dL_law_852 (by decide) ?_
      exact va_forget (fun q hq => hH.2.2.2 q hq) (lw_ret hx hb hr hlocks dL_law_853)
    · replace h := h.2 c1
      refine lv_aload_n hx hb dL_law_27 rfl (lv_at hl 0 rfl) ?_
      refine lv_iload_n hx hb dL_law_28 rfl (lv_at hl 3 rfl) ?_
      obtain ⟨b2, h⟩ := h
      refine va_sld hx hb hX hbl hbA hH.2 b2 dL_law_29 ?_
      refine lv_bipush (v := 31) hx hb dL_law_30 (by decide) ?_
      refine lv_iand hx hb dL_law_32 ?_
      refine lv_topi (fun w3 e3 => ?_)
      replace h := h w3 e3
      by_cases c4 : w3 = 0
      · replace h := h.1 c4
        refine lv_tableIn (tgt := 144) hx hb dL_law_33 (by rw [c4]; decide) (by rw [c4]; decide) (by rw [c4]; rfl) (by decide) ?_
        refine lv_aload_n hx hb dL_law_144 rfl (lv_at hl 1 rfl) ?_
        refine lv_aload_n hx hb dL_law_145 rfl (lv_at hl 0 rfl) ?_
        refine lv_iload_n hx hb dL_law_146 rfl (lv_at hl 3 rfl) ?_
        refine lv_iconst (v := 1) hx hb dL_law_147 (by decide) ?_
        refine lv_iadd hx hb dL_law_148 ?_
        obtain ⟨b28, h⟩ := h
        refine va_sld hx hb hX hbl hbA hH.2 b28 dL_law_149 ?_
        refine lv_aload_n hx hb dL_law_150 rfl (lv_at hl 0 rfl) ?_
        refine lv_iload_n hx hb dL_law_151 rfl (lv_at hl 3 rfl) ?_
        refine lv_iconst (v := 2) hx hb dL_law_152 (by decide) ?_
        refine lv_iadd hx hb dL_law_153 ?_
        obtain ⟨b29, h⟩ := h
        refine va_sld hx hb hX hbl hbA hH.2 b29 dL_law_154 ?_
        refine lv_aload_n hx hb dL_law_155 rfl (lv_at hl 0 rfl) ?_
        refine lv_iload_n hx hb dL_law_156 rfl (lv_at hl 3 rfl) ?_
        refine lv_iconst (v := 3) hx hb dL_law_157 (by decide) ?_
        refine lv_iadd hx hb dL_law_158 ?_
        obtain ⟨b30, h⟩ := h
        refine va_sld hx hb hX hbl hbA hH.2 b30 dL_law_159 ?_
        refine lv_aload_n hx hb dL_law_160 rfl (lv_at hl 0 rfl) ?_
        refine lv_iload_n hx hb dL_law_161 rfl (lv_at hl 3 rfl) ?_
        refine lv_iconst (v := 4) hx hb dL_law_162 (by decide) ?_
        refine lv_iadd hx hb dL_law_163 ?_
        obtain ⟨b31, h⟩ := h
        refine va_sld hx hb hX hbl hbA hH.2 b31 dL_law_164 ?_
        refine lv_aload_n hx hb dL_law_165 rfl (lv_at hl 0 rfl) ?_
        refine lv_iload_n hx hb dL_law_166 rfl (lv_at hl 3 rfl) ?_
        refine lv_iconst (v := 5) hx hb dL_law_167 (by decide) ?_
        refine lv_iadd hx hb dL_law_168 ?_
        obtain ⟨b32, h⟩ := h
        refine va_sld hx hb hX hbl hbA hH.2 b32 dL_law_169 ?_
        refine xVi (Wf := (fun z => Wd ad cy z y)) (n := 5) (P := 0) (ci := 6) (As := [.int (xs (i + 1).toNatClampNeg), .int (xs (i + 2).toNatClampNeg), .int (xs (i + 3).toNatClampNeg), .int (xs (i + 4).toNatClampNeg), .int (xs (i + 5).toNatClampNeg)]) (rest := []) B hH hO (kX6_feed l hO.1 (xs (i + 1).toNatClampNeg) (xs (i + 2).toNatClampNeg) (xs (i + 3).toNatClampNeg) (xs (i + 4).toNatClampNeg) (xs (i + 5).toNatClampNeg) _ x y h) rfl rfl wk2_24 wk2_25 wk2_26 wk1_1 wk2_27 (by decide +kernel) rfl ⟨rfl, rfl⟩ ⟨Nat.le_of_ble_eq_true rfl, Nat.le_of_ble_eq_true rfl⟩ ⟨Nat.le_of_ble_eq_true rfl, Nat.le_of_ble_eq_true rfl⟩ hl.1 rfl (Nat.le_of_ble_eq_true rfl) dL_law_170 (fun r33 x33 H locs h hH => ?_)
        replace hH : Hd D (fun q : Nat => s.heap.size ≤ q) (Wd ad cy x33 y) s H locs := hH
        refine lv_aload_n hx hb dL_law_173 rfl (lv_at hl 2 rfl) ?_
        refine lv_aload_n hx hb dL_law_174 rfl (lv_at hl 0 rfl) ?_
        refine lv_iload_n hx hb dL_law_175 rfl (lv_at hl 3 rfl) ?_
        refine lv_iconst (v := 1) hx hb dL_law_176 (by decide) ?_
        refine lv_iadd hx hb dL_law_177 ?_
        refine va_sld hx hb hX hbl hbA hH.2 b28 dL_law_178 ?_
        refine lv_aload_n hx hb dL_law_179 rfl (lv_at hl 0 rfl) ?_
        refine lv_iload_n hx hb dL_law_180 rfl (lv_at hl 3 rfl) ?_
        refine lv_iconst (v := 2) hx hb dL_law_181 (by decide) ?_
        refine lv_iadd hx hb dL_law_182 ?_
        refine va_sld hx hb hX hbl hbA hH.2 b29 dL_law_183 ?_
        refine lv_aload_n hx hb dL_law_184 rfl (lv_at hl 0 rfl) ?_
        refine lv_iload_n hx hb dL_law_185 rfl (lv_at hl 3 rfl) ?_
        refine lv_iconst (v := 3) hx hb dL_law_186 (by decide) ?_
        refine lv_iadd hx hb dL_law_187 ?_
        refine va_sld hx hb hX hbl hbA hH.2 b30 dL_law_188 ?_
        refine lv_aload_n hx hb dL_law_189 rfl (lv_at hl 0 rfl) ?_
        refine lv_iload_n hx hb dL_law_190 rfl (lv_at hl 3 rfl) ?_
        refine lv_iconst (v := 4) hx hb dL_law_191 (by decide) ?_
        refine lv_iadd hx hb dL_law_192 ?_
        refine va_sld hx hb hX hbl hbA hH.2 b31 dL_law_193 ?_
        refine lv_aload_n hx hb dL_law_194 rfl (lv_at hl 0 rfl) ?_
        refine lv_iload_n hx hb dL_law_195 rfl (lv_at hl 3 rfl) ?_
        refine lv_iconst (v := 5) hx hb dL_law_196 (by decide) ?_
        refine lv_iadd hx hb dL_law_197 ?_
        refine va_sld hx hb hX hbl hbA hH.2 b32 dL_law_198 ?_
        refine xVi (Wf := (fun z => Wd ad cy x33 z)) (n := 5) (P := 35) (ci := 7) (As := [.int (xs (i + 1).toNatClampNeg), .int (xs (i + 2).toNatClampNeg), .int (xs (i + 3).toNatClampNeg), .int (xs (i + 4).toNatClampNeg), .int (xs (i + 5).toNatClampNeg)]) (rest := [.int r33]) B hH hO (kX7_feed l hO.1 (xs (i + 1).toNatClampNeg) (xs (i + 2).toNatClampNeg) (xs (i + 3).toNatClampNeg) (xs (i + 4).toNatClampNeg) (xs (i + 5).toNatClampNeg) _ x33 y h) rfl rfl wk3_169 wk3_170 wk3_171 wk1_8 wk3_172 (by decide +kernel) rfl ⟨rfl, rfl⟩ ⟨Nat.le_of_ble_eq_true rfl, Nat.le_of_ble_eq_true rfl⟩ ⟨Nat.le_of_ble_eq_true rfl, Nat.le_of_ble_eq_true rfl⟩ hl.1 rfl (Nat.le_of_ble_eq_true rfl) dL_law_199 (fun r34 y34 H locs h hH => ?_)
        replace hH : Hd D (fun q : Nat => s.heap.size ≤ q) (Wd ad cy x33 y34) s H locs := hH
        refine lv_icmp_eq (tgt := 846) hx hb dL_law_202 (by decide) (fun c35 => ?_) (fun c35 => ?_)
        · replace h := h.1 c35
          obtain ⟨v3_36, e36⟩ : ∃ z : Int32, z = i + 6 := ⟨_, rfl⟩
          replace h := h v3_36 e36
          refine lv_iinc (v := v3_36) (lv' := [(3, .int v3_36), (0, .ref b), (1, .ref (ad 0)), (2, .ref (ad 35))]) hx hb dL_law_846 hl (k := 3) rfl (by rw [e36]; first | rfl | done) (by decide) rfl (fun ls hl => ?_)
          refine lv_goto (tgt := 18) hx hb dL_law_849 (by decide) ?_
          exact ih v3_36 x33 y34 _ _ _ hH (lv_sub hl [1, 2, 3, 0] rfl) h
        · replace h := h.2 c35
          refine lv_iconst (v := 0) hx hb dL_law_205 (by decide) ?_
          exact False.elim h
      · by_cases c5 : w3 = 1
        · replace h := h.2.1 c5
          refine lv_tableIn (tgt := 207) hx hb dL_law_33 (by rw [c5]; decide) (by rw [c5]; decide) (by rw [c5]; rfl) (by decide) ?_
          refine lv_aload_n hx hb dL_law_207 rfl (lv_at hl 1 rfl) ?_
          refine lv_aload_n hx hb dL_law_208 rfl (lv_at hl 0 rfl) ?_
          refine lv_iload_n hx hb dL_law_209 rfl (lv_at hl 3 rfl) ?_
          refine lv_iconst (v := 1) hx hb dL_law_210 (by decide) ?_
          refine lv_iadd hx hb dL_law_211 ?_
          obtain ⟨b37, h⟩ := h
          refine va_sld hx hb hX hbl hbA hH.2 b37 dL_law_212 ?_
          refine xVi (Wf := (fun z => Wd ad cy z y)) (n := 1) (P := 0) (ci := 6) (As := [.int (xs (i + 1).toNatClampNeg)]) (rest := []) B hH hO (kX6_end l hO.1 (xs (i + 1).toNatClampNeg) _ x y h) rfl rfl wk2_32 wk2_33 wk2_34 wk1_1 wk2_35 (by decide +kernel) rfl ⟨rfl, rfl⟩ ⟨Nat.le_of_ble_eq_true rfl, Nat.le_of_ble_eq_true rfl⟩ ⟨Nat.le_of_ble_eq_true rfl, Nat.le_of_ble_eq_true rfl⟩ hl.1 rfl (Nat.le_of_ble_eq_true rfl) dL_law_213 (fun r38 x38 H locs h hH => ?_)
          replace hH : Hd D (fun q : Nat => s.heap.size ≤ q) (Wd ad cy x38 y) s H locs := hH
          refine lv_aload_n hx hb dL_law_216 rfl (lv_at hl 2 rfl) ?_
          refine lv_aload_n hx hb dL_law_217 rfl (lv_at hl 0 rfl) ?_
          refine lv_iload_n hx hb dL_law_218 rfl (lv_at hl 3 rfl) ?_
          refine lv_iconst (v := 1) hx hb dL_law_219 (by decide) ?_
          refine lv_iadd hx hb dL_law_220 ?_
          refine va_sld hx hb hX hbl hbA hH.2 b37 dL_law_221 ?_
          refine xVi (Wf := (fun z => Wd ad cy x38 z)) (n := 1) (P := 35) (ci := 7) (As := [.int (xs (i + 1).toNatClampNeg)]) (rest := [.int r38]) B hH hO (kX7_end l hO.1 (xs (i + 1).toNatClampNeg) _ x38 y h) rfl rfl wk3_177 wk3_178 wk3_179 wk1_8 wk3_180 (by decide +kernel) rfl ⟨rfl, rfl⟩ ⟨Nat.le_of_ble_eq_true rfl, Nat.le_of_ble_eq_true rfl⟩ ⟨Nat.le_of_ble_eq_true rfl, Nat.le_of_ble_eq_true rfl⟩ hl.1 rfl (Nat.le_of_ble_eq_true rfl) dL_law_222 (fun r39 y39 H locs h hH => ?_)
          replace hH : Hd D (fun q : Nat => s.heap.size ≤ q) (Wd ad cy x38 y39) s H locs := hH
          refine lv_icmp_eq (tgt := 846) hx hb dL_law_225 (by decide) (fun c40 => ?_) (fun c40 => ?_)
          · replace h := h.1 c40
            obtain ⟨v3_41, e41⟩ : ∃ z : Int32, z = i + 6 := ⟨_, rfl⟩
            replace h := h v3_41 e41
            refine lv_iinc (v := v3_41) (lv' := [(3, .int v3_41), (0, .ref b), (1, .ref (ad 0)), (2, .ref (ad 35))]) hx hb dL_law_846 hl (k := 3) rfl (by rw [e41]; first | rfl | done) (by decide) rfl (fun ls hl => ?_)
            refine lv_goto (tgt := 18) hx hb dL_law_849 (by decide) ?_
            exact ih v3_41 x38 y39 _ _ _ hH (lv_sub hl [1, 2, 3, 0] rfl) h
          · replace h := h.2 c40
            refine lv_iconst (v := 0) hx hb dL_law_228 (by decide) ?_
            exact False.elim h
        · by_cases c6 : w3 = 2
          · replace h := h.2.2.1 c6
            refine lv_tableIn (tgt := 230) hx hb dL_law_33 (by rw [c6]; decide) (by rw [c6]; decide) (by rw [c6]; rfl) (by decide) ?_
            refine lv_aload_n hx hb dL_law_230 rfl (lv_at hl 1 rfl) ?_
            refine lv_aload_n hx hb dL_law_231 rfl (lv_at hl 0 rfl) ?_
            refine lv_iload_n hx hb dL_law_232 rfl (lv_at hl 3 rfl) ?_
            refine lv_iconst (v := 1) hx hb dL_law_233 (by decide) ?_
            refine lv_iadd hx hb dL_law_234 ?_
            obtain ⟨b42, h⟩ := h
            refine va_sld hx hb hX hbl hbA hH.2 b42 dL_law_235 ?_
            refine lv_aload_n hx hb dL_law_236 rfl (lv_at hl 0 rfl) ?_
            refine lv_iload_n hx hb dL_law_237 rfl (lv_at hl 3 rfl) ?_
            refine lv_iconst (v := 2) hx hb dL_law_238 (by decide) ?_
            refine lv_iadd hx hb dL_law_239 ?_
            obtain ⟨b43, h⟩ := h
            refine va_sld hx hb hX hbl hbA hH.2 b43 dL_law_240 ?_
            refine lv_aload_n hx hb dL_law_241 rfl (lv_at hl 0 rfl) ?_
            refine lv_iload_n hx hb dL_law_242 rfl (lv_at hl 3 rfl) ?_
            refine lv_iconst (v := 3) hx hb dL_law_243 (by decide) ?_
            refine lv_iadd hx hb dL_law_244 ?_
            obtain ⟨b44, h⟩ := h
            refine va_sld hx hb hX hbl hbA hH.2 b44 dL_law_245 ?_
            refine xVi (Wf := (fun z => Wd ad cy z y)) (n := 3) (P := 0) (ci := 6) (As := [.int (xs (i + 1).toNatClampNeg), .int (xs (i + 2).toNatClampNeg), .int (xs (i + 3).toNatClampNeg)]) (rest := []) B hH hO (kX6_book l hO.1 (xs (i + 1).toNatClampNeg) (xs (i + 2).toNatClampNeg) (xs (i + 3).toNatClampNeg) _ x y h) rfl rfl wk2_39 wk2_40 wk2_41 wk1_1 wk2_42 (by decide +kernel) rfl ⟨rfl, rfl⟩ ⟨Nat.le_of_ble_eq_true rfl, Nat.le_of_ble_eq_true rfl⟩ ⟨Nat.le_of_ble_eq_true rfl, Nat.le_of_ble_eq_true rfl⟩ hl.1 rfl (Nat.le_of_ble_eq_true rfl) dL_law_246 (fun r45 x45 H locs h hH => ?_)
            replace hH : Hd D (fun q : Nat => s.heap.size ≤ q) (Wd ad cy x45 y) s H locs := hH
            refine lv_aload_n hx hb dL_law_249 rfl (lv_at hl 2 rfl) ?_
            refine lv_aload_n hx hb dL_law_250 rfl (lv_at hl 0 rfl) ?_
            refine lv_iload_n hx hb dL_law_251 rfl (lv_at hl 3 rfl) ?_
            refine lv_iconst (v := 1) hx hb dL_law_252 (by decide) ?_
            refine lv_iadd hx hb dL_law_253 ?_
            refine va_sld hx hb hX hbl hbA hH.2 b42 dL_law_254 ?_
            refine lv_aload_n hx hb dL_law_255 rfl (lv_at hl 0 rfl) ?_
            refine lv_iload_n hx hb dL_law_256 rfl (lv_at hl 3 rfl) ?_
            refine lv_iconst (v := 2) hx hb dL_law_257 (by decide) ?_
            refine lv_iadd hx hb dL_law_258 ?_
            refine va_sld hx hb hX hbl hbA hH.2 b43 dL_law_259 ?_
            refine lv_aload_n hx hb dL_law_260 rfl (lv_at hl 0 rfl) ?_
            refine lv_iload_n hx hb dL_law_261 rfl (lv_at hl 3 rfl) ?_
            refine lv_iconst (v := 3) hx hb dL_law_262 (by decide) ?_
            refine lv_iadd hx hb dL_law_263 ?_
            refine va_sld hx hb hX hbl hbA hH.2 b44 dL_law_264 ?_
            refine xVi (Wf := (fun z => Wd ad cy x45 z)) (n := 3) (P := 35) (ci := 7) (As := [.int (xs (i + 1).toNatClampNeg), .int (xs (i + 2).toNatClampNeg), .int (xs (i + 3).toNatClampNeg)]) (rest := [.int r45]) B hH hO (kX7_book l hO.1 (xs (i + 1).toNatClampNeg) (xs (i + 2).toNatClampNeg) (xs (i + 3).toNatClampNeg) _ x45 y h) rfl rfl wk3_184 wk3_185 wk3_186 wk1_8 wk3_187 (by decide +kernel) rfl ⟨rfl, rfl⟩ ⟨Nat.le_of_ble_eq_true rfl, Nat.le_of_ble_eq_true rfl⟩ ⟨Nat.le_of_ble_eq_true rfl, Nat.le_of_ble_eq_true rfl⟩ hl.1 rfl (Nat.le_of_ble_eq_true rfl) dL_law_265 (fun r46 y46 H locs h hH => ?_)
            replace hH : Hd D (fun q : Nat => s.heap.size ≤ q) (Wd ad cy x45 y46) s H locs := hH
            refine lv_icmp_eq (tgt := 846) hx hb dL_law_268 (by decide) (fun c47 => ?_) (fun c47 => ?_)
            · replace h := h.1 c47
              obtain ⟨v3_48, e48⟩ : ∃ z : Int32, z = i + 6 := ⟨_, rfl⟩
              replace h := h v3_48 e48
              refine lv_iinc (v := v3_48) (lv' := [(3, .int v3_48), (0, .ref b), (1, .ref (ad 0)), (2, .ref (ad 35))]) hx hb dL_law_846 hl (k := 3) rfl (by rw [e48]; first | rfl | done) (by decide) rfl (fun ls hl => ?_)
              refine lv_goto (tgt := 18) hx hb dL_law_849 (by decide) ?_
              exact ih v3_48 x45 y46 _ _ _ hH (lv_sub hl [1, 2, 3, 0] rfl) h
            · replace h := h.2 c47
              refine lv_iconst (v := 0) hx hb dL_law_271 (by decide) ?_
              exact False.elim h
          · by_cases c7 : w3 = 3
            · replace h := h.2.2.2.1 c7
              refine lv_tableIn (tgt := 273) hx hb dL_law_33 (by rw [c7]; decide) (by rw [c7]; decide) (by rw [c7]; rfl) (by decide) ?_
              refine lv_aload_n hx hb dL_law_273 rfl (lv_at hl 1 rfl) ?_
              refine xVi (Wf := (fun z => Wd ad cy z y)) (n := 0) (P := 0) (ci := 6) (As := []) (rest := []) B hH hO (kX6_wrong l hO.1 _ x y h) rfl rfl wk2_104 wk2_105 wk2_106 wk1_1 wk2_107 (by decide +kernel) rfl ⟨rfl, rfl⟩ ⟨Nat.le_of_ble_eq_true rfl, Nat.le_of_ble_eq_true rfl⟩ ⟨Nat.le_of_ble_eq_true rfl, Nat.le_of_ble_eq_true rfl⟩ hl.1 rfl (Nat.le_of_ble_eq_true rfl) dL_law_274 (fun r49 x49 H locs h hH => ?_)
              replace hH : Hd D (fun q : Nat => s.heap.size ≤ q) (Wd ad cy x49 y) s H locs := hH
              refine lv_aload_n hx hb dL_law_277 rfl (lv_at hl 2 rfl) ?_
              refine xVi (Wf := (fun z => Wd ad cy x49 z)) (n := 0) (P := 35) (ci := 7) (As := []) (rest := [.int r49]) B hH hO (kX7_wrong l hO.1 _ x49 y h) rfl rfl wk3_200 wk3_201 wk3_202 wk1_8 wk3_203 (by decide +kernel) rfl ⟨rfl, rfl⟩ ⟨Nat.le_of_ble_eq_true rfl, Nat.le_of_ble_eq_true rfl⟩ ⟨Nat.le_of_ble_eq_true rfl, Nat.le_of_ble_eq_true rfl⟩ hl.1 rfl (Nat.le_of_ble_eq_true rfl) dL_law_278 (fun r50 y50 H locs h hH => ?_)
              replace hH : Hd D (fun q : Nat => s.heap.size ≤ q) (Wd ad cy x49 y50) s H locs := hH
              refine lv_icmp_eq (tgt := 846) hx hb dL_law_281 (by decide) (fun c51 => ?_) (fun c51 => ?_)
              · replace h := h.1 c51
                obtain ⟨v3_52, e52⟩ : ∃ z : Int32, z = i + 6 := ⟨_, rfl⟩
                replace h := h v3_52 e52
                refine lv_iinc (v := v3_52) (lv' := [(3, .int v3_52), (0, .ref b), (1, .ref (ad 0)), (2, .ref (ad 35))]) hx hb dL_law_846 hl (k := 3) rfl (by rw [e52]; first | rfl | done) (by decide) rfl (fun ls hl => ?_)
                refine lv_goto (tgt := 18) hx hb dL_law_849 (by decide) ?_
                exact ih v3_52 x49 y50 _ _ _ hH (lv_sub hl [1, 2, 3, 0] rfl) h
              · replace h := h.2 c51
                refine lv_iconst (v := 0) hx hb dL_law_284 (by decide) ?_
                exact False.elim h
            · by_cases c8 : w3 = 4
              · replace h := h.2.2.2.2.1 c8
                refine lv_tableIn (tgt := 286) hx hb dL_law_33 (by rw [c8]; decide) (by rw [c8]; decide) (by rw [c8]; rfl) (by decide) ?_
                refine lv_aload_n hx hb dL_law_286 rfl (lv_at hl 1 rfl) ?_
                refine lv_aload_n hx hb dL_law_287 rfl (lv_at hl 0 rfl) ?_
                refine lv_iload_n hx hb dL_law_288 rfl (lv_at hl 3 rfl) ?_
                refine lv_iconst (v := 1) hx hb dL_law_289 (by decide) ?_
                refine lv_iadd hx hb dL_law_290 ?_
                obtain ⟨b53, h⟩ := h
                refine va_sld hx hb hX hbl hbA hH.2 b53 dL_law_291 ?_
                refine xVi (Wf := (fun z => Wd ad cy z y)) (n := 1) (P := 0) (ci := 6) (As := [.int (xs (i + 1).toNatClampNeg)]) (rest := []) B hH hO (kX6_rule l hO.1 (xs (i + 1).toNatClampNeg) _ x y h) rfl rfl wk2_108 wk2_109 wk2_110 wk1_1 wk2_111 (by decide +kernel) rfl ⟨rfl, rfl⟩ ⟨Nat.le_of_ble_eq_true rfl, Nat.le_of_ble_eq_true rfl⟩ ⟨Nat.le_of_ble_eq_true rfl, Nat.le_of_ble_eq_true rfl⟩ hl.1 rfl (Nat.le_of_ble_eq_true rfl) dL_law_292 (fun r54 x54 H locs h hH => ?_)
                obtain ⟨h, hz54⟩ := h
                replace hH : Hd D (fun q : Nat => s.heap.size ≤ q) (Wd ad cy x54 y) s H locs := hH
                refine lv_aload_n hx hb dL_law_295 rfl (lv_at hl 2 rfl) ?_
                refine lv_aload_n hx hb dL_law_296 rfl (lv_at hl 0 rfl) ?_
                refine lv_iload_n hx hb dL_law_297 rfl (lv_at hl 3 rfl) ?_
                refine lv_iconst (v := 1) hx hb dL_law_298 (by decide) ?_
                refine lv_iadd hx hb dL_law_299 ?_
                refine va_sld hx hb hX hbl hbA hH.2 b53 dL_law_300 ?_
                refine xVi (Wf := (fun z => Wd ad cy x54 z)) (n := 1) (P := 35) (ci := 7) (As := [.int (xs (i + 1).toNatClampNeg)]) (rest := [.int r54]) B hH hO (kX7_rule l hO.1 (xs (i + 1).toNatClampNeg) _ x54 y h) rfl rfl wk3_204 wk3_205 wk3_206 wk1_8 wk3_207 (by decide +kernel) rfl ⟨rfl, rfl⟩ ⟨Nat.le_of_ble_eq_true rfl, Nat.le_of_ble_eq_true rfl⟩ ⟨Nat.le_of_ble_eq_true rfl, Nat.le_of_ble_eq_true rfl⟩ hl.1 rfl (Nat.le_of_ble_eq_true rfl) dL_law_301 (fun r55 y55 H locs h hH => ?_)
                obtain ⟨h, hz55⟩ := h
                replace hH : Hd D (fun q : Nat => s.heap.size ≤ q) (Wd ad cy x54 y55) s H locs := hH
                refine lv_icmp_eq (tgt := 846) hx hb dL_law_304 (by decide) (fun c56 => ?_) (fun c56 => ?_)
                · replace h := h.1 c56
                  obtain ⟨v3_57, e57⟩ : ∃ z : Int32, z = i + 6 := ⟨_, rfl⟩
                  replace h := h v3_57 e57
                  refine lv_iinc (v := v3_57) (lv' := [(3, .int v3_57), (0, .ref b), (1, .ref (ad 0)), (2, .ref (ad 35))]) hx hb dL_law_846 hl (k := 3) rfl (by rw [e57]; first | rfl | done) (by decide) rfl (fun ls hl => ?_)
                  refine lv_goto (tgt := 18) hx hb dL_law_849 (by decide) ?_
                  exact ih v3_57 x54 y55 _ _ _ hH (lv_sub hl [1, 2, 3, 0] rfl) h
                · replace h := h.2 c56
                  refine lv_iconst (v := 0) hx hb dL_law_307 (by decide) ?_
                  exact False.elim h
              · by_cases c9 : w3 = 5
                · replace h := h.2.2.2.2.2.1 c9
                  refine lv_tableIn (tgt := 309) hx hb dL_law_33 (by rw [c9]; decide) (by rw [c9]; decide) (by rw [c9]; rfl) (by decide) ?_
                  refine lv_aload_n hx hb dL_law_309 rfl (lv_at hl 1 rfl) ?_
                  refine lv_aload_n hx hb dL_law_310 rfl (lv_at hl 0 rfl) ?_
                  refine lv_iload_n hx hb dL_law_311 rfl (lv_at hl 3 rfl) ?_
                  refine lv_iconst (v := 1) hx hb dL_law_312 (by decide) ?_
                  refine lv_iadd hx hb dL_law_313 ?_
                  obtain ⟨b58, h⟩ := h
                  refine va_sld hx hb hX hbl hbA hH.2 b58 dL_law_314 ?_
                  refine lv_aload_n hx hb dL_law_315 rfl (lv_at hl 0 rfl) ?_
                  refine lv_iload_n hx hb dL_law_316 rfl (lv_at hl 3 rfl) ?_
                  refine lv_iconst (v := 2) hx hb dL_law_317 (by decide) ?_
                  refine lv_iadd hx hb dL_law_318 ?_
                  obtain ⟨b59, h⟩ := h
                  refine va_sld hx hb hX hbl hbA hH.2 b59 dL_law_319 ?_
                  refine lv_aload_n hx hb dL_law_320 rfl (lv_at hl 0 rfl) ?_
                  refine lv_iload_n hx hb dL_law_321 rfl (lv_at hl 3 rfl) ?_
                  refine lv_iconst (v := 3) hx hb dL_law_322 (by decide) ?_
                  refine lv_iadd hx hb dL_law_323 ?_
                  obtain ⟨b60, h⟩ := h
                  refine va_sld hx hb hX hbl hbA hH.2 b60 dL_law_324 ?_
                  refine xVi (Wf := (fun z => Wd ad cy z y)) (n := 3) (P := 0) (ci := 6) (As := [.int (xs (i + 1).toNatClampNeg), .int (xs (i + 2).toNatClampNeg), .int (xs (i + 3).toNatClampNeg)]) (rest := []) B hH hO (kX6_compare l hO.1 (xs (i + 1).toNatClampNeg) (xs (i + 2).toNatClampNeg) (xs (i + 3).toNatClampNeg) _ x y h) rfl rfl wk2_115 wk2_116 wk2_117 wk1_1 wk2_118 (by decide +kernel) rfl ⟨rfl, rfl⟩ ⟨Nat.le_of_ble_eq_true rfl, Nat.le_of_ble_eq_true rfl⟩ ⟨Nat.le_of_ble_eq_true rfl, Nat.le_of_ble_eq_true rfl⟩ hl.1 rfl (Nat.le_of_ble_eq_true rfl) dL_law_325 (fun r61 x61 H locs h hH => ?_)
                  replace hH : Hd D (fun q : Nat => s.heap.size ≤ q) (Wd ad cy x61 y) s H locs := hH
                  refine lv_aload_n hx hb dL_law_328 rfl (lv_at hl 2 rfl) ?_
                  refine lv_aload_n hx hb dL_law_329 rfl (lv_at hl 0 rfl) ?_
                  refine lv_iload_n hx hb dL_law_330 rfl (lv_at hl 3 rfl) ?_
                  refine lv_iconst (v := 1) hx hb dL_law_331 (by decide) ?_
                  refine lv_iadd hx hb dL_law_332 ?_
                  refine va_sld hx hb hX hbl hbA hH.2 b58 dL_law_333 ?_
                  refine lv_aload_n hx hb dL_law_334 rfl (lv_at hl 0 rfl) ?_
                  refine lv_iload_n hx hb dL_law_335 rfl (lv_at hl 3 rfl) ?_
                  refine lv_iconst (v := 2) hx hb dL_law_336 (by decide) ?_
                  refine lv_iadd hx hb dL_law_337 ?_
                  refine va_sld hx hb hX hbl hbA hH.2 b59 dL_law_338 ?_
                  refine lv_aload_n hx hb dL_law_339 rfl (lv_at hl 0 rfl) ?_
                  refine lv_iload_n hx hb dL_law_340 rfl (lv_at hl 3 rfl) ?_
                  refine lv_iconst (v := 3) hx hb dL_law_341 (by decide) ?_
                  refine lv_iadd hx hb dL_law_342 ?_
                  refine va_sld hx hb hX hbl hbA hH.2 b60 dL_law_343 ?_
                  refine xVi (Wf := (fun z => Wd ad cy x61 z)) (n := 3) (P := 35) (ci := 7) (As := [.int (xs (i + 1).toNatClampNeg), .int (xs (i + 2).toNatClampNeg), .int (xs (i + 3).toNatClampNeg)]) (rest := [.int r61]) B hH hO (kX7_compare l hO.1 (xs (i + 1).toNatClampNeg) (xs (i + 2).toNatClampNeg) (xs (i + 3).toNatClampNeg) _ x61 y h) rfl rfl wk3_208 wk3_209 wk3_210 wk1_8 wk3_211 (by decide +kernel) rfl ⟨rfl, rfl⟩ ⟨Nat.le_of_ble_eq_true rfl, Nat.le_of_ble_eq_true rfl⟩ ⟨Nat.le_of_ble_eq_true rfl, Nat.le_of_ble_eq_true rfl⟩ hl.1 rfl (Nat.le_of_ble_eq_true rfl) dL_law_344 (fun r62 y62 H locs h hH => ?_)
                  replace hH : Hd D (fun q : Nat => s.heap.size ≤ q) (Wd ad cy x61 y62) s H locs := hH
                  refine lv_icmp_eq (tgt := 846) hx hb dL_law_347 (by decide) (fun c63 => ?_) (fun c63 => ?_)
                  · replace h := h.1 c63
                    obtain ⟨v3_64, e64⟩ : ∃ z : Int32, z = i + 6 := ⟨_, rfl⟩
                    replace h := h v3_64 e64
                    refine lv_iinc (v := v3_64) (lv' := [(3, .int v3_64), (0, .ref b), (1, .ref (ad 0)), (2, .ref (ad 35))]) hx hb dL_law_846 hl (k := 3) rfl (by rw [e64]; first | rfl | done) (by decide) rfl (fun ls hl => ?_)
                    refine lv_goto (tgt := 18) hx hb dL_law_849 (by decide) ?_
                    exact ih v3_64 x61 y62 _ _ _ hH (lv_sub hl [1, 2, 3, 0] rfl) h
                  · replace h := h.2 c63
                    refine lv_iconst (v := 0) hx hb dL_law_350 (by decide) ?_
                    exact False.elim h
                · by_cases c10 : w3 = 6
                  · replace h := h.2.2.2.2.2.2.1 c10
                    refine lv_tableIn (tgt := 352) hx hb dL_law_33 (by rw [c10]; decide) (by rw [c10]; decide) (by rw [c10]; rfl) (by decide) ?_
                    refine lv_aload_n hx hb dL_law_352 rfl (lv_at hl 1 rfl) ?_
                    refine lv_aload_n hx hb dL_law_353 rfl (lv_at hl 0 rfl) ?_
                    refine lv_iload_n hx hb dL_law_354 rfl (lv_at hl 3 rfl) ?_
                    refine lv_iconst (v := 1) hx hb dL_law_355 (by decide) ?_
                    refine lv_iadd hx hb dL_law_356 ?_
                    obtain ⟨b65, h⟩ := h
                    refine va_sld hx hb hX hbl hbA hH.2 b65 dL_law_357 ?_
                    refine lv_aload_n hx hb dL_law_358 rfl (lv_at hl 0 rfl) ?_
                    refine lv_iload_n hx hb dL_law_359 rfl (lv_at hl 3 rfl) ?_
                    refine lv_iconst (v := 2) hx hb dL_law_360 (by decide) ?_
                    refine lv_iadd hx hb dL_law_361 ?_
                    obtain ⟨b66, h⟩ := h
                    refine va_sld hx hb hX hbl hbA hH.2 b66 dL_law_362 ?_
                    refine xVi (Wf := (fun z => Wd ad cy z y)) (n := 2) (P := 0) (ci := 6) (As := [.int (xs (i + 1).toNatClampNeg), .int (xs (i + 2).toNatClampNeg)]) (rest := []) B hH hO (kX6_ordered l hO.1 (xs (i + 1).toNatClampNeg) (xs (i + 2).toNatClampNeg) _ x y h) rfl rfl wk2_125 wk2_126 wk2_127 wk1_1 wk2_128 (by decide +kernel) rfl ⟨rfl, rfl⟩ ⟨Nat.le_of_ble_eq_true rfl, Nat.le_of_ble_eq_true rfl⟩ ⟨Nat.le_of_ble_eq_true rfl, Nat.le_of_ble_eq_true rfl⟩ hl.1 rfl (Nat.le_of_ble_eq_true rfl) dL_law_363 (fun r67 x67 H locs h hH => ?_)
                    replace hH : Hd D (fun q : Nat => s.heap.size ≤ q) (Wd ad cy x67 y) s H locs := hH
                    refine lv_aload_n hx hb dL_law_366 rfl (lv_at hl 2 rfl) ?_
                    refine lv_aload_n hx hb dL_law_367 rfl (lv_at hl 0 rfl) ?_
                    refine lv_iload_n hx hb dL_law_368 rfl (lv_at hl 3 rfl) ?_
                    refine lv_iconst (v := 1) hx hb dL_law_369 (by decide) ?_
                    refine lv_iadd hx hb dL_law_370 ?_
                    refine va_sld hx hb hX hbl hbA hH.2 b65 dL_law_371 ?_
                    refine lv_aload_n hx hb dL_law_372 rfl (lv_at hl 0 rfl) ?_
                    refine lv_iload_n hx hb dL_law_373 rfl (lv_at hl 3 rfl) ?_
                    refine lv_iconst (v := 2) hx hb dL_law_374 (by decide) ?_
                    refine lv_iadd hx hb dL_law_375 ?_
                    refine va_sld hx hb hX hbl hbA hH.2 b66 dL_law_376 ?_
                    refine xVi (Wf := (fun z => Wd ad cy x67 z)) (n := 2) (P := 35) (ci := 7) (As := [.int (xs (i + 1).toNatClampNeg), .int (xs (i + 2).toNatClampNeg)]) (rest := [.int r67]) B hH hO (kX7_ordered l hO.1 (xs (i + 1).toNatClampNeg) (xs (i + 2).toNatClampNeg) _ x67 y h) rfl rfl wk3_227 wk3_228 wk3_229 wk1_8 wk3_230 (by decide +kernel) rfl ⟨rfl, rfl⟩ ⟨Nat.le_of_ble_eq_true rfl, Nat.le_of_ble_eq_true rfl⟩ ⟨Nat.le_of_ble_eq_true rfl, Nat.le_of_ble_eq_true rfl⟩ hl.1 rfl (Nat.le_of_ble_eq_true rfl) dL_law_377 (fun r68 y68 H locs h hH => ?_)
                    replace hH : Hd D (fun q : Nat => s.heap.size ≤ q) (Wd ad cy x67 y68) s H locs := hH
                    refine lv_icmp_eq (tgt := 846) hx hb dL_law_380 (by decide) (fun c69 => ?_) (fun c69 => ?_)
                    · replace h := h.1 c69
                      obtain ⟨v3_70, e70⟩ : ∃ z : Int32, z = i + 6 := ⟨_, rfl⟩
                      replace h := h v3_70 e70
                      refine lv_iinc (v := v3_70) (lv' := [(3, .int v3_70), (0, .ref b), (1, .ref (ad 0)), (2, .ref (ad 35))]) hx hb dL_law_846 hl (k := 3) rfl (by rw [e70]; first | rfl | done) (by decide) rfl (fun ls hl => ?_)
                      refine lv_goto (tgt := 18) hx hb dL_law_849 (by decide) ?_
                      exact ih v3_70 x67 y68 _ _ _ hH (lv_sub hl [1, 2, 3, 0] rfl) h
                    · replace h := h.2 c69
                      refine lv_iconst (v := 0) hx hb dL_law_383 (by decide) ?_
                      exact False.elim h
                  · by_cases c11 : w3 = 7
                    · replace h := h.2.2.2.2.2.2.2.1 c11
                      refine lv_tableIn (tgt := 385) hx hb dL_law_33 (by rw [c11]; decide) (by rw [c11]; decide) (by rw [c11]; rfl) (by decide) ?_
                      refine lv_aload_n hx hb dL_law_385 rfl (lv_at hl 1 rfl) ?_
                      refine xVi (Wf := (fun z => Wd ad cy z y)) (n := 0) (P := 0) (ci := 6) (As := []) (rest := []) B hH hO (kX6_quarrels l hO.1 _ x y h) rfl rfl wk2_129 wk2_130 wk2_131 wk1_1 wk2_132 (by decide +kernel) rfl ⟨rfl, rfl⟩ ⟨Nat.le_of_ble_eq_true rfl, Nat.le_of_ble_eq_true rfl⟩ ⟨Nat.le_of_ble_eq_true rfl, Nat.le_of_ble_eq_true rfl⟩ hl.1 rfl (Nat.le_of_ble_eq_true rfl) dL_law_386 (fun r71 x71 H locs h hH => ?_)
                      replace hH : Hd D (fun q : Nat => s.heap.size ≤ q) (Wd ad cy x71 y) s H locs := hH
                      refine lv_aload_n hx hb dL_law_389 rfl (lv_at hl 2 rfl) ?_
                      refine xVi (Wf := (fun z => Wd ad cy x71 z)) (n := 0) (P := 35) (ci := 7) (As := []) (rest := [.int r71]) B hH hO (kX7_quarrels l hO.1 _ x71 y h) rfl rfl wk3_235 wk3_236 wk3_237 wk1_8 wk3_238 (by decide +kernel) rfl ⟨rfl, rfl⟩ ⟨Nat.le_of_ble_eq_true rfl, Nat.le_of_ble_eq_true rfl⟩ ⟨Nat.le_of_ble_eq_true rfl, Nat.le_of_ble_eq_true rfl⟩ hl.1 rfl (Nat.le_of_ble_eq_true rfl) dL_law_390 (fun r72 y72 H locs h hH => ?_)
                      replace hH : Hd D (fun q : Nat => s.heap.size ≤ q) (Wd ad cy x71 y72) s H locs := hH
                      refine lv_icmp_eq (tgt := 846) hx hb dL_law_393 (by decide) (fun c73 => ?_) (fun c73 => ?_)
                      · replace h := h.1 c73
                        obtain ⟨v3_74, e74⟩ : ∃ z : Int32, z = i + 6 := ⟨_, rfl⟩
                        replace h := h v3_74 e74
                        refine lv_iinc (v := v3_74) (lv' := [(3, .int v3_74), (0, .ref b), (1, .ref (ad 0)), (2, .ref (ad 35))]) hx hb dL_law_846 hl (k := 3) rfl (by rw [e74]; first | rfl | done) (by decide) rfl (fun ls hl => ?_)
                        refine lv_goto (tgt := 18) hx hb dL_law_849 (by decide) ?_
                        exact ih v3_74 x71 y72 _ _ _ hH (lv_sub hl [1, 2, 3, 0] rfl) h
                      · replace h := h.2 c73
                        refine lv_iconst (v := 0) hx hb dL_law_396 (by decide) ?_
                        exact False.elim h
                    · by_cases c12 : w3 = 8
                      · replace h := h.2.2.2.2.2.2.2.2.1 c12
                        refine lv_tableIn (tgt := 398) hx hb dL_law_33 (by rw [c12]; decide) (by rw [c12]; decide) (by rw [c12]; rfl) (by decide) ?_
                        refine lv_aload_n hx hb dL_law_398 rfl (lv_at hl 1 rfl) ?_
                        refine lv_aload_n hx hb dL_law_399 rfl (lv_at hl 0 rfl) ?_
                        refine lv_iload_n hx hb dL_law_400 rfl (lv_at hl 3 rfl) ?_
                        refine lv_iconst (v := 1) hx hb dL_law_401 (by decide) ?_
                        refine lv_iadd hx hb dL_law_402 ?_
                        obtain ⟨b75, h⟩ := h
                        refine va_sld hx hb hX hbl hbA hH.2 b75 dL_law_403 ?_
                        refine xVi (Wf := (fun z => Wd ad cy z y)) (n := 1) (P := 0) (ci := 6) (As := [.int (xs (i + 1).toNatClampNeg)]) (rest := []) B hH hO (kX6_shelf l hO.1 (xs (i + 1).toNatClampNeg) _ x y h) rfl rfl wk2_133 wk2_134 wk2_135 wk1_1 wk2_136 (by decide +kernel) rfl ⟨rfl, rfl⟩ ⟨Nat.le_of_ble_eq_true rfl, Nat.le_of_ble_eq_true rfl⟩ ⟨Nat.le_of_ble_eq_true rfl, Nat.le_of_ble_eq_true rfl⟩ hl.1 rfl (Nat.le_of_ble_eq_true rfl) dL_law_404 (fun r76 x76 H locs h hH => ?_)
                        replace hH : Hd D (fun q : Nat => s.heap.size ≤ q) (Wd ad cy x76 y) s H locs := hH
                        refine lv_aload_n hx hb dL_law_407 rfl (lv_at hl 2 rfl) ?_
                        refine lv_aload_n hx hb dL_law_408 rfl (lv_at hl 0 rfl) ?_
                        refine lv_iload_n hx hb dL_law_409 rfl (lv_at hl 3 rfl) ?_
                        refine lv_iconst (v := 1) hx hb dL_law_410 (by decide) ?_
                        refine lv_iadd hx hb dL_law_411 ?_
                        refine va_sld hx hb hX hbl hbA hH.2 b75 dL_law_412 ?_
                        refine xVi (Wf := (fun z => Wd ad cy x76 z)) (n := 1) (P := 35) (ci := 7) (As := [.int (xs (i + 1).toNatClampNeg)]) (rest := [.int r76]) B hH hO (kX7_shelf l hO.1 (xs (i + 1).toNatClampNeg) _ x76 y h) rfl rfl wk3_239 wk4_0 wk4_1 wk1_8 wk4_2 (by decide +kernel) rfl ⟨rfl, rfl⟩ ⟨Nat.le_of_ble_eq_true rfl, Nat.le_of_ble_eq_true rfl⟩ ⟨Nat.le_of_ble_eq_true rfl, Nat.le_of_ble_eq_true rfl⟩ hl.1 rfl (Nat.le_of_ble_eq_true rfl) dL_law_413 (fun r77 y77 H locs h hH => ?_)
                        replace hH : Hd D (fun q : Nat => s.heap.size ≤ q) (Wd ad cy x76 y77) s H locs := hH
                        refine lv_icmp_eq (tgt := 846) hx hb dL_law_416 (by decide) (fun c78 => ?_) (fun c78 => ?_)
                        · replace h := h.1 c78
                          obtain ⟨v3_79, e79⟩ : ∃ z : Int32, z = i + 6 := ⟨_, rfl⟩
                          replace h := h v3_79 e79
                          refine lv_iinc (v := v3_79) (lv' := [(3, .int v3_79), (0, .ref b), (1, .ref (ad 0)), (2, .ref (ad 35))]) hx hb dL_law_846 hl (k := 3) rfl (by rw [e79]; first | rfl | done) (by decide) rfl (fun ls hl => ?_)
                          refine lv_goto (tgt := 18) hx hb dL_law_849 (by decide) ?_
                          exact ih v3_79 x76 y77 _ _ _ hH (lv_sub hl [1, 2, 3, 0] rfl) h
                        · replace h := h.2 c78
                          refine lv_iconst (v := 0) hx hb dL_law_419 (by decide) ?_
                          exact False.elim h
                      · by_cases c13 : w3 = 9
                        · replace h := h.2.2.2.2.2.2.2.2.2.1 c13
                          refine lv_tableIn (tgt := 421) hx hb dL_law_33 (by rw [c13]; decide) (by rw [c13]; decide) (by rw [c13]; rfl) (by decide) ?_
                          refine lv_aload_n hx hb dL_law_421 rfl (lv_at hl 1 rfl) ?_
                          refine lv_aload_n hx hb dL_law_422 rfl (lv_at hl 0 rfl) ?_
                          refine lv_iload_n hx hb dL_law_423 rfl (lv_at hl 3 rfl) ?_
                          refine lv_iconst (v := 1) hx hb dL_law_424 (by decide) ?_
                          refine lv_iadd hx hb dL_law_425 ?_
                          obtain ⟨b80, h⟩ := h
                          refine va_sld hx hb hX hbl hbA hH.2 b80 dL_law_426 ?_
                          refine lv_aload_n hx hb dL_law_427 rfl (lv_at hl 0 rfl) ?_
                          refine lv_iload_n hx hb dL_law_428 rfl (lv_at hl 3 rfl) ?_
                          refine lv_iconst (v := 2) hx hb dL_law_429 (by decide) ?_
                          refine lv_iadd hx hb dL_law_430 ?_
                          obtain ⟨b81, h⟩ := h
                          refine va_sld hx hb hX hbl hbA hH.2 b81 dL_law_431 ?_
                          refine xVi (Wf := (fun z => Wd ad cy z y)) (n := 2) (P := 0) (ci := 6) (As := [.int (xs (i + 1).toNatClampNeg), .int (xs (i + 2).toNatClampNeg)]) (rest := []) B hH hO (kX6_sizes l hO.1 (xs (i + 1).toNatClampNeg) (xs (i + 2).toNatClampNeg) _ x y h) rfl rfl wk2_141 wk2_142 wk2_143 wk1_1 wk2_144 (by decide +kernel) rfl ⟨rfl, rfl⟩ ⟨Nat.le_of_ble_eq_true rfl, Nat.le_of_ble_eq_true rfl⟩ ⟨Nat.le_of_ble_eq_true rfl, Nat.le_of_ble_eq_true rfl⟩ hl.1 rfl (Nat.le_of_ble_eq_true rfl) dL_law_432 (fun r82 x82 H locs h hH => ?_)
                          obtain ⟨h, hz82⟩ := h
                          replace hH : Hd D (fun q : Nat => s.heap.size ≤ q) (Wd ad cy x82 y) s H locs := hH
                          refine lv_aload_n hx hb dL_law_435 rfl (lv_at hl 2 rfl) ?_
                          refine lv_aload_n hx hb dL_law_436 rfl (lv_at hl 0 rfl) ?_
                          refine lv_iload_n hx hb dL_law_437 rfl (lv_at hl 3 rfl) ?_
                          refine lv_iconst (v := 1) hx hb dL_law_438 (by decide) ?_
                          refine lv_iadd hx hb dL_law_439 ?_
                          refine va_sld hx hb hX hbl hbA hH.2 b80 dL_law_440 ?_
                          refine lv_aload_n hx hb dL_law_441 rfl (lv_at hl 0 rfl) ?_
                          refine lv_iload_n hx hb dL_law_442 rfl (lv_at hl 3 rfl) ?_
                          refine lv_iconst (v := 2) hx hb dL_law_443 (by decide) ?_
                          refine lv_iadd hx hb dL_law_444 ?_
                          refine va_sld hx hb hX hbl hbA hH.2 b81 dL_law_445 ?_
                          refine xVi (Wf := (fun z => Wd ad cy x82 z)) (n := 2) (P := 35) (ci := 7) (As := [.int (xs (i + 1).toNatClampNeg), .int (xs (i + 2).toNatClampNeg)]) (rest := [.int r82]) B hH hO (kX7_sizes l hO.1 (xs (i + 1).toNatClampNeg) (xs (i + 2).toNatClampNeg) _ x82 y h) rfl rfl wk4_3 wk4_4 wk4_5 wk1_8 wk4_6 (by decide +kernel) rfl ⟨rfl, rfl⟩ ⟨Nat.le_of_ble_eq_true rfl, Nat.le_of_ble_eq_true rfl⟩ ⟨Nat.le_of_ble_eq_true rfl, Nat.le_of_ble_eq_true rfl⟩ hl.1 rfl (Nat.le_of_ble_eq_true rfl) dL_law_446 (fun r83 y83 H locs h hH => ?_)
                          obtain ⟨h, hz83⟩ := h
                          replace hH : Hd D (fun q : Nat => s.heap.size ≤ q) (Wd ad cy x82 y83) s H locs := hH
                          refine lv_icmp_eq (tgt := 846) hx hb dL_law_449 (by decide) (fun c84 => ?_) (fun c84 => ?_)
                          · replace h := h.1 c84
                            obtain ⟨v3_85, e85⟩ : ∃ z : Int32, z = i + 6 := ⟨_, rfl⟩
                            replace h := h v3_85 e85
                            refine lv_iinc (v := v3_85) (lv' := [(3, .int v3_85), (0, .ref b), (1, .ref (ad 0)), (2, .ref (ad 35))]) hx hb dL_law_846 hl (k := 3) rfl (by rw [e85]; first | rfl | done) (by decide) rfl (fun ls hl => ?_)
                            refine lv_goto (tgt := 18) hx hb dL_law_849 (by decide) ?_
                            exact ih v3_85 x82 y83 _ _ _ hH (lv_sub hl [1, 2, 3, 0] rfl) h
                          · replace h := h.2 c84
                            refine lv_iconst (v := 0) hx hb dL_law_452 (by decide) ?_
                            exact False.elim h
                        · by_cases c14 : w3 = 10
                          · replace h := h.2.2.2.2.2.2.2.2.2.2.1 c14
                            refine lv_tableIn (tgt := 454) hx hb dL_law_33 (by rw [c14]; decide) (by rw [c14]; decide) (by rw [c14]; rfl) (by decide) ?_
                            refine lv_aload_n hx hb dL_law_454 rfl (lv_at hl 1 rfl) ?_
                            refine lv_aload_n hx hb dL_law_455 rfl (lv_at hl 0 rfl) ?_
                            refine lv_iload_n hx hb dL_law_456 rfl (lv_at hl 3 rfl) ?_
                            refine lv_iconst (v := 1) hx hb dL_law_457 (by decide) ?_
                            refine lv_iadd hx hb dL_law_458 ?_
                            obtain ⟨b86, h⟩ := h
                            refine va_sld hx hb hX hbl hbA hH.2 b86 dL_law_459 ?_
                            refine lv_aload_n hx hb dL_law_460 rfl (lv_at hl 0 rfl) ?_
                            refine lv_iload_n hx hb dL_law_461 rfl (lv_at hl 3 rfl) ?_
                            refine lv_iconst (v := 2) hx hb dL_law_462 (by decide) ?_
                            refine lv_iadd hx hb dL_law_463 ?_
                            obtain ⟨b87, h⟩ := h
                            refine va_sld hx hb hX hbl hbA hH.2 b87 dL_law_464 ?_
                            refine xVi (Wf := (fun z => Wd ad cy z y)) (n := 2) (P := 0) (ci := 6) (As := [.int (xs (i + 1).toNatClampNeg), .int (xs (i + 2).toNatClampNeg)]) (rest := []) B hH hO (kX6_laid l hO.1 (xs (i + 1).toNatClampNeg) (xs (i + 2).toNatClampNeg) _ x y h) rfl rfl wk2_145 wk2_146 wk2_147 wk1_1 wk2_148 (by decide +kernel) rfl ⟨rfl, rfl⟩ ⟨Nat.le_of_ble_eq_true rfl, Nat.le_of_ble_eq_true rfl⟩ ⟨Nat.le_of_ble_eq_true rfl, Nat.le_of_ble_eq_true rfl⟩ hl.1 rfl (Nat.le_of_ble_eq_true rfl) dL_law_465 (fun r88 x88 H locs h hH => ?_)
                            replace hH : Hd D (fun q : Nat => s.heap.size ≤ q) (Wd ad cy x88 y) s H locs := hH
                            refine lv_aload_n hx hb dL_law_468 rfl (lv_at hl 2 rfl) ?_
                            refine lv_aload_n hx hb dL_law_469 rfl (lv_at hl 0 rfl) ?_
                            refine lv_iload_n hx hb dL_law_470 rfl (lv_at hl 3 rfl) ?_
                            refine lv_iconst (v := 1) hx hb dL_law_471 (by decide) ?_
                            refine lv_iadd hx hb dL_law_472 ?_
                            refine va_sld hx hb hX hbl hbA hH.2 b86 dL_law_473 ?_
                            refine lv_aload_n hx hb dL_law_474 rfl (lv_at hl 0 rfl) ?_
                            refine lv_iload_n hx hb dL_law_475 rfl (lv_at hl 3 rfl) ?_
                            refine lv_iconst (v := 2) hx hb dL_law_476 (by decide) ?_
                            refine lv_iadd hx hb dL_law_477 ?_
                            refine va_sld hx hb hX hbl hbA hH.2 b87 dL_law_478 ?_
                            refine xVi (Wf := (fun z => Wd ad cy x88 z)) (n := 2) (P := 35) (ci := 7) (As := [.int (xs (i + 1).toNatClampNeg), .int (xs (i + 2).toNatClampNeg)]) (rest := [.int r88]) B hH hO (kX7_laid l hO.1 (xs (i + 1).toNatClampNeg) (xs (i + 2).toNatClampNeg) _ x88 y h) rfl rfl wk4_7 wk4_8 wk4_9 wk1_8 wk4_10 (by decide +kernel) rfl ⟨rfl, rfl⟩ ⟨Nat.le_of_ble_eq_true rfl, Nat.le_of_ble_eq_true rfl⟩ ⟨Nat.le_of_ble_eq_true rfl, Nat.le_of_ble_eq_true rfl⟩ hl.1 rfl (Nat.le_of_ble_eq_true rfl) dL_law_479 (fun r89 y89 H locs h hH => ?_)
                            replace hH : Hd D (fun q : Nat => s.heap.size ≤ q) (Wd ad cy x88 y89) s H locs := hH
                            refine lv_icmp_eq (tgt := 846) hx hb dL_law_482 (by decide) (fun c90 => ?_) (fun c90 => ?_)
                            · replace h := h.1 c90
                              obtain ⟨v3_91, e91⟩ : ∃ z : Int32, z = i + 6 := ⟨_, rfl⟩
                              replace h := h v3_91 e91
                              refine lv_iinc (v := v3_91) (lv' := [(3, .int v3_91), (0, .ref b), (1, .ref (ad 0)), (2, .ref (ad 35))]) hx hb dL_law_846 hl (k := 3) rfl (by rw [e91]; first | rfl | done) (by decide) rfl (fun ls hl => ?_)
                              refine lv_goto (tgt := 18) hx hb dL_law_849 (by decide) ?_
                              exact ih v3_91 x88 y89 _ _ _ hH (lv_sub hl [1, 2, 3, 0] rfl) h
                            · replace h := h.2 c90
                              refine lv_iconst (v := 0) hx hb dL_law_485 (by decide) ?_
                              exact False.elim h
                          · by_cases c15 : w3 = 11
                            · replace h := h.2.2.2.2.2.2.2.2.2.2.2.1 c15
                              refine lv_tableIn (tgt := 487) hx hb dL_law_33 (by rw [c15]; decide) (by rw [c15]; decide) (by rw [c15]; rfl) (by decide) ?_
                              refine lv_aload_n hx hb dL_law_487 rfl (lv_at hl 1 rfl) ?_
                              refine lv_aload_n hx hb dL_law_488 rfl (lv_at hl 0 rfl) ?_
                              refine lv_iload_n hx hb dL_law_489 rfl (lv_at hl 3 rfl) ?_
                              refine lv_iconst (v := 1) hx hb dL_law_490 (by decide) ?_
                              refine lv_iadd hx hb dL_law_491 ?_
                              obtain ⟨b92, h⟩ := h
                              refine va_sld hx hb hX hbl hbA hH.2 b92 dL_law_492 ?_
                              refine lv_aload_n hx hb dL_law_493 rfl (lv_at hl 0 rfl) ?_
                              refine lv_iload_n hx hb dL_law_494 rfl (lv_at hl 3 rfl) ?_
                              refine lv_iconst (v := 2) hx hb dL_law_495 (by decide) ?_
                              refine lv_iadd hx hb dL_law_496 ?_
                              obtain ⟨b93, h⟩ := h
                              refine va_sld hx hb hX hbl hbA hH.2 b93 dL_law_497 ?_
                              refine xVi (Wf := (fun z => Wd ad cy z y)) (n := 2) (P := 0) (ci := 6) (As := [.int (xs (i + 1).toNatClampNeg), .int (xs (i + 2).toNatClampNeg)]) (rest := []) B hH hO (kX6_shelfOf l hO.1 (xs (i + 1).toNatClampNeg) (xs (i + 2).toNatClampNeg) _ x y h) rfl rfl wk2_188 wk2_189 wk2_190 wk1_1 wk2_191 (by decide +kernel) rfl ⟨rfl, rfl⟩ ⟨Nat.le_of_ble_eq_true rfl, Nat.le_of_ble_eq_true rfl⟩ ⟨Nat.le_of_ble_eq_true rfl, Nat.le_of_ble_eq_true rfl⟩ hl.1 rfl (Nat.le_of_ble_eq_true rfl) dL_law_498 (fun r94 x94 H locs h hH => ?_)
                              replace hH : Hd D (fun q : Nat => s.heap.size ≤ q) (Wd ad cy x94 y) s H locs := hH
                              refine lv_aload_n hx hb dL_law_501 rfl (lv_at hl 2 rfl) ?_
                              refine lv_aload_n hx hb dL_law_502 rfl (lv_at hl 0 rfl) ?_
                              refine lv_iload_n hx hb dL_law_503 rfl (lv_at hl 3 rfl) ?_
                              refine lv_iconst (v := 1) hx hb dL_law_504 (by decide) ?_
                              refine lv_iadd hx hb dL_law_505 ?_
                              refine va_sld hx hb hX hbl hbA hH.2 b92 dL_law_506 ?_
                              refine lv_aload_n hx hb dL_law_507 rfl (lv_at hl 0 rfl) ?_
                              refine lv_iload_n hx hb dL_law_508 rfl (lv_at hl 3 rfl) ?_
                              refine lv_iconst (v := 2) hx hb dL_law_509 (by decide) ?_
                              refine lv_iadd hx hb dL_law_510 ?_
                              refine va_sld hx hb hX hbl hbA hH.2 b93 dL_law_511 ?_
                              refine xVi (Wf := (fun z => Wd ad cy x94 z)) (n := 2) (P := 35) (ci := 7) (As := [.int (xs (i + 1).toNatClampNeg), .int (xs (i + 2).toNatClampNeg)]) (rest := [.int r94]) B hH hO (kX7_shelfOf l hO.1 (xs (i + 1).toNatClampNeg) (xs (i + 2).toNatClampNeg) _ x94 y h) rfl rfl wk4_15 wk4_16 wk4_17 wk1_8 wk4_18 (by decide +kernel) rfl ⟨rfl, rfl⟩ ⟨Nat.le_of_ble_eq_true rfl, Nat.le_of_ble_eq_true rfl⟩ ⟨Nat.le_of_ble_eq_true rfl, Nat.le_of_ble_eq_true rfl⟩ hl.1 rfl (Nat.le_of_ble_eq_true rfl) dL_law_512 (fun r95 y95 H locs h hH => ?_)
                              replace hH : Hd D (fun q : Nat => s.heap.size ≤ q) (Wd ad cy x94 y95) s H locs := hH
                              refine lv_icmp_eq (tgt := 846) hx hb dL_law_515 (by decide) (fun c96 => ?_) (fun c96 => ?_)
                              · replace h := h.1 c96
                                obtain ⟨v3_97, e97⟩ : ∃ z : Int32, z = i + 6 := ⟨_, rfl⟩
                                replace h := h v3_97 e97
                                refine lv_iinc (v := v3_97) (lv' := [(3, .int v3_97), (0, .ref b), (1, .ref (ad 0)), (2, .ref (ad 35))]) hx hb dL_law_846 hl (k := 3) rfl (by rw [e97]; first | rfl | done) (by decide) rfl (fun ls hl => ?_)
                                refine lv_goto (tgt := 18) hx hb dL_law_849 (by decide) ?_
                                exact ih v3_97 x94 y95 _ _ _ hH (lv_sub hl [1, 2, 3, 0] rfl) h
                              · replace h := h.2 c96
                                refine lv_iconst (v := 0) hx hb dL_law_518 (by decide) ?_
                                exact False.elim h
                            · by_cases c16 : w3 = 12
                              · replace h := h.2.2.2.2.2.2.2.2.2.2.2.2.1 c16
                                refine lv_tableIn (tgt := 520) hx hb dL_law_33 (by rw [c16]; decide) (by rw [c16]; decide) (by rw [c16]; rfl) (by decide) ?_
                                refine lv_aload_n hx hb dL_law_520 rfl (lv_at hl 1 rfl) ?_
                                refine lv_aload_n hx hb dL_law_521 rfl (lv_at hl 0 rfl) ?_
                                refine lv_iload_n hx hb dL_law_522 rfl (lv_at hl 3 rfl) ?_
                                refine lv_iconst (v := 1) hx hb dL_law_523 (by decide) ?_
                                refine lv_iadd hx hb dL_law_524 ?_
                                obtain ⟨b98, h⟩ := h
                                refine va_sld hx hb hX hbl hbA hH.2 b98 dL_law_525 ?_
                                refine xVi (Wf := (fun z => Wd ad cy z y)) (n := 1) (P := 0) (ci := 6) (As := [.int (xs (i + 1).toNatClampNeg)]) (rest := []) B hH hO (kX6_counts l hO.1 (xs (i + 1).toNatClampNeg) _ x y h) rfl rfl wk2_193 wk2_194 wk2_195 wk1_1 wk2_196 (by decide +kernel) rfl ⟨rfl, rfl⟩ ⟨Nat.le_of_ble_eq_true rfl, Nat.le_of_ble_eq_true rfl⟩ ⟨Nat.le_of_ble_eq_true rfl, Nat.le_of_ble_eq_true rfl⟩ hl.1 rfl (Nat.le_of_ble_eq_true rfl) dL_law_526 (fun r99 x99 H locs h hH => ?_)
                                replace hH : Hd D (fun q : Nat => s.heap.size ≤ q) (Wd ad cy x99 y) s H locs := hH
                                refine lv_aload_n hx hb dL_law_529 rfl (lv_at hl 2 rfl) ?_
                                refine lv_aload_n hx hb dL_law_530 rfl (lv_at hl 0 rfl) ?_
                                refine lv_iload_n hx hb dL_law_531 rfl (lv_at hl 3 rfl) ?_
                                refine lv_iconst (v := 1) hx hb dL_law_532 (by decide) ?_
                                refine lv_iadd hx hb dL_law_533 ?_
                                refine va_sld hx hb hX hbl hbA hH.2 b98 dL_law_534 ?_
                                refine xVi (Wf := (fun z => Wd ad cy x99 z)) (n := 1) (P := 35) (ci := 7) (As := [.int (xs (i + 1).toNatClampNeg)]) (rest := [.int r99]) B hH hO (kX7_counts l hO.1 (xs (i + 1).toNatClampNeg) _ x99 y h) rfl rfl wk4_19 wk4_20 wk4_21 wk1_8 wk4_22 (by decide +kernel) rfl ⟨rfl, rfl⟩ ⟨Nat.le_of_ble_eq_true rfl, Nat.le_of_ble_eq_true rfl⟩ ⟨Nat.le_of_ble_eq_true rfl, Nat.le_of_ble_eq_true rfl⟩ hl.1 rfl (Nat.le_of_ble_eq_true rfl) dL_law_535 (fun r100 y100 H locs h hH => ?_)
                                replace hH : Hd D (fun q : Nat => s.heap.size ≤ q) (Wd ad cy x99 y100) s H locs := hH
                                refine lv_icmp_eq (tgt := 846) hx hb dL_law_538 (by decide) (fun c101 => ?_) (fun c101 => ?_)
                                · replace h := h.1 c101
                                  obtain ⟨v3_102, e102⟩ : ∃ z : Int32, z = i + 6 := ⟨_, rfl⟩
                                  replace h := h v3_102 e102
                                  refine lv_iinc (v := v3_102) (lv' := [(3, .int v3_102), (0, .ref b), (1, .ref (ad 0)), (2, .ref (ad 35))]) hx hb dL_law_846 hl (k := 3) rfl (by rw [e102]; first | rfl | done) (by decide) rfl (fun ls hl => ?_)
                                  refine lv_goto (tgt := 18) hx hb dL_law_849 (by decide) ?_
                                  exact ih v3_102 x99 y100 _ _ _ hH (lv_sub hl [1, 2, 3, 0] rfl) h
                                · replace h := h.2 c101
                                  refine lv_iconst (v := 0) hx hb dL_law_541 (by decide) ?_
                                  exact False.elim h
                              · by_cases c17 : w3 = 13
                                · replace h := h.2.2.2.2.2.2.2.2.2.2.2.2.2.1 c17
                                  refine lv_tableIn (tgt := 543) hx hb dL_law_33 (by rw [c17]; decide) (by rw [c17]; decide) (by rw [c17]; rfl) (by decide) ?_
                                  refine lv_aload_n hx hb dL_law_543 rfl (lv_at hl 1 rfl) ?_
                                  refine lv_aload_n hx hb dL_law_544 rfl (lv_at hl 0 rfl) ?_
                                  refine lv_iload_n hx hb dL_law_545 rfl (lv_at hl 3 rfl) ?_
                                  refine lv_iconst (v := 1) hx hb dL_law_546 (by decide) ?_
                                  refine lv_iadd hx hb dL_law_547 ?_
                                  obtain ⟨b103, h⟩ := h
                                  refine va_sld hx hb hX hbl hbA hH.2 b103 dL_law_548 ?_
                                  refine lv_aload_n hx hb dL_law_549 rfl (lv_at hl 0 rfl) ?_
                                  refine lv_iload_n hx hb dL_law_550 rfl (lv_at hl 3 rfl) ?_
                                  refine lv_iconst (v := 2) hx hb dL_law_551 (by decide) ?_
                                  refine lv_iadd hx hb dL_law_552 ?_
                                  obtain ⟨b104, h⟩ := h
                                  refine va_sld hx hb hX hbl hbA hH.2 b104 dL_law_553 ?_
                                  refine xVi (Wf := (fun z => Wd ad cy z y)) (n := 2) (P := 0) (ci := 6) (As := [.int (xs (i + 1).toNatClampNeg), .int (xs (i + 2).toNatClampNeg)]) (rest := []) B hH hO (kX6_way l hO.1 (xs (i + 1).toNatClampNeg) (xs (i + 2).toNatClampNeg) _ x y h) rfl rfl wk2_197 wk2_198 wk2_199 wk1_1 wk2_200 (by decide +kernel) rfl ⟨rfl, rfl⟩ ⟨Nat.le_of_ble_eq_true rfl, Nat.le_of_ble_eq_true rfl⟩ ⟨Nat.le_of_ble_eq_true rfl, Nat.le_of_ble_eq_true rfl⟩ hl.1 rfl (Nat.le_of_ble_eq_true rfl) dL_law_554 (fun r105 x105 H locs h hH => ?_)
                                  obtain ⟨h, hz105⟩ := h
                                  replace hH : Hd D (fun q : Nat => s.heap.size ≤ q) (Wd ad cy x105 y) s H locs := hH
                                  refine lv_aload_n hx hb dL_law_557 rfl (lv_at hl 2 rfl) ?_
                                  refine lv_aload_n hx hb dL_law_558 rfl (lv_at hl 0 rfl) ?_
                                  refine lv_iload_n hx hb dL_law_559 rfl (lv_at hl 3 rfl) ?_
                                  refine lv_iconst (v := 1) hx hb dL_law_560 (by decide) ?_
                                  refine lv_iadd hx hb dL_law_561 ?_
                                  refine va_sld hx hb hX hbl hbA hH.2 b103 dL_law_562 ?_
                                  refine lv_aload_n hx hb dL_law_563 rfl (lv_at hl 0 rfl) ?_
                                  refine lv_iload_n hx hb dL_law_564 rfl (lv_at hl 3 rfl) ?_
                                  refine lv_iconst (v := 2) hx hb dL_law_565 (by decide) ?_
                                  refine lv_iadd hx hb dL_law_566 ?_
                                  refine va_sld hx hb hX hbl hbA hH.2 b104 dL_law_567 ?_
                                  refine xVi (Wf := (fun z => Wd ad cy x105 z)) (n := 2) (P := 35) (ci := 7) (As := [.int (xs (i + 1).toNatClampNeg), .int (xs (i + 2).toNatClampNeg)]) (rest := [.int r105]) B hH hO (kX7_way l hO.1 (xs (i + 1).toNatClampNeg) (xs (i + 2).toNatClampNeg) _ x105 y h) rfl rfl wk4_31 wk4_32 wk4_33 wk1_8 wk4_34 (by decide +kernel) rfl ⟨rfl, rfl⟩ ⟨Nat.le_of_ble_eq_true rfl, Nat.le_of_ble_eq_true rfl⟩ ⟨Nat.le_of_ble_eq_true rfl, Nat.le_of_ble_eq_true rfl⟩ hl.1 rfl (Nat.le_of_ble_eq_true rfl) dL_law_568 (fun r106 y106 H locs h hH => ?_)
                                  obtain ⟨h, hz106⟩ := h
                                  replace hH : Hd D (fun q : Nat => s.heap.size ≤ q) (Wd ad cy x105 y106) s H locs := hH
                                  refine lv_icmp_eq (tgt := 846) hx hb dL_law_571 (by decide) (fun c107 => ?_) (fun c107 => ?_)
                                  · replace h := h.1 c107
                                    obtain ⟨v3_108, e108⟩ : ∃ z : Int32, z = i + 6 := ⟨_, rfl⟩
                                    replace h := h v3_108 e108
                                    refine lv_iinc (v := v3_108) (lv' := [(3, .int v3_108), (0, .ref b), (1, .ref (ad 0)), (2, .ref (ad 35))]) hx hb dL_law_846 hl (k := 3) rfl (by rw [e108]; first | rfl | done) (by decide) rfl (fun ls hl => ?_)
                                    refine lv_goto (tgt := 18) hx hb dL_law_849 (by decide) ?_
                                    exact ih v3_108 x105 y106 _ _ _ hH (lv_sub hl [1, 2, 3, 0] rfl) h
                                  · replace h := h.2 c107
                                    refine lv_iconst (v := 0) hx hb dL_law_574 (by decide) ?_
                                    exact False.elim h
                                · by_cases c18 : w3 = 14
                                  · replace h := h.2.2.2.2.2.2.2.2.2.2.2.2.2.2.1 c18
                                    refine lv_tableIn (tgt := 576) hx hb dL_law_33 (by rw [c18]; decide) (by rw [c18]; decide) (by rw [c18]; rfl) (by decide) ?_
                                    refine lv_aload_n hx hb dL_law_576 rfl (lv_at hl 1 rfl) ?_
                                    refine lv_aload_n hx hb dL_law_577 rfl (lv_at hl 0 rfl) ?_
                                    refine lv_iload_n hx hb dL_law_578 rfl (lv_at hl 3 rfl) ?_
                                    refine lv_iconst (v := 1) hx hb dL_law_579 (by decide) ?_
                                    refine lv_iadd hx hb dL_law_580 ?_
                                    obtain ⟨b109, h⟩ := h
                                    refine va_sld hx hb hX hbl hbA hH.2 b109 dL_law_581 ?_
                                    refine lv_aload_n hx hb dL_law_582 rfl (lv_at hl 0 rfl) ?_
                                    refine lv_iload_n hx hb dL_law_583 rfl (lv_at hl 3 rfl) ?_
                                    refine lv_iconst (v := 2) hx hb dL_law_584 (by decide) ?_
                                    refine lv_iadd hx hb dL_law_585 ?_
                                    obtain ⟨b110, h⟩ := h
                                    refine va_sld hx hb hX hbl hbA hH.2 b110 dL_law_586 ?_
                                    refine xVi (Wf := (fun z => Wd ad cy z y)) (n := 2) (P := 0) (ci := 6) (As := [.int (xs (i + 1).toNatClampNeg), .int (xs (i + 2).toNatClampNeg)]) (rest := []) B hH hO (kX6_crate l hO.1 (xs (i + 1).toNatClampNeg) (xs (i + 2).toNatClampNeg) _ x y h) rfl rfl wk2_201 wk2_202 wk2_203 wk1_1 wk2_204 (by decide +kernel) rfl ⟨rfl, rfl⟩ ⟨Nat.le_of_ble_eq_true rfl, Nat.le_of_ble_eq_true rfl⟩ ⟨Nat.le_of_ble_eq_true rfl, Nat.le_of_ble_eq_true rfl⟩ hl.1 rfl (Nat.le_of_ble_eq_true rfl) dL_law_587 (fun r111 x111 H locs h hH => ?_)
                                    replace hH : Hd D (fun q : Nat => s.heap.size ≤ q) (Wd ad cy x111 y) s H locs := hH
                                    refine lv_aload_n hx hb dL_law_590 rfl (lv_at hl 2 rfl) ?_
                                    refine lv_aload_n hx hb dL_law_591 rfl (lv_at hl 0 rfl) ?_
                                    refine lv_iload_n hx hb dL_law_592 rfl (lv_at hl 3 rfl) ?_
                                    refine lv_iconst (v := 1) hx hb dL_law_593 (by decide) ?_
                                    refine lv_iadd hx hb dL_law_594 ?_
                                    refine va_sld hx hb hX hbl hbA hH.2 b109 dL_law_595 ?_
                                    refine lv_aload_n hx hb dL_law_596 rfl (lv_at hl 0 rfl) ?_
                                    refine lv_iload_n hx hb dL_law_597 rfl (lv_at hl 3 rfl) ?_
                                    refine lv_iconst (v := 2) hx hb dL_law_598 (by decide) ?_
                                    refine lv_iadd hx hb dL_law_599 ?_
                                    refine va_sld hx hb hX hbl hbA hH.2 b110 dL_law_600 ?_
                                    refine xVi (Wf := (fun z => Wd ad cy x111 z)) (n := 2) (P := 35) (ci := 7) (As := [.int (xs (i + 1).toNatClampNeg), .int (xs (i + 2).toNatClampNeg)]) (rest := [.int r111]) B hH hO (kX7_crate l hO.1 (xs (i + 1).toNatClampNeg) (xs (i + 2).toNatClampNeg) _ x111 y h) rfl rfl wk4_35 wk4_36 wk4_37 wk1_8 wk4_38 (by decide +kernel) rfl ⟨rfl, rfl⟩ ⟨Nat.le_of_ble_eq_true rfl, Nat.le_of_ble_eq_true rfl⟩ ⟨Nat.le_of_ble_eq_true rfl, Nat.le_of_ble_eq_true rfl⟩ hl.1 rfl (Nat.le_of_ble_eq_true rfl) dL_law_601 (fun r112 y112 H locs h hH => ?_)
                                    replace hH : Hd D (fun q : Nat => s.heap.size ≤ q) (Wd ad cy x111 y112) s H locs := hH
                                    refine lv_icmp_eq (tgt := 846) hx hb dL_law_604 (by decide) (fun c113 => ?_) (fun c113 => ?_)
                                    · replace h := h.1 c113
                                      obtain ⟨v3_114, e114⟩ : ∃ z : Int32, z = i + 6 := ⟨_, rfl⟩
                                      replace h := h v3_114 e114
                                      refine lv_iinc (v := v3_114) (lv' := [(3, .int v3_114), (0, .ref b), (1, .ref (ad 0)), (2, .ref (ad 35))]) hx hb dL_law_846 hl (k := 3) rfl (by rw [e114]; first | rfl | done) (by decide) rfl (fun ls hl => ?_)
                                      refine lv_goto (tgt := 18) hx hb dL_law_849 (by decide) ?_
                                      exact ih v3_114 x111 y112 _ _ _ hH (lv_sub hl [1, 2, 3, 0] rfl) h
                                    · replace h := h.2 c113
                                      refine lv_iconst (v := 0) hx hb dL_law_607 (by decide) ?_
                                      exact False.elim h
                                  · by_cases c19 : w3 = 15
                                    · replace h := h.2.2.2.2.2.2.2.2.2.2.2.2.2.2.2.1 c19
                                      refine lv_tableIn (tgt := 609) hx hb dL_law_33 (by rw [c19]; decide) (by rw [c19]; decide) (by rw [c19]; rfl) (by decide) ?_
                                      refine lv_aload_n hx hb dL_law_609 rfl (lv_at hl 1 rfl) ?_
                                      refine lv_aload_n hx hb dL_law_610 rfl (lv_at hl 0 rfl) ?_
                                      refine lv_iload_n hx hb dL_law_611 rfl (lv_at hl 3 rfl) ?_
                                      refine lv_iconst (v := 1) hx hb dL_law_612 (by decide) ?_
                                      refine lv_iadd hx hb dL_law_613 ?_
                                      obtain ⟨b115, h⟩ := h
                                      refine va_sld hx hb hX hbl hbA hH.2 b115 dL_law_614 ?_
                                      refine xVi (Wf := (fun z => Wd ad cy z y)) (n := 1) (P := 0) (ci := 6) (As := [.int (xs (i + 1).toNatClampNeg)]) (rest := []) B hH hO (kX6_meeting l hO.1 (xs (i + 1).toNatClampNeg) _ x y h) rfl rfl wk2_205 wk2_206 wk2_207 wk1_1 wk2_208 (by decide +kernel) rfl ⟨rfl, rfl⟩ ⟨Nat.le_of_ble_eq_true rfl, Nat.le_of_ble_eq_true rfl⟩ ⟨Nat.le_of_ble_eq_true rfl, Nat.le_of_ble_eq_true rfl⟩ hl.1 rfl (Nat.le_of_ble_eq_true rfl) dL_law_615 (fun r116 x116 H locs h hH => ?_)
                                      replace hH : Hd D (fun q : Nat => s.heap.size ≤ q) (Wd ad cy x116 y) s H locs := hH
                                      refine lv_aload_n hx hb dL_law_618 rfl (lv_at hl 2 rfl) ?_
                                      refine lv_aload_n hx hb dL_law_619 rfl (lv_at hl 0 rfl) ?_
                                      refine lv_iload_n hx hb dL_law_620 rfl (lv_at hl 3 rfl) ?_
                                      refine lv_iconst (v := 1) hx hb dL_law_621 (by decide) ?_
                                      refine lv_iadd hx hb dL_law_622 ?_
                                      refine va_sld hx hb hX hbl hbA hH.2 b115 dL_law_623 ?_
                                      refine xVi (Wf := (fun z => Wd ad cy x116 z)) (n := 1) (P := 35) (ci := 7) (As := [.int (xs (i + 1).toNatClampNeg)]) (rest := [.int r116]) B hH hO (kX7_meeting l hO.1 (xs (i + 1).toNatClampNeg) _ x116 y h) rfl rfl wk4_39 wk4_40 wk4_41 wk1_8 wk4_42 (by decide +kernel) rfl ⟨rfl, rfl⟩ ⟨Nat.le_of_ble_eq_true rfl, Nat.le_of_ble_eq_true rfl⟩ ⟨Nat.le_of_ble_eq_true rfl, Nat.le_of_ble_eq_true rfl⟩ hl.1 rfl (Nat.le_of_ble_eq_true rfl) dL_law_624 (fun r117 y117 H locs h hH => ?_)
                                      replace hH : Hd D (fun q : Nat => s.heap.size ≤ q) (Wd ad cy x116 y117) s H locs := hH
                                      refine lv_icmp_eq (tgt := 846) hx hb dL_law_627 (by decide) (fun c118 => ?_) (fun c118 => ?_)
                                      · replace h := h.1 c118
                                        obtain ⟨v3_119, e119⟩ : ∃ z : Int32, z = i + 6 := ⟨_, rfl⟩
                                        replace h := h v3_119 e119
                                        refine lv_iinc (v := v3_119) (lv' := [(3, .int v3_119), (0, .ref b), (1, .ref (ad 0)), (2, .ref (ad 35))]) hx hb dL_law_846 hl (k := 3) rfl (by rw [e119]; first | rfl | done) (by decide) rfl (fun ls hl => ?_)
                                        refine lv_goto (tgt := 18) hx hb dL_law_849 (by decide) ?_
                                        exact ih v3_119 x116 y117 _ _ _ hH (lv_sub hl [1, 2, 3, 0] rfl) h
                                      · replace h := h.2 c118
                                        refine lv_iconst (v := 0) hx hb dL_law_630 (by decide) ?_
                                        exact False.elim h
                                    · by_cases c20 : w3 = 16
                                      · replace h := h.2.2.2.2.2.2.2.2.2.2.2.2.2.2.2.2.1 c20
                                        refine lv_tableIn (tgt := 632) hx hb dL_law_33 (by rw [c20]; decide) (by rw [c20]; decide) (by rw [c20]; rfl) (by decide) ?_
                                        refine lv_aload_n hx hb dL_law_632 rfl (lv_at hl 1 rfl) ?_
                                        refine lv_aload_n hx hb dL_law_633 rfl (lv_at hl 0 rfl) ?_
                                        refine lv_iload_n hx hb dL_law_634 rfl (lv_at hl 3 rfl) ?_
                                        refine lv_iconst (v := 1) hx hb dL_law_635 (by decide) ?_
                                        refine lv_iadd hx hb dL_law_636 ?_
                                        obtain ⟨b120, h⟩ := h
                                        refine va_sld hx hb hX hbl hbA hH.2 b120 dL_law_637 ?_
                                        refine lv_aload_n hx hb dL_law_638 rfl (lv_at hl 0 rfl) ?_
                                        refine lv_iload_n hx hb dL_law_639 rfl (lv_at hl 3 rfl) ?_
                                        refine lv_iconst (v := 2) hx hb dL_law_640 (by decide) ?_
                                        refine lv_iadd hx hb dL_law_641 ?_
                                        obtain ⟨b121, h⟩ := h
                                        refine va_sld hx hb hX hbl hbA hH.2 b121 dL_law_642 ?_
                                        refine lv_aload_n hx hb dL_law_643 rfl (lv_at hl 0 rfl) ?_
                                        refine lv_iload_n hx hb dL_law_644 rfl (lv_at hl 3 rfl) ?_
                                        refine lv_iconst (v := 3) hx hb dL_law_645 (by decide) ?_
                                        refine lv_iadd hx hb dL_law_646 ?_
                                        obtain ⟨b122, h⟩ := h
                                        refine va_sld hx hb hX hbl hbA hH.2 b122 dL_law_647 ?_
                                        refine xVi (Wf := (fun z => Wd ad cy z y)) (n := 3) (P := 0) (ci := 6) (As := [.int (xs (i + 1).toNatClampNeg), .int (xs (i + 2).toNatClampNeg), .int (xs (i + 3).toNatClampNeg)]) (rest := []) B hH hO (kX6_where l hO.1 (xs (i + 1).toNatClampNeg) (xs (i + 2).toNatClampNeg) (xs (i + 3).toNatClampNeg) _ x y h) rfl rfl wk2_209 wk2_210 wk2_211 wk1_1 wk2_212 (by decide +kernel) rfl ⟨rfl, rfl⟩ ⟨Nat.le_of_ble_eq_true rfl, Nat.le_of_ble_eq_true rfl⟩ ⟨Nat.le_of_ble_eq_true rfl, Nat.le_of_ble_eq_true rfl⟩ hl.1 rfl (Nat.le_of_ble_eq_true rfl) dL_law_648 (fun r123 x123 H locs h hH => ?_)
                                        replace hH : Hd D (fun q : Nat => s.heap.size ≤ q) (Wd ad cy x123 y) s H locs := hH
                                        refine lv_aload_n hx hb dL_law_651 rfl (lv_at hl 2 rfl) ?_
                                        refine lv_aload_n hx hb dL_law_652 rfl (lv_at hl 0 rfl) ?_
                                        refine lv_iload_n hx hb dL_law_653 rfl (lv_at hl 3 rfl) ?_
                                        refine lv_iconst (v := 1) hx hb dL_law_654 (by decide) ?_
                                        refine lv_iadd hx hb dL_law_655 ?_
                                        refine va_sld hx hb hX hbl hbA hH.2 b120 dL_law_656 ?_
                                        refine lv_aload_n hx hb dL_law_657 rfl (lv_at hl 0 rfl) ?_
                                        refine lv_iload_n hx hb dL_law_658 rfl (lv_at hl 3 rfl) ?_
                                        refine lv_iconst (v := 2) hx hb dL_law_659 (by decide) ?_
                                        refine lv_iadd hx hb dL_law_660 ?_
                                        refine va_sld hx hb hX hbl hbA hH.2 b121 dL_law_661 ?_
                                        refine lv_aload_n hx hb dL_law_662 rfl (lv_at hl 0 rfl) ?_
                                        refine lv_iload_n hx hb dL_law_663 rfl (lv_at hl 3 rfl) ?_
                                        refine lv_iconst (v := 3) hx hb dL_law_664 (by decide) ?_
                                        refine lv_iadd hx hb dL_law_665 ?_
                                        refine va_sld hx hb hX hbl hbA hH.2 b122 dL_law_666 ?_
                                        refine xVi (Wf := (fun z => Wd ad cy x123 z)) (n := 3) (P := 35) (ci := 7) (As := [.int (xs (i + 1).toNatClampNeg), .int (xs (i + 2).toNatClampNeg), .int (xs (i + 3).toNatClampNeg)]) (rest := [.int r123]) B hH hO (kX7_where l hO.1 (xs (i + 1).toNatClampNeg) (xs (i + 2).toNatClampNeg) (xs (i + 3).toNatClampNeg) _ x123 y h) rfl rfl wk4_43 wk4_44 wk4_45 wk1_8 wk4_46 (by decide +kernel) rfl ⟨rfl, rfl⟩ ⟨Nat.le_of_ble_eq_true rfl, Nat.le_of_ble_eq_true rfl⟩ ⟨Nat.le_of_ble_eq_true rfl, Nat.le_of_ble_eq_true rfl⟩ hl.1 rfl (Nat.le_of_ble_eq_true rfl) dL_law_667 (fun r124 y124 H locs h hH => ?_)
                                        replace hH : Hd D (fun q : Nat => s.heap.size ≤ q) (Wd ad cy x123 y124) s H locs := hH
                                        refine lv_icmp_eq (tgt := 846) hx hb dL_law_670 (by decide) (fun c125 => ?_) (fun c125 => ?_)
                                        · replace h := h.1 c125
                                          obtain ⟨v3_126, e126⟩ : ∃ z : Int32, z = i + 6 := ⟨_, rfl⟩
                                          replace h := h v3_126 e126
                                          refine lv_iinc (v := v3_126) (lv' := [(3, .int v3_126), (0, .ref b), (1, .ref (ad 0)), (2, .ref (ad 35))]) hx hb dL_law_846 hl (k := 3) rfl (by rw [e126]; first | rfl | done) (by decide) rfl (fun ls hl => ?_)
                                          refine lv_goto (tgt := 18) hx hb dL_law_849 (by decide) ?_
                                          exact ih v3_126 x123 y124 _ _ _ hH (lv_sub hl [1, 2, 3, 0] rfl) h
                                        · replace h := h.2 c125
                                          refine lv_iconst (v := 0) hx hb dL_law_673 (by decide) ?_
                                          exact False.elim h
                                      · by_cases c21 : w3 = 17
                                        · replace h := h.2.2.2.2.2.2.2.2.2.2.2.2.2.2.2.2.2.1 c21
                                          refine lv_tableIn (tgt := 675) hx hb dL_law_33 (by rw [c21]; decide) (by rw [c21]; decide) (by rw [c21]; rfl) (by decide) ?_
                                          refine lv_aload_n hx hb dL_law_675 rfl (lv_at hl 1 rfl) ?_
                                          refine xVi (Wf := (fun z => Wd ad cy z y)) (n := 0) (P := 0) (ci := 6) (As := []) (rest := []) B hH hO (kX6_row l hO.1 _ x y h) rfl rfl wk2_222 wk2_223 wk2_224 wk1_1 wk2_225 (by decide +kernel) rfl ⟨rfl, rfl⟩ ⟨Nat.le_of_ble_eq_true rfl, Nat.le_of_ble_eq_true rfl⟩ ⟨Nat.le_of_ble_eq_true rfl, Nat.le_of_ble_eq_true rfl⟩ hl.1 rfl (Nat.le_of_ble_eq_true rfl) dL_law_676 (fun r127 x127 H locs h hH => ?_)
                                          replace hH : Hd D (fun q : Nat => s.heap.size ≤ q) (Wd ad cy x127 y) s H locs := hH
                                          refine lv_aload_n hx hb dL_law_679 rfl (lv_at hl 2 rfl) ?_
                                          refine xVi (Wf := (fun z => Wd ad cy x127 z)) (n := 0) (P := 35) (ci := 7) (As := []) (rest := [.int r127]) B hH hO (kX7_row l hO.1 _ x127 y h) rfl rfl wk4_48 wk4_49 wk4_50 wk1_8 wk4_51 (by decide +kernel) rfl ⟨rfl, rfl⟩ ⟨Nat.le_of_ble_eq_true rfl, Nat.le_of_ble_eq_true rfl⟩ ⟨Nat.le_of_ble_eq_true rfl, Nat.le_of_ble_eq_true rfl⟩ hl.1 rfl (Nat.le_of_ble_eq_true rfl) dL_law_680 (fun r128 y128 H locs h hH => ?_)
                                          replace hH : Hd D (fun q : Nat => s.heap.size ≤ q) (Wd ad cy x127 y128) s H locs := hH
                                          refine lv_icmp_eq (tgt := 846) hx hb dL_law_683 (by decide) (fun c129 => ?_) (fun c129 => ?_)
                                          · replace h := h.1 c129
                                            obtain ⟨v3_130, e130⟩ : ∃ z : Int32, z = i + 6 := ⟨_, rfl⟩
                                            replace h := h v3_130 e130
                                            refine lv_iinc (v := v3_130) (lv' := [(3, .int v3_130), (0, .ref b), (1, .ref (ad 0)), (2, .ref (ad 35))]) hx hb dL_law_846 hl (k := 3) rfl (by rw [e130]; first | rfl | done) (by decide) rfl (fun ls hl => ?_)
                                            refine lv_goto (tgt := 18) hx hb dL_law_849 (by decide) ?_
                                            exact ih v3_130 x127 y128 _ _ _ hH (lv_sub hl [1, 2, 3, 0] rfl) h
                                          · replace h := h.2 c129
                                            refine lv_iconst (v := 0) hx hb dL_law_686 (by decide) ?_
                                            exact False.elim h
                                        · by_cases c22 : w3 = 18
                                          · replace h := h.2.2.2.2.2.2.2.2.2.2.2.2.2.2.2.2.2.2.1 c22
                                            refine lv_tableIn (tgt := 688) hx hb dL_law_33 (by rw [c22]; decide) (by rw [c22]; decide) (by rw [c22]; rfl) (by decide) ?_
                                            refine lv_aload_n hx hb dL_law_688 rfl (lv_at hl 1 rfl) ?_
                                            refine lv_aload_n hx hb dL_law_689 rfl (lv_at hl 0 rfl) ?_
                                            refine lv_iload_n hx hb dL_law_690 rfl (lv_at hl 3 rfl) ?_
                                            refine lv_iconst (v := 1) hx hb dL_law_691 (by decide) ?_
                                            refine lv_iadd hx hb dL_law_692 ?_
                                            obtain ⟨b131, h⟩ := h
                                            refine va_sld hx hb hX hbl hbA hH.2 b131 dL_law_693 ?_
                                            refine xVi (Wf := (fun z => Wd ad cy z y)) (n := 1) (P := 0) (ci := 6) (As := [.int (xs (i + 1).toNatClampNeg)]) (rest := []) B hH hO (kX6_at l hO.1 (xs (i + 1).toNatClampNeg) _ x y h) rfl rfl wk2_230 wk2_231 wk2_232 wk1_1 wk2_233 (by decide +kernel) rfl ⟨rfl, rfl⟩ ⟨Nat.le_of_ble_eq_true rfl, Nat.le_of_ble_eq_true rfl⟩ ⟨Nat.le_of_ble_eq_true rfl, Nat.le_of_ble_eq_true rfl⟩ hl.1 rfl (Nat.le_of_ble_eq_true rfl) dL_law_694 (fun r132 x132 H locs h hH => ?_)
                                            replace hH : Hd D (fun q : Nat => s.heap.size ≤ q) (Wd ad cy x132 y) s H locs := hH
                                            refine lv_aload_n hx hb dL_law_697 rfl (lv_at hl 2 rfl) ?_
                                            refine lv_aload_n hx hb dL_law_698 rfl (lv_at hl 0 rfl) ?_
                                            refine lv_iload_n hx hb dL_law_699 rfl (lv_at hl 3 rfl) ?_
                                            refine lv_iconst (v := 1) hx hb dL_law_700 (by decide) ?_
                                            refine lv_iadd hx hb dL_law_701 ?_
                                            refine va_sld hx hb hX hbl hbA hH.2 b131 dL_law_702 ?_
                                            refine xVi (Wf := (fun z => Wd ad cy x132 z)) (n := 1) (P := 35) (ci := 7) (As := [.int (xs (i + 1).toNatClampNeg)]) (rest := [.int r132]) B hH hO (kX7_at l hO.1 (xs (i + 1).toNatClampNeg) _ x132 y h) rfl rfl wk4_52 wk4_53 wk4_54 wk1_8 wk4_55 (by decide +kernel) rfl ⟨rfl, rfl⟩ ⟨Nat.le_of_ble_eq_true rfl, Nat.le_of_ble_eq_true rfl⟩ ⟨Nat.le_of_ble_eq_true rfl, Nat.le_of_ble_eq_true rfl⟩ hl.1 rfl (Nat.le_of_ble_eq_true rfl) dL_law_703 (fun r133 y133 H locs h hH => ?_)
                                            replace hH : Hd D (fun q : Nat => s.heap.size ≤ q) (Wd ad cy x132 y133) s H locs := hH
                                            refine lv_icmp_eq (tgt := 846) hx hb dL_law_706 (by decide) (fun c134 => ?_) (fun c134 => ?_)
                                            · replace h := h.1 c134
                                              obtain ⟨v3_135, e135⟩ : ∃ z : Int32, z = i + 6 := ⟨_, rfl⟩
                                              replace h := h v3_135 e135
                                              refine lv_iinc (v := v3_135) (lv' := [(3, .int v3_135), (0, .ref b), (1, .ref (ad 0)), (2, .ref (ad 35))]) hx hb dL_law_846 hl (k := 3) rfl (by rw [e135]; first | rfl | done) (by decide) rfl (fun ls hl => ?_)
                                              refine lv_goto (tgt := 18) hx hb dL_law_849 (by decide) ?_
                                              exact ih v3_135 x132 y133 _ _ _ hH (lv_sub hl [1, 2, 3, 0] rfl) h
                                            · replace h := h.2 c134
                                              refine lv_iconst (v := 0) hx hb dL_law_709 (by decide) ?_
                                              exact False.elim h
                                          · by_cases c23 : w3 = 19
                                            · replace h := h.2.2.2.2.2.2.2.2.2.2.2.2.2.2.2.2.2.2.2.1 c23
                                              refine lv_tableIn (tgt := 711) hx hb dL_law_33 (by rw [c23]; decide) (by rw [c23]; decide) (by rw [c23]; rfl) (by decide) ?_
                                              refine lv_aload_n hx hb dL_law_711 rfl (lv_at hl 1 rfl) ?_
                                              refine lv_aload_n hx hb dL_law_712 rfl (lv_at hl 0 rfl) ?_
                                              refine lv_iload_n hx hb dL_law_713 rfl (lv_at hl 3 rfl) ?_
                                              refine lv_iconst (v := 1) hx hb dL_law_714 (by decide) ?_
                                              refine lv_iadd hx hb dL_law_715 ?_
                                              obtain ⟨b136, h⟩ := h
                                              refine va_sld hx hb hX hbl hbA hH.2 b136 dL_law_716 ?_
                                              refine lv_aload_n hx hb dL_law_717 rfl (lv_at hl 0 rfl) ?_
                                              refine lv_iload_n hx hb dL_law_718 rfl (lv_at hl 3 rfl) ?_
                                              refine lv_iconst (v := 2) hx hb dL_law_719 (by decide) ?_
                                              refine lv_iadd hx hb dL_law_720 ?_
                                              obtain ⟨b137, h⟩ := h
                                              refine va_sld hx hb hX hbl hbA hH.2 b137 dL_law_721 ?_
                                              refine xVi (Wf := (fun z => Wd ad cy z y)) (n := 2) (P := 0) (ci := 6) (As := [.int (xs (i + 1).toNatClampNeg), .int (xs (i + 2).toNatClampNeg)]) (rest := []) B hH hO (kX6_misplace l hO.1 (xs (i + 1).toNatClampNeg) (xs (i + 2).toNatClampNeg) _ x y h) rfl rfl wk2_239 wk3_0 wk3_1 wk1_1 wk3_2 (by decide +kernel) rfl ⟨rfl, rfl⟩ ⟨Nat.le_of_ble_eq_true rfl, Nat.le_of_ble_eq_true rfl⟩ ⟨Nat.le_of_ble_eq_true rfl, Nat.le_of_ble_eq_true rfl⟩ hl.1 rfl (Nat.le_of_ble_eq_true rfl) dL_law_722 (fun r138 x138 H locs h hH => ?_)
                                              obtain ⟨h, hz138⟩ := h
                                              replace hH : Hd D (fun q : Nat => s.heap.size ≤ q) (Wd ad cy x138 y) s H locs := hH
                                              refine lv_aload_n hx hb dL_law_725 rfl (lv_at hl 2 rfl) ?_
                                              refine lv_aload_n hx hb dL_law_726 rfl (lv_at hl 0 rfl) ?_
                                              refine lv_iload_n hx hb dL_law_727 rfl (lv_at hl 3 rfl) ?_
                                              refine lv_iconst (v := 1) hx hb dL_law_728 (by decide) ?_
                                              refine lv_iadd hx hb dL_law_729 ?_
                                              refine va_sld hx hb hX hbl hbA hH.2 b136 dL_law_730 ?_
                                              refine lv_aload_n hx hb dL_law_731 rfl (lv_at hl 0 rfl) ?_
                                              refine lv_iload_n hx hb dL_law_732 rfl (lv_at hl 3 rfl) ?_
                                              refine lv_iconst (v := 2) hx hb dL_law_733 (by decide) ?_
                                              refine lv_iadd hx hb dL_law_734 ?_
                                              refine va_sld hx hb hX hbl hbA hH.2 b137 dL_law_735 ?_
                                              refine xVi (Wf := (fun z => Wd ad cy x138 z)) (n := 2) (P := 35) (ci := 7) (As := [.int (xs (i + 1).toNatClampNeg), .int (xs (i + 2).toNatClampNeg)]) (rest := [.int r138]) B hH hO (kX7_misplace l hO.1 (xs (i + 1).toNatClampNeg) (xs (i + 2).toNatClampNeg) _ x138 y h) rfl rfl wk4_56 wk4_57 wk4_58 wk1_8 wk4_59 (by decide +kernel) rfl ⟨rfl, rfl⟩ ⟨Nat.le_of_ble_eq_true rfl, Nat.le_of_ble_eq_true rfl⟩ ⟨Nat.le_of_ble_eq_true rfl, Nat.le_of_ble_eq_true rfl⟩ hl.1 rfl (Nat.le_of_ble_eq_true rfl) dL_law_736 (fun r139 y139 H locs h hH => ?_)
                                              obtain ⟨h, hz139⟩ := h
                                              replace hH : Hd D (fun q : Nat => s.heap.size ≤ q) (Wd ad cy x138 y139) s H locs := hH
                                              refine lv_icmp_eq (tgt := 846) hx hb dL_law_739 (by decide) (fun c140 => ?_) (fun c140 => ?_)
                                              · replace h := h.1 c140
                                                obtain ⟨v3_141, e141⟩ : ∃ z : Int32, z = i + 6 := ⟨_, rfl⟩
                                                replace h := h v3_141 e141
                                                refine lv_iinc (v := v3_141) (lv' := [(3, .int v3_141), (0, .ref b), (1, .ref (ad 0)), (2, .ref (ad 35))]) hx hb dL_law_846 hl (k := 3) rfl (by rw [e141]; first | rfl | done) (by decide) rfl (fun ls hl => ?_)
                                                refine lv_goto (tgt := 18) hx hb dL_law_849 (by decide) ?_
                                                exact ih v3_141 x138 y139 _ _ _ hH (lv_sub hl [1, 2, 3, 0] rfl) h
                                              · replace h := h.2 c140
                                                refine lv_iconst (v := 0) hx hb dL_law_742 (by decide) ?_
                                                exact False.elim h
                                            · by_cases c24 : w3 = 20
                                              · replace h := h.2.2.2.2.2.2.2.2.2.2.2.2.2.2.2.2.2.2.2.2.1 c24
                                                refine lv_tableIn (tgt := 744) hx hb dL_law_33 (by rw [c24]; decide) (by rw [c24]; decide) (by rw [c24]; rfl) (by decide) ?_
                                                refine lv_aload_n hx hb dL_law_744 rfl (lv_at hl 1 rfl) ?_
                                                refine xVi (Wf := (fun z => Wd ad cy z y)) (n := 0) (P := 0) (ci := 6) (As := []) (rest := []) B hH hO (kX6_takenOut l hO.1 _ x y h) rfl rfl wk3_7 wk3_8 wk3_9 wk1_1 wk3_10 (by decide +kernel) rfl ⟨rfl, rfl⟩ ⟨Nat.le_of_ble_eq_true rfl, Nat.le_of_ble_eq_true rfl⟩ ⟨Nat.le_of_ble_eq_true rfl, Nat.le_of_ble_eq_true rfl⟩ hl.1 rfl (Nat.le_of_ble_eq_true rfl) dL_law_745 (fun r142 x142 H locs h hH => ?_)
                                                replace hH : Hd D (fun q : Nat => s.heap.size ≤ q) (Wd ad cy x142 y) s H locs := hH
                                                refine lv_aload_n hx hb dL_law_748 rfl (lv_at hl 2 rfl) ?_
                                                refine xVi (Wf := (fun z => Wd ad cy x142 z)) (n := 0) (P := 35) (ci := 7) (As := []) (rest := [.int r142]) B hH hO (kX7_takenOut l hO.1 _ x142 y h) rfl rfl wk4_60 wk4_61 wk4_62 wk1_8 wk4_63 (by decide +kernel) rfl ⟨rfl, rfl⟩ ⟨Nat.le_of_ble_eq_true rfl, Nat.le_of_ble_eq_true rfl⟩ ⟨Nat.le_of_ble_eq_true rfl, Nat.le_of_ble_eq_true rfl⟩ hl.1 rfl (Nat.le_of_ble_eq_true rfl) dL_law_749 (fun r143 y143 H locs h hH => ?_)
                                                replace hH : Hd D (fun q : Nat => s.heap.size ≤ q) (Wd ad cy x142 y143) s H locs := hH
                                                refine lv_icmp_eq (tgt := 846) hx hb dL_law_752 (by decide) (fun c144 => ?_) (fun c144 => ?_)
                                                · replace h := h.1 c144
                                                  obtain ⟨v3_145, e145⟩ : ∃ z : Int32, z = i + 6 := ⟨_, rfl⟩
                                                  replace h := h v3_145 e145
                                                  refine lv_iinc (v := v3_145) (lv' := [(3, .int v3_145), (0, .ref b), (1, .ref (ad 0)), (2, .ref (ad 35))]) hx hb dL_law_846 hl (k := 3) rfl (by rw [e145]; first | rfl | done) (by decide) rfl (fun ls hl => ?_)
                                                  refine lv_goto (tgt := 18) hx hb dL_law_849 (by decide) ?_
                                                  exact ih v3_145 x142 y143 _ _ _ hH (lv_sub hl [1, 2, 3, 0] rfl) h
                                                · replace h := h.2 c144
                                                  refine lv_iconst (v := 0) hx hb dL_law_755 (by decide) ?_
                                                  exact False.elim h
                                              · by_cases c25 : w3 = 21
                                                · replace h := h.2.2.2.2.2.2.2.2.2.2.2.2.2.2.2.2.2.2.2.2.2.1 c25
                                                  refine lv_tableIn (tgt := 757) hx hb dL_law_33 (by rw [c25]; decide) (by rw [c25]; decide) (by rw [c25]; rfl) (by decide) ?_
                                                  refine lv_aload_n hx hb dL_law_757 rfl (lv_at hl 1 rfl) ?_
                                                  refine lv_aload_n hx hb dL_law_758 rfl (lv_at hl 0 rfl) ?_
                                                  refine lv_iload_n hx hb dL_law_759 rfl (lv_at hl 3 rfl) ?_
                                                  refine lv_iconst (v := 1) hx hb dL_law_760 (by decide) ?_
                                                  refine lv_iadd hx hb dL_law_761 ?_
                                                  obtain ⟨b146, h⟩ := h
                                                  refine va_sld hx hb hX hbl hbA hH.2 b146 dL_law_762 ?_
                                                  refine xVi (Wf := (fun z => Wd ad cy z y)) (n := 1) (P := 0) (ci := 6) (As := [.int (xs (i + 1).toNatClampNeg)]) (rest := []) B hH hO (kX6_isOut l hO.1 (xs (i + 1).toNatClampNeg) _ x y h) rfl rfl wk3_25 wk3_26 wk3_27 wk1_1 wk3_28 (by decide +kernel) rfl ⟨rfl, rfl⟩ ⟨Nat.le_of_ble_eq_true rfl, Nat.le_of_ble_eq_true rfl⟩ ⟨Nat.le_of_ble_eq_true rfl, Nat.le_of_ble_eq_true rfl⟩ hl.1 rfl (Nat.le_of_ble_eq_true rfl) dL_law_763 (fun r147 x147 H locs h hH => ?_)
                                                  replace hH : Hd D (fun q : Nat => s.heap.size ≤ q) (Wd ad cy x147 y) s H locs := hH
                                                  refine lv_aload_n hx hb dL_law_766 rfl (lv_at hl 2 rfl) ?_
                                                  refine lv_aload_n hx hb dL_law_767 rfl (lv_at hl 0 rfl) ?_
                                                  refine lv_iload_n hx hb dL_law_768 rfl (lv_at hl 3 rfl) ?_
                                                  refine lv_iconst (v := 1) hx hb dL_law_769 (by decide) ?_
                                                  refine lv_iadd hx hb dL_law_770 ?_
                                                  refine va_sld hx hb hX hbl hbA hH.2 b146 dL_law_771 ?_
                                                  refine xVi (Wf := (fun z => Wd ad cy x147 z)) (n := 1) (P := 35) (ci := 7) (As := [.int (xs (i + 1).toNatClampNeg)]) (rest := [.int r147]) B hH hO (kX7_isOut l hO.1 (xs (i + 1).toNatClampNeg) _ x147 y h) rfl rfl wk4_68 wk4_69 wk4_70 wk1_8 wk4_71 (by decide +kernel) rfl ⟨rfl, rfl⟩ ⟨Nat.le_of_ble_eq_true rfl, Nat.le_of_ble_eq_true rfl⟩ ⟨Nat.le_of_ble_eq_true rfl, Nat.le_of_ble_eq_true rfl⟩ hl.1 rfl (Nat.le_of_ble_eq_true rfl) dL_law_772 (fun r148 y148 H locs h hH => ?_)
                                                  replace hH : Hd D (fun q : Nat => s.heap.size ≤ q) (Wd ad cy x147 y148) s H locs := hH
                                                  refine lv_icmp_eq (tgt := 846) hx hb dL_law_775 (by decide) (fun c149 => ?_) (fun c149 => ?_)
                                                  · replace h := h.1 c149
                                                    obtain ⟨v3_150, e150⟩ : ∃ z : Int32, z = i + 6 := ⟨_, rfl⟩
                                                    replace h := h v3_150 e150
                                                    refine lv_iinc (v := v3_150) (lv' := [(3, .int v3_150), (0, .ref b), (1, .ref (ad 0)), (2, .ref (ad 35))]) hx hb dL_law_846 hl (k := 3) rfl (by rw [e150]; first | rfl | done) (by decide) rfl (fun ls hl => ?_)
                                                    refine lv_goto (tgt := 18) hx hb dL_law_849 (by decide) ?_
                                                    exact ih v3_150 x147 y148 _ _ _ hH (lv_sub hl [1, 2, 3, 0] rfl) h
                                                  · replace h := h.2 c149
                                                    refine lv_iconst (v := 0) hx hb dL_law_778 (by decide) ?_
                                                    exact False.elim h
                                                · by_cases c26 : w3 = 22
                                                  · replace h := h.2.2.2.2.2.2.2.2.2.2.2.2.2.2.2.2.2.2.2.2.2.2.1 c26
                                                    refine lv_tableIn (tgt := 780) hx hb dL_law_33 (by rw [c26]; decide) (by rw [c26]; decide) (by rw [c26]; rfl) (by decide) ?_
                                                    refine lv_aload_n hx hb dL_law_780 rfl (lv_at hl 1 rfl) ?_
                                                    refine lv_aload_n hx hb dL_law_781 rfl (lv_at hl 0 rfl) ?_
                                                    refine lv_iload_n hx hb dL_law_782 rfl (lv_at hl 3 rfl) ?_
                                                    refine lv_iconst (v := 1) hx hb dL_law_783 (by decide) ?_
                                                    refine lv_iadd hx hb dL_law_784 ?_
                                                    obtain ⟨b151, h⟩ := h
                                                    refine va_sld hx hb hX hbl hbA hH.2 b151 dL_law_785 ?_
                                                    refine lv_aload_n hx hb dL_law_786 rfl (lv_at hl 0 rfl) ?_
                                                    refine lv_iload_n hx hb dL_law_787 rfl (lv_at hl 3 rfl) ?_
                                                    refine lv_iconst (v := 2) hx hb dL_law_788 (by decide) ?_
                                                    refine lv_iadd hx hb dL_law_789 ?_
                                                    obtain ⟨b152, h⟩ := h
                                                    refine va_sld hx hb hX hbl hbA hH.2 b152 dL_law_790 ?_
                                                    refine lv_aload_n hx hb dL_law_791 rfl (lv_at hl 0 rfl) ?_
                                                    refine lv_iload_n hx hb dL_law_792 rfl (lv_at hl 3 rfl) ?_
                                                    refine lv_iconst (v := 3) hx hb dL_law_793 (by decide) ?_
                                                    refine lv_iadd hx hb dL_law_794 ?_
                                                    obtain ⟨b153, h⟩ := h
                                                    refine va_sld hx hb hX hbl hbA hH.2 b153 dL_law_795 ?_
                                                    refine xVi (Wf := (fun z => Wd ad cy z y)) (n := 3) (P := 0) (ci := 6) (As := [.int (xs (i + 1).toNatClampNeg), .int (xs (i + 2).toNatClampNeg), .int (xs (i + 3).toNatClampNeg)]) (rest := []) B hH hO (kX6_drawn l hO.1 (xs (i + 1).toNatClampNeg) (xs (i + 2).toNatClampNeg) (xs (i + 3).toNatClampNeg) _ x y h) rfl rfl wk3_29 wk3_30 wk3_31 wk1_1 wk3_32 (by decide +kernel) rfl ⟨rfl, rfl⟩ ⟨Nat.le_of_ble_eq_true rfl, Nat.le_of_ble_eq_true rfl⟩ ⟨Nat.le_of_ble_eq_true rfl, Nat.le_of_ble_eq_true rfl⟩ hl.1 rfl (Nat.le_of_ble_eq_true rfl) dL_law_796 (fun r154 x154 H locs h hH => ?_)
                                                    replace hH : Hd D (fun q : Nat => s.heap.size ≤ q) (Wd ad cy x154 y) s H locs := hH
                                                    refine lv_aload_n hx hb dL_law_799 rfl (lv_at hl 2 rfl) ?_
                                                    refine lv_aload_n hx hb dL_law_800 rfl (lv_at hl 0 rfl) ?_
                                                    refine lv_iload_n hx hb dL_law_801 rfl (lv_at hl 3 rfl) ?_
                                                    refine lv_iconst (v := 1) hx hb dL_law_802 (by decide) ?_
                                                    refine lv_iadd hx hb dL_law_803 ?_
                                                    refine va_sld hx hb hX hbl hbA hH.2 b151 dL_law_804 ?_
                                                    refine lv_aload_n hx hb dL_law_805 rfl (lv_at hl 0 rfl) ?_
                                                    refine lv_iload_n hx hb dL_law_806 rfl (lv_at hl 3 rfl) ?_
                                                    refine lv_iconst (v := 2) hx hb dL_law_807 (by decide) ?_
                                                    refine lv_iadd hx hb dL_law_808 ?_
                                                    refine va_sld hx hb hX hbl hbA hH.2 b152 dL_law_809 ?_
                                                    refine lv_aload_n hx hb dL_law_810 rfl (lv_at hl 0 rfl) ?_
                                                    refine lv_iload_n hx hb dL_law_811 rfl (lv_at hl 3 rfl) ?_
                                                    refine lv_iconst (v := 3) hx hb dL_law_812 (by decide) ?_
                                                    refine lv_iadd hx hb dL_law_813 ?_
                                                    refine va_sld hx hb hX hbl hbA hH.2 b153 dL_law_814 ?_
                                                    refine xVi (Wf := (fun z => Wd ad cy x154 z)) (n := 3) (P := 35) (ci := 7) (As := [.int (xs (i + 1).toNatClampNeg), .int (xs (i + 2).toNatClampNeg), .int (xs (i + 3).toNatClampNeg)]) (rest := [.int r154]) B hH hO (kX7_drawn l hO.1 (xs (i + 1).toNatClampNeg) (xs (i + 2).toNatClampNeg) (xs (i + 3).toNatClampNeg) _ x154 y h) rfl rfl wk4_72 wk4_73 wk4_74 wk1_8 wk4_75 (by decide +kernel) rfl ⟨rfl, rfl⟩ ⟨Nat.le_of_ble_eq_true rfl, Nat.le_of_ble_eq_true rfl⟩ ⟨Nat.le_of_ble_eq_true rfl, Nat.le_of_ble_eq_true rfl⟩ hl.1 rfl (Nat.le_of_ble_eq_true rfl) dL_law_815 (fun r155 y155 H locs h hH => ?_)
                                                    replace hH : Hd D (fun q : Nat => s.heap.size ≤ q) (Wd ad cy x154 y155) s H locs := hH
                                                    refine lv_icmp_eq (tgt := 846) hx hb dL_law_818 (by decide) (fun c156 => ?_) (fun c156 => ?_)
                                                    · replace h := h.1 c156
                                                      obtain ⟨v3_157, e157⟩ : ∃ z : Int32, z = i + 6 := ⟨_, rfl⟩
                                                      replace h := h v3_157 e157
                                                      refine lv_iinc (v := v3_157) (lv' := [(3, .int v3_157), (0, .ref b), (1, .ref (ad 0)), (2, .ref (ad 35))]) hx hb dL_law_846 hl (k := 3) rfl (by rw [e157]; first | rfl | done) (by decide) rfl (fun ls hl => ?_)
                                                      refine lv_goto (tgt := 18) hx hb dL_law_849 (by decide) ?_
                                                      exact ih v3_157 x154 y155 _ _ _ hH (lv_sub hl [1, 2, 3, 0] rfl) h
                                                    · replace h := h.2 c156
                                                      refine lv_iconst (v := 0) hx hb dL_law_821 (by decide) ?_
                                                      exact False.elim h
                                                  · by_cases c27 : w3 = 23
                                                    · replace h := h.2.2.2.2.2.2.2.2.2.2.2.2.2.2.2.2.2.2.2.2.2.2.2.1 c27
                                                      refine lv_tableIn (tgt := 823) hx hb dL_law_33 (by rw [c27]; decide) (by rw [c27]; decide) (by rw [c27]; rfl) (by decide) ?_
                                                      refine lv_aload_n hx hb dL_law_823 rfl (lv_at hl 1 rfl) ?_
                                                      refine lv_aload_n hx hb dL_law_824 rfl (lv_at hl 0 rfl) ?_
                                                      refine lv_iload_n hx hb dL_law_825 rfl (lv_at hl 3 rfl) ?_
                                                      refine lv_iconst (v := 1) hx hb dL_law_826 (by decide) ?_
                                                      refine lv_iadd hx hb dL_law_827 ?_
                                                      obtain ⟨b158, h⟩ := h
                                                      refine va_sld hx hb hX hbl hbA hH.2 b158 dL_law_828 ?_
                                                      refine xVi (Wf := (fun z => Wd ad cy z y)) (n := 1) (P := 0) (ci := 6) (As := [.int (xs (i + 1).toNatClampNeg)]) (rest := []) B hH hO (kX6_about l hO.1 (xs (i + 1).toNatClampNeg) _ x y h) rfl rfl wk3_38 wk3_39 wk3_40 wk1_1 wk3_41 (by decide +kernel) rfl ⟨rfl, rfl⟩ ⟨Nat.le_of_ble_eq_true rfl, Nat.le_of_ble_eq_true rfl⟩ ⟨Nat.le_of_ble_eq_true rfl, Nat.le_of_ble_eq_true rfl⟩ hl.1 rfl (Nat.le_of_ble_eq_true rfl) dL_law_829 (fun r159 x159 H locs h hH => ?_)
                                                      replace hH : Hd D (fun q : Nat => s.heap.size ≤ q) (Wd ad cy x159 y) s H locs := hH
                                                      refine lv_aload_n hx hb dL_law_832 rfl (lv_at hl 2 rfl) ?_
                                                      refine lv_aload_n hx hb dL_law_833 rfl (lv_at hl 0 rfl) ?_
                                                      refine lv_iload_n hx hb dL_law_834 rfl (lv_at hl 3 rfl) ?_
                                                      refine lv_iconst (v := 1) hx hb dL_law_835 (by decide) ?_
                                                      refine lv_iadd hx hb dL_law_836 ?_
                                                      refine va_sld hx hb hX hbl hbA hH.2 b158 dL_law_837 ?_
                                                      refine xVi (Wf := (fun z => Wd ad cy x159 z)) (n := 1) (P := 35) (ci := 7) (As := [.int (xs (i + 1).toNatClampNeg)]) (rest := [.int r159]) B hH hO (kX7_about l hO.1 (xs (i + 1).toNatClampNeg) _ x159 y h) rfl rfl wk4_77 wk4_78 wk4_79 wk1_8 wk4_80 (by decide +kernel) rfl ⟨rfl, rfl⟩ ⟨Nat.le_of_ble_eq_true rfl, Nat.le_of_ble_eq_true rfl⟩ ⟨Nat.le_of_ble_eq_true rfl, Nat.le_of_ble_eq_true rfl⟩ hl.1 rfl (Nat.le_of_ble_eq_true rfl) dL_law_838 (fun r160 y160 H locs h hH => ?_)
                                                      replace hH : Hd D (fun q : Nat => s.heap.size ≤ q) (Wd ad cy x159 y160) s H locs := hH
                                                      refine lv_icmp_eq (tgt := 846) hx hb dL_law_841 (by decide) (fun c161 => ?_) (fun c161 => ?_)
                                                      · replace h := h.1 c161
                                                        obtain ⟨v3_162, e162⟩ : ∃ z : Int32, z = i + 6 := ⟨_, rfl⟩
                                                        replace h := h v3_162 e162
                                                        refine lv_iinc (v := v3_162) (lv' := [(3, .int v3_162), (0, .ref b), (1, .ref (ad 0)), (2, .ref (ad 35))]) hx hb dL_law_846 hl (k := 3) rfl (by rw [e162]; first | rfl | done) (by decide) rfl (fun ls hl => ?_)
                                                        refine lv_goto (tgt := 18) hx hb dL_law_849 (by decide) ?_
                                                        exact ih v3_162 x159 y160 _ _ _ hH (lv_sub hl [1, 2, 3, 0] rfl) h
                                                      · replace h := h.2 c161
                                                        refine lv_iconst (v := 0) hx hb dL_law_844 (by decide) ?_
                                                        exact False.elim h
                                                    · replace h := h.2.2.2.2.2.2.2.2.2.2.2.2.2.2.2.2.2.2.2.2.2.2.2.2 c4 c5 c6 c7 c8 c9 c10 c11 c12 c13 c14 c15 c16 c17 c18 c19 c20 c21 c22 c23 c24 c25 c26 c27
                                                      refine lv_tableOut (tgt := 846) hx hb dL_law_33 (tb_out (N := 24) (by decide) (by decide) (fun j hj => by match j, hj with | 0, _ => exact c4 | 1, _ => exact c5 | 2, _ => exact c6 | 3, _ => exact c7 | 4, _ => exact c8 | 5, _ => exact c9 | 6, _ => exact c10 | 7, _ => exact c11 | 8, _ => exact c12 | 9, _ => exact c13 | 10, _ => exact c14 | 11, _ => exact c15 | 12, _ => exact c16 | 13, _ => exact c17 | 14, _ => exact c18 | 15, _ => exact c19 | 16, _ => exact c20 | 17, _ => exact c21 | 18, _ => exact c22 | 19, _ => exact c23 | 20, _ => exact c24 | 21, _ => exact c25 | 22, _ => exact c26 | 23, _ => exact c27 | j + 24, hj => exact absurd hj (by omega))) (by decide) ?_
                                                      obtain ⟨v3_163, e163⟩ : ∃ z : Int32, z = i + 6 := ⟨_, rfl⟩
                                                      replace h := h v3_163 e163
                                                      refine lv_iinc (v := v3_163) (lv' := [(3, .int v3_163), (0, .ref b), (1, .ref (ad 0)), (2, .ref (ad 35))]) hx hb dL_law_846 hl (k := 3) rfl (by rw [e163]; first | rfl | done) (by decide) rfl (fun ls hl => ?_)
                                                      refine lv_goto (tgt := 18) hx hb dL_law_849 (by decide) ?_
                                                      exact ih v3_163 x y _ _ _ hH (lv_sub hl [1, 2, 3, 0] rfl) h
