/-! what the tables say of arrays of arrays, the machine's step that makes two rows, and arrays of a known kind -/
def AO2 (t : FieldType) (U : State) : Prop := ∃ (comp cA : ClassId) (k : Class), U.vm.findClass (FieldType.array t).toString = some comp ∧ U.vm.classes[cA]? = some k ∧ k.kind = .array comp (.array t) ∧ U.vm.findClass ("[" ++ (FieldType.array t).toString) = some cA
theorem AO2.moved {t : FieldType} {u U : State} (hvm : u.vm.Alike U.vm) (h : AO2 t u) : AO2 t U := by
  obtain ⟨comp, cA, k, h1, h2, h3, h4⟩ := h
  obtain ⟨k', hk', he⟩ := hvm.2.2 _ _ h2
  exact ⟨comp, cA, k', by rw [hvm.findClass]; exact h1, hk', by rw [he]; exact h3, by rw [hvm.findClass]; exact h4⟩
theorem AO2.of {t : FieldType} {args : Array Value} {s : State} (h : (Cond.arrayOver (.array t)).before args s = true) : AO2 t s := by
  simp only [Cond.before, Cond.holds, Cond.value, beq_iff_eq] at h
  cases hc : s.vm.findClass (FieldType.array t).toString with
  | none => simp [hc] at h
  | some comp =>
    simp only [hc, Option.bind_some, Option.bind_eq_some_iff, Option.map_eq_some_iff] at h
    obtain ⟨c, hi, k, hk, hb⟩ := h
    obtain ⟨hlt, hp, -⟩ := Array.findIdx?_eq_some_iff_getElem.mp hi
    have hkk : s.vm.classes[c] = k := (Array.getElem?_eq_some_iff.mp hk).2
    rw [hkk] at hp
    cases hkind : k.kind with
    | array component ty =>
      rw [hkind] at hb hp
      simp at hb hp
      exact ⟨comp, c, k, hc, hk, by rw [hkind, hp, hb.1], hb.2⟩
    | _ => rw [hkind] at hb; simp at hb
theorem mg_setTop (s : State) (f : JFrame) (cA comp : ClassId) (K : Nat) (v : Value) : mg_s2 (s.setTop f) cA comp K v = (mg_s2 s cA comp K v).setTop f := by
  simp only [mg_s2, mg_s1, mg_s0, State.heap_setTop, State.pushCell_setTop, State.setCell_setTop]
section MADE
variable {p : Program} {l : Launch} {e : Env} {R : Room} {s : State} {m : MethodId} {args : Array Value} {below : List Frame} {meth : Method} {c : Code} {T : State} {locs : List Loc} {cells slots : Nat}
theorem mg_stand (X : Stand p l e R s m args below meth c T locs cells slots) (cA comp : ClassId) (K : Nat) (v : Value) : Stand p l e R s m args below meth c (mg_s2 T cA comp K v) locs (cells + 3) (slots + (2 + 2 * K)) := by
  obtain ⟨a0, b0, c0, d0⟩ := mg_f1 T cA comp K v
  obtain ⟨a1, b1, c1, d1⟩ := mg_f2 T cA comp K v
  have X1 := (X.pushed (mg_o cA)).pushed (mg_i comp K v)
  have h1 : ((mg_s0 T cA).pushCell (mg_i comp K v)).heap[T.heap.size]? = some (mg_o cA) := by rw [State.heap_pushCell_of_lt (h := (show T.heap.size < (mg_s0 T cA).heap.size by rw [b0]; omega))]; exact c0
  have X2 := (X1.stored h1 0 (.ref (T.heap.size + 1))).pushed (mg_i comp K v)
  have h2 : ((mg_s1 T cA comp K v).pushCell (mg_i comp K v)).heap[T.heap.size]? = some (mg_o1 cA T.heap.size) := by rw [State.heap_pushCell_of_lt (h := (show T.heap.size < (mg_s1 T cA comp K v).heap.size by rw [b1]; omega))]; exact c1
  have X3 := X2.stored h2 1 (.ref (T.heap.size + 2))
  rw [List.append_assoc] at X3
  have X4 := X3.dropFresh (fun x hx => by
    have hx : x = ⟨T.heap.size, 0⟩ ∨ x = ⟨T.heap.size, 1⟩ := by simpa using hx
    rcases hx with rfl | rfl
    · exact X.heapGrown
    · exact X.heapGrown)
  have e1 : cells + 1 + 1 + 1 = cells + 3 := by omega
  have e2 : slots + (mg_o cA).slots.size + (mg_i comp K v).slots.size + (mg_i comp K v).slots.size = slots + (2 + 2 * K) := by simp [mg_o, mg_i]; omega
  rw [e1, e2] at X4
  exact X4
theorem mg_step (X : Stand p l e R s m args below meth c T locs cells slots) (hexec : p.tables.exec = Jvm.exec) {own : String} {index : Nat} {ty : FieldType}
    (hown : s.vm.findClass own = some m.cls) (hclink : (Cond.classLink own index ("[" ++ (FieldType.array ty).toString)).before args s = true)
    (hover : AO2 ty s) (harr : (Cond.arrayClass ty).before args s = true)
    {g : JFrame} (hg : g.method = m) (hdg : decode c.code g.pc = .ok (.multianewarray index 2, 4)) {k : Int32} {K : Nat} (hK : k.toNatClampNeg = K) {rest : List Value} (hstack : g.stack = .int k :: .int 2 :: rest)
    (hk : ¬ k < 0) (hb2 : K * componentBytes ty ≤ 536870912) (hb3 : K ≤ 536870912) (hdf : fits ty (defaultValue ty) = true) (hdd : (defaultValue ty).isDefault = true)
    (hcells : cells + 3 ≤ R.cells) (hslots : slots + (2 + 2 * K) ≤ R.slots) :
    ∃ (vm₁ : Vm) (cA comp : ClassId), s.WarmedH vm₁ ∧ s.vm.findClass ("[" ++ (FieldType.array ty).toString) = some cA ∧ s.vm.findClass (FieldType.array ty).toString = some comp ∧
      Stand p l e R s m args below meth c (mg_s2 (T.setVm vm₁) cA comp K (defaultValue ty)) locs (cells + 3) (slots + (2 + 2 * K)) ∧
      ∀ target, Steps p.tables e below ((mg_s2 (T.setVm vm₁) cA comp K (defaultValue ty)).setTop { g with pc := g.pc + 4, stack := .ref T.heap.size :: rest }) target → Steps p.tables e below (T.setTop g) target := by
  subst hg
  have hpl : e.platform.magicAccessors = ({} : Platform).magicAccessors := by rw [X.admits.platform]
  obtain ⟨comp, cA, kA, hcomp, hkA, hkindA, hnameA⟩ := hover
  obtain ⟨comp', kC, cc, hcomp', hkC, hkindC⟩ := Cond.arrayClass_spec harr
  have ecomp : comp' = comp := Option.some.inj (hcomp'.symm.trans hcomp)
  subst ecomp
  obtain ⟨c0, hfc0, hcl⟩ := Cond.classLink_spec hown hclink e.platform hpl
  cases hnameA.symm.trans hfc0
  obtain ⟨hg₁, hwarm₁, hready₁⟩ := State.classEntry (e := e) X.warmed hcl
  generalize T.vm.noted g.method.cls index (.cls cA) = vm₁ at hg₁ hwarm₁ hready₁
  have hal : s.vm.Alike vm₁ := hwarm₁.alike
  obtain ⟨kA₁, hkA₁, heA⟩ := hal.2.2 _ _ hkA
  obtain ⟨kC₁, hkC₁, heC⟩ := hal.2.2 _ _ hkC
  have hkindA₁ : kA₁.kind = .array comp' (.array ty) := by rw [heA]; exact hkindA
  have hkindC₁ : kC₁.kind = .array cc ty := by rw [heC]; exact hkindC
  have XF := mg_stand (X.noted hwarm₁) cA comp' K (defaultValue ty)
  obtain ⟨hr1, hr2⟩ := X.roomAbove hcells hslots
  refine ⟨vm₁, cA, comp', hwarm₁, hnameA, hcomp, XF, fun target hrest => ?_⟩
  have hl1 : ¬ 2 > e.platform.arrayLengthLimit := by rw [Launch.admits_arrayLengthLimit X.admits]; omega
  have hh1 : ¬ 2 * componentBytes (.array ty) > e.platform.maxHeapBytes := by
    rw [Launch.admits_maxHeapBytes X.admits]; show ¬ 2 * 4 > 536870912; omega
  have hl2 : ¬ K > e.platform.arrayLengthLimit := by rw [Launch.admits_arrayLengthLimit X.admits]; omega
  have hh2 : ¬ K * componentBytes ty > e.platform.maxHeapBytes := by rw [Launch.admits_maxHeapBytes X.admits]; omega
  jvm_step X.here [hexec, hdg]
  simp only [multianewarray.sem, wp_bind', Jvm.W.resolveClassAt_links (State.method?_setTop g X.here.top) hg₁]
  rw [Jvm.W.popN, if_neg (by decide)]
  refine ⟨g, State.topJava?_setTop' (s := T.setVm vm₁) g X.here.top, [.int 2, .int k], rest, rfl, hstack, ?_⟩
  simp only [List.mapM_cons, List.mapM_nil, wp_bind', wp_pure']
  refine mg_two (k := kA₁) (kc := kC₁) (comp := comp') (cc := cc) (ty := ty) hK hk hkA₁ hkindA₁ hkC₁ hkindC₁ hl1 hh1 hl2 hh2 hdf hdd (by show T.heap.size + 3 ≤ _; omega) (by show T.slotsUsed + 2 + _ ≤ _; omega) (fun d' acts' => ?_)
  have eS : ((T.setTop g).setVm vm₁).setTop { g with stack := rest } = (T.setVm vm₁).setTop { g with stack := rest } := by
    show ((T.setVm vm₁).setTop g).setTop _ = _
    rw [State.setTop_setTop]
  rw [eS, mg_setTop]
  simp only [wp_bind', Jvm.W.mark, Jvm.W.pushRef, State.topJava?_setTop' _ XF.here.top, Option.some.injEq, exists_eq_left', State.setTop_setTop, State.heap_setTop]
  intro acts
  simp [jvm, XF.here.top]
  exact hrest
end MADE
theorem va_D_three {A : Nat → Prop} {h : Nat} (hA : ∀ q, h ≤ q → A q) (e0 e1 e2 : va_E) : va_D A [(h, e0), (h + 1, e1), (h + 2, e2)] := by
  refine ⟨fun i j p q hi hj e => ?_, fun k q hk => ?_⟩
  · rcases i with _ | _ | _ | i <;> rcases j with _ | _ | _ | j <;> simp at hi hj <;> subst hi <;> subst hj <;> simp at e ⊢
  · rcases k with _ | _ | _ | k <;> simp at hk <;> subst hk <;> exact hA _ (by simp)
theorem va_D_grow {A : Nat → Prop} {D : va_G} {cl : List vw_C} {ws w2 : va_W} {H : Heap} (hP : va_P D cl ws H) (hD : va_D A ws) (hD2 : va_D A w2) (h : ∀ (k : Nat) (q : Nat × va_E), w2[k]? = some q → H.size ≤ q.1) : va_D A (ws ++ w2) :=
  va_D.app hD hD2 (fun i j x y hx hy hxy => by
    have h1 := (hP i x hx).lt
    have h2 := h j y hy
    omega)
section NEWS
variable {p : Program} {l : Launch} {e : Env} {R : Room} {s : State} {m : MethodId} {args : Array Value} {below : List Frame} {meth : Method} {c : Code} {H : Heap} {locs : List Loc} {cells slots : Nat} {Q : State → Prop}
variable {cc : ByteArray} {pc index : Nat} {ls : Array Slot} {rest : List Value} {D : va_G} {cy : Nat → ClassId} {A : Nat → Prop} {ws : va_W} {own : String}

theorem nw_int (hx : p.tables.exec = Jvm.exec) (hb : c.code = cc) (hts : ∀ w ∈ WL, w.before args s = true) (hK : va_K D vwCl (tysOf cy) s) (hP : va_P D vwCl ws H) (hD : va_D A ws) (hS : va_S A s.heap H locs) (hA : ∀ q, s.heap.size ≤ q → A q) {n : Int32} {N : Nat} (hn : ¬ n < 0) (hN : n.toNatClampNeg = N) (hby : N * componentBytes .int ≤ 536870912) (hc : cells + 1 ≤ R.cells) (hs : slots + N ≤ R.slots) (d : decode cc pc = .ok (.newarray .int, 2))
    (kk : ∀ (q : Nat) (H1 : Heap), va_P D vwCl (ws ++ [(q, .inl (cy 0, N, .inl (fun _ => 0)))]) H1 → va_D A (ws ++ [(q, .inl (cy 0, N, .inl (fun _ => 0)))]) → va_S A s.heap H1 locs → W p l e R s m args below meth c H1 locs (cells + 1) (slots + N) Q (F0 m (pc + 2) ls (.ref q :: rest))) : W p l e R s m args below meth c H locs cells slots Q (F0 m pc ls (.int n :: rest)) := by
  refine va_newa (atype := .int) (ty := .int) (N' := N) (a0 := (N, .inl (fun _ => 0))) hx hb (hts _ wk1_33) rfl hK hP hD hS hA (fun _ => rfl) hn hN hby hc hs d (fun q cA H1 hK1 hP1 hD1 hS1 => ?_)
  have e1 : cA = cy 0 := Option.some.inj ((hK1.2 5 _ rfl).2.symm.trans (hK1.2 0 _ rfl).2)
  subst e1
  exact kk q H1 hP1 hD1 hS1
theorem nw_boolean (hx : p.tables.exec = Jvm.exec) (hb : c.code = cc) (hts : ∀ w ∈ WL, w.before args s = true) (hK : va_K D vwCl (tysOf cy) s) (hP : va_P D vwCl ws H) (hD : va_D A ws) (hS : va_S A s.heap H locs) (hA : ∀ q, s.heap.size ≤ q → A q) {n : Int32} {N : Nat} (hn : ¬ n < 0) (hN : n.toNatClampNeg = N) (hby : N * componentBytes .boolean ≤ 536870912) (hc : cells + 1 ≤ R.cells) (hs : slots + N ≤ R.slots) (d : decode cc pc = .ok (.newarray .boolean, 2))
    (kk : ∀ (q : Nat) (H1 : Heap), va_P D vwCl (ws ++ [(q, .inl (cy 1, N, .inl (fun _ => 0)))]) H1 → va_D A (ws ++ [(q, .inl (cy 1, N, .inl (fun _ => 0)))]) → va_S A s.heap H1 locs → W p l e R s m args below meth c H1 locs (cells + 1) (slots + N) Q (F0 m (pc + 2) ls (.ref q :: rest))) : W p l e R s m args below meth c H locs cells slots Q (F0 m pc ls (.int n :: rest)) := by
  refine va_newa (atype := .boolean) (ty := .boolean) (N' := N) (a0 := (N, .inl (fun _ => 0))) hx hb (hts _ wk1_235) rfl hK hP hD hS hA (fun _ => rfl) hn hN hby hc hs d (fun q cA H1 hK1 hP1 hD1 hS1 => ?_)
  have e1 : cA = cy 1 := Option.some.inj ((hK1.2 5 _ rfl).2.symm.trans (hK1.2 1 _ rfl).2)
  subst e1
  exact kk q H1 hP1 hD1 hS1
theorem mg_out (cA : ClassId) (h : Nat) : mg_o2 cA h = vp_cell cA (2, .inr (.inr (.inr (.inr (fun i => some (h + 1 + i)))))) := rfl
theorem nw2_int (hx : p.tables.exec = Jvm.exec) (hb : c.code = cc) (hown : s.vm.findClass own = some m.cls) (hts : ∀ w ∈ WL, w.before args s = true) (hcl : Cond.classLink own index ("[" ++ (FieldType.array .int).toString) ∈ WL) (hO : AO2 .int s) (hK : va_K D vwCl (tysOf cy) s) (hP : va_P D vwCl ws H) (hD : va_D A ws) (hS : va_S A s.heap H locs) (hA : ∀ q, s.heap.size ≤ q → A q) {n : Int32} {N : Nat} (hn : ¬ n < 0) (hN : n.toNatClampNeg = N) (hby : N * componentBytes .int ≤ 536870912) (hb3 : N ≤ 536870912) (hc : cells + 3 ≤ R.cells) (hs : slots + (2 + 2 * N) ≤ R.slots) (d : decode cc pc = .ok (.multianewarray index 2, 4))
    (kk : ∀ (q : Nat) (H1 : Heap), va_P D vwCl (ws ++ [(q, .inl (cy 3, 2, .inr (.inr (.inr (.inr (fun i => some (q + 1 + i))))))), (q + 1, .inl (cy 0, N, .inl (fun _ => 0))), (q + 2, .inl (cy 0, N, .inl (fun _ => 0)))]) H1 → va_D A (ws ++ [(q, .inl (cy 3, 2, .inr (.inr (.inr (.inr (fun i => some (q + 1 + i))))))), (q + 1, .inl (cy 0, N, .inl (fun _ => 0))), (q + 2, .inl (cy 0, N, .inl (fun _ => 0)))]) → va_S A s.heap H1 locs → W p l e R s m args below meth c H1 locs (cells + 3) (slots + (2 + 2 * N)) Q (F0 m (pc + 4) ls (.ref q :: rest))) : W p l e R s m args below meth c H locs cells slots Q (F0 m pc ls (.int n :: .int 2 :: rest)) := by
  intro T hT X
  obtain ⟨vm₁, cA, comp, hW, f1, f2, X', step⟩ := mg_step X hx hown (hts _ hcl) hO (hts _ wk1_33) (g := F0 m pc ls (.int n :: .int 2 :: rest)) rfl (by rw [hb]; exact d) hN rfl hn hby hb3 rfl rfl hc hs
  have e1 : cA = cy 3 := Option.some.inj (f1.symm.trans (hK.2 3 _ rfl).2)
  have e2 : comp = cy 0 := Option.some.inj (f2.symm.trans (hK.2 0 _ rfl).2)
  subst e1 e2
  have hTh : (T.setVm vm₁).heap = H := hT
  obtain ⟨g1, g2, g3, g4, g5⟩ := mg_f3 (T.setVm vm₁) (cy 3) (cy 0) N (defaultValue .int)
  rw [hTh] at g1 g2 g3 g4 g5
  have hi : mg_i (cy 0) N (defaultValue .int) = vp_cell (cy 0) (N, .inl (fun _ => 0)) := arrV_new _ _ _
  rw [hi] at g3 g4
  rw [mg_out] at g2
  generalize hF : mg_s2 (T.setVm vm₁) (cy 3) (cy 0) N (defaultValue .int) = F at X' step g1 g2 g3 g4 g5
  have hP0 : va_P D vwCl ws F.heap := hP.kept (fun k x hx => g5 x.1 ((hP k x hx).lt))
  obtain ⟨t, a1, b1⟩ := kk H.size F.heap (hP0.app (fun k x hx => by
    rcases k with _ | _ | _ | k <;> simp at hx <;> subst hx
    · exact g2
    · exact g3
    · exact g4)) (va_D_grow hP hD (va_D_three (fun q hq => hA q (Nat.le_trans hS.1 hq)) _ _ _) (fun k x hx => by
    rcases k with _ | _ | _ | k <;> simp at hx <;> subst hx <;> simp)) ⟨by rw [g1]; have := hS.1; omega, fun x h1 h2 => (g5 x (Nat.lt_of_lt_of_le h1 hS.1)).trans (hS.2.1 x h1 h2), hS.2.2⟩ F rfl X'
  refine ⟨t, step t ?_, b1⟩
  have e9 : T.heap.size = H.size := by rw [hT]
  rw [e9]
  exact a1
theorem nw2_long (hx : p.tables.exec = Jvm.exec) (hb : c.code = cc) (hown : s.vm.findClass own = some m.cls) (hts : ∀ w ∈ WL, w.before args s = true) (hcl : Cond.classLink own index ("[" ++ (FieldType.array .long).toString) ∈ WL) (hO : AO2 .long s) (hK : va_K D vwCl (tysOf cy) s) (hP : va_P D vwCl ws H) (hD : va_D A ws) (hS : va_S A s.heap H locs) (hA : ∀ q, s.heap.size ≤ q → A q) {n : Int32} {N : Nat} (hn : ¬ n < 0) (hN : n.toNatClampNeg = N) (hby : N * componentBytes .long ≤ 536870912) (hb3 : N ≤ 536870912) (hc : cells + 3 ≤ R.cells) (hs : slots + (2 + 2 * N) ≤ R.slots) (d : decode cc pc = .ok (.multianewarray index 2, 4))
    (kk : ∀ (q : Nat) (H1 : Heap), va_P D vwCl (ws ++ [(q, .inl (cy 4, 2, .inr (.inr (.inr (.inr (fun i => some (q + 1 + i))))))), (q + 1, .inl (cy 2, N, .inr (.inl (fun _ => 0)))), (q + 2, .inl (cy 2, N, .inr (.inl (fun _ => 0))))]) H1 → va_D A (ws ++ [(q, .inl (cy 4, 2, .inr (.inr (.inr (.inr (fun i => some (q + 1 + i))))))), (q + 1, .inl (cy 2, N, .inr (.inl (fun _ => 0)))), (q + 2, .inl (cy 2, N, .inr (.inl (fun _ => 0))))]) → va_S A s.heap H1 locs → W p l e R s m args below meth c H1 locs (cells + 3) (slots + (2 + 2 * N)) Q (F0 m (pc + 4) ls (.ref q :: rest))) : W p l e R s m args below meth c H locs cells slots Q (F0 m pc ls (.int n :: .int 2 :: rest)) := by
  intro T hT X
  obtain ⟨vm₁, cA, comp, hW, f1, f2, X', step⟩ := mg_step X hx hown (hts _ hcl) hO (hts _ wk1_108) (g := F0 m pc ls (.int n :: .int 2 :: rest)) rfl (by rw [hb]; exact d) hN rfl hn hby hb3 rfl rfl hc hs
  have e1 : cA = cy 4 := Option.some.inj (f1.symm.trans (hK.2 4 _ rfl).2)
  have e2 : comp = cy 2 := Option.some.inj (f2.symm.trans (hK.2 2 _ rfl).2)
  subst e1 e2
  have hTh : (T.setVm vm₁).heap = H := hT
  obtain ⟨g1, g2, g3, g4, g5⟩ := mg_f3 (T.setVm vm₁) (cy 4) (cy 2) N (defaultValue .long)
  rw [hTh] at g1 g2 g3 g4 g5
  have hi : mg_i (cy 2) N (defaultValue .long) = vp_cell (cy 2) (N, .inr (.inl (fun _ => 0))) := arrV_new _ _ _
  rw [hi] at g3 g4
  rw [mg_out] at g2
  generalize hF : mg_s2 (T.setVm vm₁) (cy 4) (cy 2) N (defaultValue .long) = F at X' step g1 g2 g3 g4 g5
  have hP0 : va_P D vwCl ws F.heap := hP.kept (fun k x hx => g5 x.1 ((hP k x hx).lt))
  obtain ⟨t, a1, b1⟩ := kk H.size F.heap (hP0.app (fun k x hx => by
    rcases k with _ | _ | _ | k <;> simp at hx <;> subst hx
    · exact g2
    · exact g3
    · exact g4)) (va_D_grow hP hD (va_D_three (fun q hq => hA q (Nat.le_trans hS.1 hq)) _ _ _) (fun k x hx => by
    rcases k with _ | _ | _ | k <;> simp at hx <;> subst hx <;> simp)) ⟨by rw [g1]; have := hS.1; omega, fun x h1 h2 => (g5 x (Nat.lt_of_lt_of_le h1 hS.1)).trans (hS.2.1 x h1 h2), hS.2.2⟩ F rfl X'
  refine ⟨t, step t ?_, b1⟩
  have e9 : T.heap.size = H.size := by rw [hT]
  rw [e9]
  exact a1
end NEWS
