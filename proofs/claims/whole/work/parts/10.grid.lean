/-! two rows made at once: 'new T[2][K]' -/
def mg_o (cA : ClassId) : Cell := { cls := cA, slots := Array.replicate 2 .null, vm := .none }
def mg_i (comp : ClassId) (K : Nat) (v : Value) : Cell := { cls := comp, slots := Array.replicate K v, vm := .none }
def mg_o1 (cA : ClassId) (h : Nat) : Cell := (mg_o cA).setSlot 0 (.ref (h + 1))
def mg_o2 (cA : ClassId) (h : Nat) : Cell := (mg_o1 cA h).setSlot 1 (.ref (h + 2))
def mg_s0 (s : State) (cA : ClassId) : State := s.pushCell (mg_o cA)
def mg_s1 (s : State) (cA comp : ClassId) (K : Nat) (v : Value) : State := ((mg_s0 s cA).pushCell (mg_i comp K v)).setCell s.heap.size (mg_o1 cA s.heap.size)
def mg_s2 (s : State) (cA comp : ClassId) (K : Nat) (v : Value) : State := ((mg_s1 s cA comp K v).pushCell (mg_i comp K v)).setCell s.heap.size (mg_o2 cA s.heap.size)
section GRID
variable {E : CtlPost} {e : Env} {d : Bool} {acts : List Action} {s : State}
theorem mg_new {c comp : ClassId} {k : Class} {ty : FieldType} {N : Nat} {v : Value} (hk : s.vm.classes[c]? = some k) (hkind : k.kind = .array comp ty) (hL : ¬ N > e.platform.arrayLengthLimit) (hB : ¬ N * componentBytes ty > e.platform.maxHeapBytes) (hf : fits ty v = true) (hd : v.isDefault = true) {Q : Addr → Pre}
    (h1 : s.heap.size < e.platform.maxCells) (h2 : s.slotsUsed + N ≤ e.platform.maxSlots) (hq : Q s.heap.size d acts (s.pushCell { cls := c, slots := Array.replicate N v, vm := .none })) : wp (Jvm.newArray c N v) Q E e d acts s := by
  have hall : ((Array.replicate N v).all (·.isDefault)) = true := by
    rw [Array.all_replicate]; split <;> simp [hd]
  have hda : allocActs (Array.replicate N v) s.heap.size acts = acts := by unfold allocActs; rw [if_pos hall]
  have hfits : ∀ i w, (Array.replicate N v)[i]? = some w → s.fitsSlot c .none i w = true := by
    intro i w hw
    rw [Array.getElem?_replicate] at hw
    split at hw
    · cases hw
      simp [State.fitsSlot, State.slotType?, hk, hkind, hf]
    · cases hw
  simp only [Jvm.newArray, Jvm.arrayFits, wp_bind', Jvm.W.ask, Jvm.W.ite, hL, if_false, wp_pure', Jvm.W.theClass, hk, hkind, hB, Jvm.W.alloc, Jvm.W.stop, Option.some.injEq, exists_eq_left', Array.size_replicate, hda]
  rw [if_neg (by omega)]
  exact ⟨h1, h2, hfits, hq⟩
theorem mg_one {comp cc : ClassId} {kc : Class} {ty : FieldType} {m : Int32} {K : Nat} (hK : m.toNatClampNeg = K) (hm : ¬ m < 0) (hkc : s.vm.classes[comp]? = some kc) (hkindc : kc.kind = .array cc ty) (hL : ¬ K > e.platform.arrayLengthLimit) (hB : ¬ K * componentBytes ty > e.platform.maxHeapBytes) (hf : fits ty (defaultValue ty) = true) (hd : (defaultValue ty).isDefault = true)
    (h1 : s.heap.size < e.platform.maxCells) (h2 : s.slotsUsed + K ≤ e.platform.maxSlots) {Q : Addr → Pre} (hq : Q s.heap.size d acts (s.pushCell (mg_i comp K (defaultValue ty)))) : wp (multianewarray.make comp [m]) Q E e d acts s := by
  subst hK
  rw [multianewarray.make]
  simp only [wp_bind', Jvm.W.ite, hm, if_false, wp_pure', Jvm.W.theClass, hkc, hkindc, Option.some.injEq, exists_eq_left']
  exact mg_new hkc hkindc hL hB hf hd h1 h2 hq
theorem mg_f1 (s : State) (cA comp : ClassId) (K : Nat) (v : Value) : (mg_s0 s cA).vm = s.vm ∧ (mg_s0 s cA).heap.size = s.heap.size + 1 ∧ (mg_s0 s cA).heap[s.heap.size]? = some (mg_o cA) ∧ (mg_s0 s cA).slotsUsed = s.slotsUsed + 2 := by
  refine ⟨rfl, by simp [mg_s0], by simp [mg_s0], by simp [mg_s0, mg_o]⟩
theorem mg_f2 (s : State) (cA comp : ClassId) (K : Nat) (v : Value) : (mg_s1 s cA comp K v).vm = s.vm ∧ (mg_s1 s cA comp K v).heap.size = s.heap.size + 2 ∧ (mg_s1 s cA comp K v).heap[s.heap.size]? = some (mg_o1 cA s.heap.size) ∧ (mg_s1 s cA comp K v).slotsUsed = s.slotsUsed + 2 + K := by
  obtain ⟨a, b, c, d⟩ := mg_f1 s cA comp K v
  have h : ((mg_s0 s cA).pushCell (mg_i comp K v)).heap[s.heap.size]? = some (mg_o cA) := by rw [State.heap_pushCell_of_lt (h := (show s.heap.size < (mg_s0 s cA).heap.size by rw [b]; omega))]; exact c
  refine ⟨by simp [mg_s1, a], ?_, State.heap_setCell_self h, ?_⟩
  · simp [mg_s1, State.setCell, b]
  · simp [mg_s1, d, mg_i]
theorem mg_f3 (s : State) (cA comp : ClassId) (K : Nat) (v : Value) : (mg_s2 s cA comp K v).heap.size = s.heap.size + 3 ∧ (mg_s2 s cA comp K v).heap[s.heap.size]? = some (mg_o2 cA s.heap.size) ∧ (mg_s2 s cA comp K v).heap[s.heap.size + 1]? = some (mg_i comp K v) ∧ (mg_s2 s cA comp K v).heap[s.heap.size + 2]? = some (mg_i comp K v) ∧ ∀ q, q < s.heap.size → (mg_s2 s cA comp K v).heap[q]? = s.heap[q]? := by
  obtain ⟨a0, b0, c0, d0⟩ := mg_f1 s cA comp K v
  obtain ⟨a, b, c, d⟩ := mg_f2 s cA comp K v
  have h : ((mg_s1 s cA comp K v).pushCell (mg_i comp K v)).heap[s.heap.size]? = some (mg_o1 cA s.heap.size) := by rw [State.heap_pushCell_of_lt (h := (show s.heap.size < (mg_s1 s cA comp K v).heap.size by rw [b]; omega))]; exact c
  refine ⟨?_, State.heap_setCell_self h, ?_, ?_, fun q hq => ?_⟩
  · simp [mg_s2, State.setCell, b]
  · show (((mg_s1 s cA comp K v).pushCell (mg_i comp K v)).setCell s.heap.size _).heap[s.heap.size + 1]? = _
    rw [State.heap_setCell_other (show s.heap.size ≠ s.heap.size + 1 by omega), State.heap_pushCell_of_lt (h := (show s.heap.size + 1 < (mg_s1 s cA comp K v).heap.size by rw [b]; omega))]
    show (((mg_s0 s cA).pushCell (mg_i comp K v)).setCell s.heap.size _).heap[s.heap.size + 1]? = _
    rw [State.heap_setCell_other (show s.heap.size ≠ s.heap.size + 1 by omega), ← b0]
    exact State.heap_pushCell_size _ _
  · show (((mg_s1 s cA comp K v).pushCell (mg_i comp K v)).setCell s.heap.size _).heap[s.heap.size + 2]? = _
    rw [State.heap_setCell_other (show s.heap.size ≠ s.heap.size + 2 by omega), ← b]
    exact State.heap_pushCell_size _ _
  · show (((mg_s1 s cA comp K v).pushCell (mg_i comp K v)).setCell s.heap.size _).heap[q]? = _
    rw [State.heap_setCell_other (show s.heap.size ≠ q by omega), State.heap_pushCell_of_lt (h := (show q < (mg_s1 s cA comp K v).heap.size by rw [b]; omega))]
    show (((mg_s0 s cA).pushCell (mg_i comp K v)).setCell s.heap.size _).heap[q]? = _
    rw [State.heap_setCell_other (show s.heap.size ≠ q by omega), State.heap_pushCell_of_lt (h := (show q < (mg_s0 s cA).heap.size by rw [b0]; omega))]
    exact State.heap_pushCell_of_lt _ _ hq
theorem mg_two {cA comp cc : ClassId} {k kc : Class} {ty : FieldType} {m : Int32} {K : Nat} (hK : m.toNatClampNeg = K) (hm : ¬ m < 0) (hk : s.vm.classes[cA]? = some k) (hkind : k.kind = .array comp (.array ty)) (hkc : s.vm.classes[comp]? = some kc) (hkindc : kc.kind = .array cc ty)
    (hl1 : ¬ 2 > e.platform.arrayLengthLimit) (hh1 : ¬ 2 * componentBytes (.array ty) > e.platform.maxHeapBytes) (hl2 : ¬ K > e.platform.arrayLengthLimit) (hh2 : ¬ K * componentBytes ty > e.platform.maxHeapBytes) (hf : fits ty (defaultValue ty) = true) (hd : (defaultValue ty).isDefault = true)
    (hc : s.heap.size + 3 ≤ e.platform.maxCells) (hs : s.slotsUsed + 2 + 2 * K ≤ e.platform.maxSlots) {Q : Addr → Pre} (hq : ∀ d' acts', Q s.heap.size d' acts' (mg_s2 s cA comp K (defaultValue ty))) : wp (multianewarray.make cA [2, m]) Q E e d acts s := by
  have h2 : ¬ (2 : Int32) < 0 := by decide
  have e2 : (2 : Int32).toNatClampNeg = 2 := by decide
  have h3 : ((2 : Int32) == 0) = false := by decide
  obtain ⟨a0, b0, c0, d0⟩ := mg_f1 s cA comp K (defaultValue ty)
  obtain ⟨a1, b1, c1, d1⟩ := mg_f2 s cA comp K (defaultValue ty)
  rw [multianewarray.make]
  simp only [wp_bind', Jvm.W.ite, h2, if_false, wp_pure', Jvm.W.theClass, hk, hkind, Option.some.injEq, exists_eq_left']
  rw [e2]
  refine mg_new hk hkind hl1 hh1 rfl rfl (by omega) (by omega) ?_
  rw [h3]
  simp only [Bool.false_eq_true, if_false]
  rw [wp_bind', Std.Legacy.Range.forIn_eq_forIn_range']
  show wp (forIn [0, 1] PUnit.unit _) _ E e d acts (mg_s0 s cA)
  simp only [List.forIn_cons, List.forIn_nil, wp_bind']
  refine mg_one hK hm (by rw [a0]; exact hkc) hkindc hl2 hh2 hf hd (by rw [b0]; omega) (by rw [d0]; omega) ?_
  simp only [Jvm.W.writeLoc, wp_pure', wp_bind']
  refine ⟨mg_o cA, by rw [State.heap_pushCell_of_lt (h := (show s.heap.size < (mg_s0 s cA).heap.size by rw [b0]; omega))]; exact c0, by simp [mg_o], by simp [mg_o], ?_, ?_⟩
  · simp [State.fitsSlot, State.slotType?, mg_o, a0, hk, hkind, fits]
  rw [b0]
  show wp (multianewarray.make comp [m]) _ E e _ _ (mg_s1 s cA comp K (defaultValue ty))
  refine mg_one hK hm (by rw [a1]; exact hkc) hkindc hl2 hh2 hf hd (by rw [b1]; omega) (by rw [d1]; omega) ?_
  simp only [Jvm.W.writeLoc, wp_pure', wp_bind']
  refine ⟨mg_o1 cA s.heap.size, by rw [State.heap_pushCell_of_lt (h := (show s.heap.size < (mg_s1 s cA comp K (defaultValue ty)).heap.size by rw [b1]; omega))]; exact c1, by simp [mg_o1, mg_o, Cell.setSlot], by simp [mg_o1, mg_o, Cell.setSlot], ?_, ?_⟩
  · simp [State.fitsSlot, State.slotType?, mg_o1, mg_o, Cell.setSlot, a1, hk, hkind, fits]
  rw [b1]
  exact hq _ _
end GRID
