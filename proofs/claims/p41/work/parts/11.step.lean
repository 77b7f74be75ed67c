/-! ===== one step: what the small machine says, the machine does ===== -/
theorem q_ao {ty : FieldType} {s U : State} (hvm : s.vm.Alike U.vm) (h : (Cond.arrayOver ty).before #[] s = true) : (Cond.arrayOver ty).before #[] U = true := by
  rw [← Cond.arrayOver_setVmC (args := #[]) hvm ty] at h
  exact h
/-- what the tables and the start say, in every state of a run -/
def qKs (D : va_G) (cA : Nat → ClassId) (U : State) : Prop :=
  va_K D qCls (qTy cA) U ∧ (∀ q ∈ qSt, ∃ a, vk_R q.1 q.2.1 q.2.2 a U) ∧ (∀ e1 e2 : Nat, e1 < 3 → e2 < 3 → e1 ≠ e2 → va_Nc (qX e1) (qX e2) U) ∧
  (∀ k, (k = 1 ∨ k = 5 ∨ k = 8 ∨ k = 9) → va_AO (qEl k) U) ∧ va_AOA .int U ∧ (∀ t, t < 3 → (Cond.arrayClass (newarray.typeOf (qTyN (t + 1)))).before #[] U = true)
theorem qKs.warm {D : va_G} {cA : Nat → ClassId} {s U : State} (hW : s.WarmedH U.vm) (h : qKs D cA s) : qKs D cA U := by
  obtain ⟨h1, h2, h3, h4, h5, h6⟩ := h
  refine ⟨va_K.moved hW.alike h1, fun q hq => ?_, fun e1 e2 g1 g2 g3 => va_Nc.moved hW.alike (h3 e1 e2 g1 g2 g3), fun k hk => q_ao hW.alike (h4 k hk), q_ao hW.alike h5, fun t ht => word_at hW (Or.inr ⟨_, rfl⟩) (h6 t ht)⟩
  obtain ⟨a, ha⟩ := h2 q hq
  exact ⟨a, vk_R.warm hW ha⟩
/-- the statics that a throw reads -/
def qZs (A : Nat → Prop) (U : State) (H : Heap) : Prop := vx_Zq Bundle.tN "UNASSIGNED_STACK" Bundle.steD A U H ∧ vx_Zq Bundle.tN "SUPPRESSED_SENTINEL" Bundle.listD A U H
/-- what a method's run stands on; d: how deep calls may go -/
def qCx (d : Nat) (p : Program) (l : Launch) (R : Room) (s : State) (m : MethodId) (args : Array Value) (meth : Method) (c : Code) (D : va_G) (cA : Nat → ClassId) (A : Nat → Prop) (own : String) (cc : ByteArray) (nL : Nat) (ini : Bool) (hh : List (Nat × Nat × Nat × Nat)) : Prop :=
  p.tables.exec = Jvm.exec ∧ c.code = cc ∧ c.maxLocals = nL ∧ s.vm.findClass own = some m.cls ∧ (∀ w ∈ qW, w.before args s = true) ∧ meth.locks = false ∧ l.stackTraces = false ∧ (ini = true → meth.name = "<init>") ∧ c.exceptionTable.toList = tableOf hh ∧
  qKs D cA s ∧ qZs A s s.heap ∧ (∀ q : Nat, s.heap.size ≤ q → A q) ∧ d + 6 ≤ R.frames ∧ 60 * d + 100 ≤ R.locals
/-- slots at the start; the memory at the start, where its objects lie -/
abbrev qZ : Type := Nat × qS × qA
/-- what there was at the start is there, and lies where it lay -/
def qUn (σ0 : qS) (ad0 : qA) (σ : qS) (ad : qA) : Prop := (∀ k, σ0.1.1 k ≤ σ.1.1 k) ∧ qAg σ0 ad0 ad
theorem qUn.tr {σ0 σ σ' : qS} {ad0 ad ad' : qA} (h : qUn σ0 ad0 σ ad) (hl : ∀ k, σ.1.1 k ≤ σ'.1.1 k) (ha : qAg σ ad ad') : qUn σ0 ad0 σ' ad' :=
  ⟨fun k => Int.le_trans (h.1 k) (hl k), fun k n hv => (ha k n ⟨hv.1, Int.lt_of_lt_of_le hv.2 (h.1 k)⟩).trans (h.2 k n hv)⟩
/-- where a run is -/
def qSI (D : va_G) (cA : Nat → ClassId) (b : Nat) (A : Nat → Prop) (s : State) (nL c0 : Nat) (z0 : qZ) (ad : qA) (objs : List (Nat × Int)) (H : Heap) (locs : List Loc) (sl : Array Slot) (cells slots : Nat) (ls st : List qV) (σ : qS) : Prop :=
  qOK qT0 σ objs ∧ va_P D qCls (qWs qT0 cA ad σ objs) H ∧ va_D A (qWs qT0 cA ad σ objs) ∧ va_S A s.heap H locs ∧ qLs ad b sl nL ls ∧ (∀ v ∈ ls, qVo σ v) ∧ (∀ v ∈ st, qVo σ v) ∧ σ.1.2.2.1 = c0 + cells ∧ σ.1.2.2.2.1 = z0.1 + slots ∧ qUn z0.2.1 z0.2.2 σ ad
/-- how a run may end with v on the stack -/
def qEnds (cc : ByteArray) (rt pc : Nat) (v : Option qV) : Prop :=
  (∃ x : Int, v = some (.inr (.inr (.inl x))) ∧ qIl x ∧ decode cc pc = .ok (.lreturn, 1) ∧ rt = 4) ∨ (∃ x : Int, v = some (.inl x) ∧ qIn x ∧ decode cc pc = .ok (.ireturn, 1) ∧ (rt = 1 ∨ (rt = 2 ∧ (x = 0 ∨ x = 1)))) ∨ (∃ q : Nat × Int, v = some (.inr (.inl (some q))) ∧ decode cc pc = .ok (.areturn, 1) ∧ rt = 3) ∨ (v = none ∧ decode cc pc = .ok (.return_, 1) ∧ rt = 0)
/-- what is owed behind a step -/
def qKn (p : Program) (l : Launch) (e : Env) (R : Room) (s : State) (m : MethodId) (args : Array Value) (below : List Frame) (meth : Method) (c : Code) (Q : State → Prop) (D : va_G) (cA : Nat → ClassId) (b : Nat) (A : Nat → Prop) (own : String) (cc : ByteArray) (nL c0 : Nat) (z0 : qZ) (rt : Nat) (o : qO) : Prop := match o with
  | .inl (pc, ls, st, σ) => ∀ (ad : qA) (objs : List (Nat × Int)) (H : Heap) (locs : List Loc) (sl : Array Slot) (cells slots : Nat), qSI D cA b A s nL c0 z0 ad objs H locs sl cells slots ls st σ → W p l e R s m args below meth c H locs cells slots Q (F0 m pc sl (st.map (qVl ad b)))
  | .inr (.inl v, σ) => ∀ (ad : qA) (objs : List (Nat × Int)) (H : Heap) (locs : List Loc) (sl : Array Slot) (cells slots pc : Nat) (ls : List qV), qSI D cA b A s nL c0 z0 ad objs H locs sl cells slots ls v.toList σ → qEnds cc rt pc v → W p l e R s m args below meth c H locs cells slots Q (F0 m pc sl (v.toList.map (qVl ad b)))
  | .inr (.inr k, σ) => ∀ (ad : qA) (objs : List (Nat × Int)) (H : Heap) (locs : List Loc) (sl : Array Slot) (cells slots pc : Nat) (rest : List Value) (q : Addr) (ce : Cell) (ls : List qV), qSI D cA b A s nL c0 z0 ad objs H locs sl cells slots ls [] σ → H[q]? = some ce → ce.vm = .none → s.vm.findClass (qX k) = some ce.cls → k < 3 →
      (∀ z ∈ c.exceptionTable.toList, covers z pc = false ∨ (z.catchType ≠ 0 ∧ ∃ nm : String, (Cond.classLink own z.catchType nm).before args s = true ∧ va_Nc (qX k) nm s)) → vx_W p l e R s m args below meth c H locs cells slots Q (F0 m pc sl rest) q
/-- what is owed at 'throw new E(text)' -/
def qTh (p : Program) (l : Launch) (e : Env) (R : Room) (s : State) (m : MethodId) (args : Array Value) (below : List Frame) (meth : Method) (c : Code) (Q : State → Prop) (D : va_G) (cA : Nat → ClassId) (b : Nat) (A : Nat → Prop) (own : String) (cc : ByteArray) (nL c0 : Nat) (z0 : qZ) (o : qO) : Prop := match o with
  | .inr (.inr k, _) => ∀ (ad : qA) (objs : List (Nat × Int)) (H : Heap) (locs : List Loc) (sl : Array Slot) (cells slots pc x w : Nat) (rest : List Value) (ls st : List qV) (σ : qS), qSI D cA b A s nL c0 z0 ad objs H locs sl cells slots ls st σ → o = .inr (.inr k, qBump σ 1 6) → decode cc pc = .ok (.new x, 3) → qThrB own cc pc x k w = true → (rest.map fun v => v.category).sum ≤ 8 → W p l e R s m args below meth c H locs cells slots Q (F0 m pc sl rest)
  | _ => True
