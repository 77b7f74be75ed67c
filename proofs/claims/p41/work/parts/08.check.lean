/-! ===== words that a call may take along ===== -/
def qOkW (w : Cond) : Bool := match w with
  | .fieldLinkNest _ _ _ _ _ _ => true
  | .methodLinkNest _ _ _ _ => true
  | .castable _ _ => true
  | .declares _ => true
  | w => goodWord w
def qW : List Cond := lw_tbl.filter qOkW
theorem q_warm {w : Cond} {args a' : Array Value} {s U : State} (hw : qOkW w = true) (hW : s.WarmedH U.vm) (h : w.before args s = true) : w.before a' U = true := by
  unfold qOkW at hw
  split at hw
  · exact va_Nw.use rfl (va_Nw.warmF hW (va_Nw.of rfl h))
  · exact va_Nw.use rfl (va_Nw.warmM hW (va_Nw.of rfl h))
  · exact va_Nw.use rfl (va_Nw.warmC hW (va_Nw.of rfl h))
  · exact va_Nw.use rfl (va_Nw.warmD hW (va_Nw.of rfl h))
  · exact word_at hW (good_of_word hw) h
theorem qW_warm {args : Array Value} {s : State} (hts : ∀ w ∈ qW, w.before args s = true) : ∀ w ∈ qW, ∀ (a' : Array Value) (U : State), s.WarmedH U.vm → w.before a' U = true :=
  fun w hw _ _ hW => q_warm (List.mem_filter.mp hw).2 hW (hts w hw)
/-- the tables, by chunks (a look at a place far behind is then short) -/
def qTabs : List (List Cond) := [tables_1_1, tables_1_2, tables_1_3, tables_1_4, tables_1_5, tables_1_6, tables_1_7, tables_1_8]
def qTb (d : Nat) : Option Cond := (qTabs.getD (d / 240) [])[d % 240]?
theorem qTabs_eq : qTabs.flatten = tables_1 := by
  unfold qTabs tables_1
  simp only [List.flatten_cons, List.flatten_nil, List.append_nil]
theorem qTb_in {d : Nat} {w : Cond} (h : qTb d = some w) : w ∈ tables_1 := by
  unfold qTb at h
  rw [List.getD_eq_getElem?_getD] at h
  cases hq : qTabs[d / 240]? with
  | none => rw [hq] at h; cases h
  | some l =>
    rw [hq] at h
    rw [← qTabs_eq]
    exact List.mem_flatten.mpr ⟨l, List.mem_of_getElem? hq, List.mem_of_getElem? h⟩
def qLb (d : Nat) : Option Cond := bif Nat.blt d 92 then (k2_sels lw_privs)[d]? else qTb (d - 92)
theorem qLb_in {d : Nat} {w : Cond} (h : qLb d = some w) : w ∈ lw_tbl := by
  unfold qLb at h
  cases hb : Nat.blt d 92 with
  | true => rw [hb] at h; exact List.mem_append_left _ (List.mem_of_getElem? h)
  | false => rw [hb] at h; exact List.mem_append_right _ (qTb_in h)
theorem qW_in {d : Nat} {w : Cond} (h : qTb d = some w) (hw : qOkW w = true) : w ∈ qW := List.mem_filter.mpr ⟨List.mem_append_right _ (qTb_in h), hw⟩
theorem qW_of {w : Cond} (h : w ∈ lw_tbl) (hw : qOkW w = true) : w ∈ qW := List.mem_filter.mpr ⟨h, hw⟩
/-! the classes -/
def qCn (ci : Nat) : vw_C := qCls.getD ci ("", TX0, 0)
def qWordB (d : Nat) (w : Cond) : Bool := decide (qTb d = some w)
theorem qWordB_in {d : Nat} {w : Cond} (h : qWordB d w = true) (hw : qOkW w = true) : w ∈ qW := qW_in (of_decide_eq_true h) hw
/-! the check of a field's instruction -/
def qOkF (own : String) (x ci s lk d : Nat) : Bool := Nat.blt ci 11 && Nat.blt s (qCn ci).2.2 && (bif Nat.beq lk 0 then qWordB d (.fieldLink own x ((qCn ci).2.1 s).1 ((qCn ci).2.1 s).2.1 ((qCn ci).2.1 s).2.2.1) else (match qTb d with
  | some (.fieldLinkNest o x2 r n ds _) => decide (o = own) && Nat.beq x2 x && decide (r = ((qCn ci).2.1 s).1) && decide (n = ((qCn ci).2.1 s).2.1) && decide (ds = ((qCn ci).2.1 s).2.2.1)
  | _ => false))
theorem qOkF_spec {own : String} {x ci s lk d : Nat} (h : qOkF own x ci s lk d = true) : ci < 11 ∧ s < (qCn ci).2.2 ∧ ((lk = 0 ∧ Cond.fieldLink own x ((qCn ci).2.1 s).1 ((qCn ci).2.1 s).2.1 ((qCn ci).2.1 s).2.2.1 ∈ qW) ∨ (lk ≠ 0 ∧ ∃ host : String, Cond.fieldLinkNest own x ((qCn ci).2.1 s).1 ((qCn ci).2.1 s).2.1 ((qCn ci).2.1 s).2.2.1 host ∈ qW)) := by
  simp only [qOkF, Bool.and_eq_true, Nat.blt_eq] at h
  obtain ⟨⟨h1, h2⟩, h3⟩ := h
  refine ⟨h1, h2, ?_⟩
  by_cases hl : lk = 0
  · subst hl
    exact Or.inl ⟨rfl, qWordB_in h3 rfl⟩
  · right
    refine ⟨hl, ?_⟩
    have hb : Nat.beq lk 0 = false := by
      cases lk with
      | zero => exact absurd rfl hl
      | succ n => rfl
    rw [hb] at h3
    simp only [cond_false] at h3
    split at h3
    · rename_i o x2 r n ds host hd
      simp only [Bool.and_eq_true, decide_eq_true_eq, Nat.beq_eq] at h3
      obtain ⟨⟨⟨⟨rfl, rfl⟩, rfl⟩, rfl⟩, rfl⟩ := h3
      exact ⟨host, qW_in hd rfl⟩
    · cases h3
/-! fields: what is printed against the class' own table -/
def qOkT (ci s : Nat) : Bool := match qFd qT0 ci s with
  | (0, _, _) => decide (parseFieldDescriptor ((qCn ci).2.1 s).2.2.1 = some .int) && !((qCn ci).2.1 s).2.2.2
  | (1, _, _) => decide (parseFieldDescriptor ((qCn ci).2.1 s).2.2.1 = some .boolean) && !((qCn ci).2.1 s).2.2.2
  | (2, _, _) => ((qCn ci).2.1 s).2.2.2 && decide (((qCn ci).2.1 s).1 = (qCn ci).1) && (match parseFieldDescriptor ((qCn ci).2.1 s).2.2.1 with
    | some (.object _) => true
    | some (.array _) => true
    | _ => false)
  | (3, _, _) => !((qCn ci).2.1 s).2.2.2 && (match parseFieldDescriptor ((qCn ci).2.1 s).2.2.1 with
    | some (.object _) => true
    | some (.array _) => true
    | _ => false)
  | _ => false
def qOkTs (ci : Nat) : Bool := Nat.beq (qCn ci).2.2 (qT0.2.getD ci []).length && (List.range (qCn ci).2.2).all (qOkT ci)
theorem qTs_ok : ∀ ci, ci < 11 → qOkTs ci = true := by decide +kernel
def qOkU (ci : Nat) : Bool := (List.range (qCn ci).2.2).all (fun s => qWordB ((qUp.getD ci []).getD s 0) (u_lay (qCn ci).1 (qCn ci).2.1 s))
theorem qU_ok : ∀ ci, ci < 11 → qOkU ci = true := by decide +kernel
def qNmB (ci : Nat) : Bool := (List.range (qCn ci).2.2).all fun a => (List.range (qCn ci).2.2).all fun b => Nat.beq a b || !decide (((qCn ci).2.1 a).2.1 = ((qCn ci).2.1 b).2.1)
theorem qNm_ok : ∀ ci, ci < 11 → qNmB ci = true := by decide +kernel
/-! the words of the throws -/
def qLwB (d : Nat) (w : Cond) : Bool := decide (qLb d = some w)
theorem qLwB_in {d : Nat} {w : Cond} (h : qLwB d w = true) (hw : qOkW w = true) : w ∈ qW := qW_of (qLb_in (of_decide_eq_true h)) hw
def qX (e : Nat) : String := (qXn.getD e ("", 0)).1
def qXs : List String := ["java/lang/RuntimeException", "java/lang/Exception"]
def qAtB : List Nat → List Cond → Bool
  | [], [] => true
  | d :: ds, w :: ws => qLwB d w && qOkW w && vx_ot w && qAtB ds ws
  | _, _ => false
theorem qAtB_in : ∀ {ds : List Nat} {ws : List Cond}, qAtB ds ws = true → ∀ w ∈ ws, w ∈ qW ∧ vx_ot w = true
  | [], [], _ => fun w h => absurd h List.not_mem_nil
  | d :: ds, w :: ws, h => by
    simp only [qAtB, Bool.and_eq_true] at h
    intro w' hw
    rcases List.mem_cons.mp hw with rfl | hw
    · exact ⟨qLwB_in h.1.1.1 h.1.1.2, h.1.2⟩
    · exact qAtB_in h.2 w' hw
theorem qAt_ok : ∀ e, e < 3 → qAtB (qXp.getD e []) (vx_atS "Facingleaf" (qXn.getD e ("", 0)).2 (qX e) qXs) = true := by decide +kernel
theorem qXi_ok : ∀ e, e < 3 → qLwB (qXi.getD e 0) (.initialized (qX e)) = true := by decide +kernel
theorem qXc_ok : ∀ e, e < 3 → qLwB (qXc.getD e 0) (.castable (qX e) (qX e)) = true := by decide +kernel
theorem qCp_ok : ∀ ci, ci < 11 → (qLwB (qCp.getD ci (0, 0)).1 (.initialized (qCn ci).1) && qLwB (qCp.getD ci (0, 0)).2 (.instantiable (qCn ci).1 (qCn ci).2.2)) = true := by decide +kernel
theorem qOi_ok : (qLwB qOi.1 (.instanceMethod Lib.objectInit) && qLwB qOi.2 (.code Lib.objectInit ⟨#[0xb1]⟩ 1 none)) = true := by decide +kernel
/-- the links to the three exceptions -/
def qExc : List Cond := [.classLink "FacingleafLaw" 14 "java/lang/IllegalArgumentException", .classLink "Facingleaf" 87 "java/lang/IllegalArgumentException", .classLink "FacingleafLaw" 20 "java/lang/IllegalStateException", .classLink "Facingleaf" 121 "java/lang/IllegalStateException", .classLink "FacingleafLaw" 29 "java/lang/IndexOutOfBoundsException", .classLink "Facingleaf" 206 "java/lang/IndexOutOfBoundsException"]
def qExcP : List Nat := [589, 594, 698, 703, 666, 678]
def qExcB : List Nat → List Cond → Bool
  | [], [] => true
  | d :: ds, w :: ws => qWordB d w && qOkW w && qExcB ds ws
  | _, _ => false
theorem qExcB_in : ∀ {ds : List Nat} {ws : List Cond}, qExcB ds ws = true → ∀ w ∈ ws, w ∈ qW
  | [], [], _ => fun w h => absurd h List.not_mem_nil
  | d :: ds, w :: ws, h => by
    simp only [qExcB, Bool.and_eq_true] at h
    intro w' hw
    rcases List.mem_cons.mp hw with rfl | hw
    · exact qWordB_in h.1.1 h.1.2
    · exact qExcB_in h.2 w' hw
theorem qExc_ok : qExcB qExcP qExc = true := by decide +kernel
/-! the check of an instruction -/
def qLn (i : Instr) : Nat := match i with
  | .bipush _ => 2
  | .ldc _ => 2
  | .iload _ => 2
  | .aload _ => 2
  | .istore _ => 2
  | .astore _ => 2
  | .lload _ => 2
  | .lstore _ => 2
  | .ldc2_w _ => 3
  | .newarray _ => 2
  | .sipush _ => 3
  | .ldc_w _ => 3
  | .iinc _ _ => 3
  | .goto _ => 3
  | .ifCond _ _ => 3
  | .if_icmp _ _ => 3
  | .if_acmp _ _ => 3
  | .ifnull _ => 3
  | .ifnonnull _ => 3
  | .getfield _ => 3
  | .putfield _ => 3
  | .new _ => 3
  | .anewarray _ => 3
  | .invokestatic _ => 3
  | .invokevirtual _ => 3
  | .invokespecial _ => 3
  | .multianewarray _ _ => 4
  | _ => 1
def qJmp (pc : Nat) (off : Int) (a : Nat) : Bool := decide ((pc : Int) + off = (a : Int))
def qTyN (t : Nat) : ArrayType := if t = 1 then .int else if t = 2 then .boolean else .long
/-- the class of the elements of the arrays of references of a kind -/
def qEl (k : Nat) : String := if k = 1 then RX1 else if k = 5 then RX5 else if k = 8 then RX8 else RX9
def qInvB (own : String) (x a b c d : Nat) : Bool :=
  Nat.blt a qNm && (match c % 10 with
    | 0 => Nat.beq (qMq a).1 0 && Nat.beq b ((qMq a).2.2.2.2.2 + 1) && Nat.blt (c / 10) 11 && decide ((qMe a).1.cls = (qCn (c / 10)).1) && qWordB d (.methodLink own x (qMe a).1)
    | 1 => Nat.beq (qMq a).1 0 && Nat.beq b ((qMq a).2.2.2.2.2 + 1) && Nat.blt (c / 10) 11 && decide ((qMe a).1.cls = (qCn (c / 10)).1) && (match qTb d with
      | some (.methodLinkNest o x2 y _) => decide (o = own) && Nat.beq x2 x && decide (y = (qMe a).1)
      | _ => false)
    | 2 => Nat.beq (qMq a).1 1 && Nat.beq b (qMq a).2.2.2.2.2 && qWordB d (.methodLink own x (qMe a).1)
    | 3 => Nat.beq (qMq a).1 1 && Nat.beq b (qMq a).2.2.2.2.2 && (qMe a).2.2.2.2.isEmpty && (match qTb d with
      | some (.methodLinkNest o x2 y _) => decide (o = own) && Nat.beq x2 x && decide (y = (qMe a).1)
      | _ => false)
    | 8 => Nat.beq (qMq a).1 1 && Nat.beq b (qMq a).2.2.2.2.2 && (qMe a).2.2.2.2.isEmpty && Nat.ble (qMe a).2.2.1 20 && qWordB d (.methodLink own x (qMe a).1)
    | 4 => Nat.beq (qMq a).1 2 && Nat.beq b ((qMq a).2.2.2.2.2 + 1) && Nat.blt (c / 10) 11 && decide ((qMe a).1.cls = (qCn (c / 10)).1) && qWordB d (.methodLink own x (qMe a).1)
    | 5 => Nat.beq (qMq a).1 2 && Nat.beq b ((qMq a).2.2.2.2.2 + 1) && Nat.blt (c / 10) 11 && decide ((qMe a).1.cls = (qCn (c / 10)).1) && (match qTb d with
      | some (.methodLinkNest o x2 y _) => decide (o = own) && Nat.beq x2 x && decide (y = (qMe a).1)
      | _ => false)
    | _ => false)
/-- new E; dup; ldc; invokespecial; athrow -/
def qThrB (own : String) (cc : ByteArray) (pc x e w : Nat) : Bool :=
  Nat.blt e 3 && decide (own = "Facingleaf") && qSt.any (fun q => decide (q.1 = own) && (match w with
    | 0 => decide (decode cc (pc + 4) = .ok (.ldc q.2.1, 2)) && decide (decode cc (pc + 6) = .ok (.invokespecial (qXn.getD e ("", 0)).2, 3)) && decide (decode cc (pc + 9) = .ok (.athrow, 1))
    | _ => decide (decode cc (pc + 4) = .ok (.ldc_w q.2.1, 3)) && decide (decode cc (pc + 7) = .ok (.invokespecial (qXn.getD e ("", 0)).2, 3)) && decide (decode cc (pc + 10) = .ok (.athrow, 1)))) &&
  decide (decode cc (pc + 3) = .ok (.dup, 1)) && qExc.any (fun w => match w with
    | .classLink o x2 n => Nat.beq x2 x && decide (o = own) && decide (n = qX e)
    | _ => false)
def qOkI (own : String) (cc : ByteArray) (ini : Bool) (q : qI) : Bool := match q with
  | (pc, i, n, a, b, c, d) => decide (decode cc pc = .ok (i, n)) && (match i with
    | .tableswitch df lo hi offs => decide (0 ≤ (pc : Int) + df) && offs.toList.all (fun o => decide (0 ≤ (pc : Int) + o)) && decide ((offs.size : Int) = hi - lo + 1)
    | i => Nat.beq n (qLn i)) && (match i with
    | .ldc x => qWordB d (.constant own x (Int32.ofNat a)) && Nat.blt a 2147483648
    | .ldc_w x => qWordB d (.constant own x (Int32.ofNat a)) && Nat.blt a 2147483648
    | .ldc2_w x => qWordB d (.constantLong own x (Int64.ofNat a)) && Nat.blt a 2147483648
    | .iconst x => decide (-1 ≤ x) && decide (x ≤ 5)
    | .bipush x => decide (-128 ≤ x) && decide (x ≤ 127)
    | .sipush x => decide (-32768 ≤ x) && decide (x ≤ 32767)
    | .iinc _ x => decide (-128 ≤ x) && decide (x ≤ 127)
    | .goto o => qJmp pc o a
    | .ifCond _ o => qJmp pc o a
    | .if_icmp _ o => qJmp pc o a
    | .if_acmp _ o => qJmp pc o a
    | .ifnull o => qJmp pc o a
    | .ifnonnull o => qJmp pc o a
    | .getfield x => qOkF own x a b c d
    | .putfield x => qOkF own x a b c d && (!((qCn a).2.1 b).2.2.2 || (ini && Nat.beq c 0 && decide (((qCn a).2.1 b).1 = own)))
    | .new x => (match a with
      | 0 => Nat.blt b 11 && decide (qKd qT0 b = (0, (b : Int), 0, 0, 0)) && qWordB d (.classLink own x (qCn b).1)
      | _ => qThrB own cc pc x b c)
    | .newarray ty => decide (ty = qTyN (qKd qT0 b).1) && decide (0 ≤ (qKd qT0 b).2.1) && decide ((qKd qT0 b).2.1 ≤ 30000)
    | .anewarray x => decide (0 ≤ (qKd qT0 b).2.1) && decide ((qKd qT0 b).2.1 ≤ 30000) && Nat.ble (qTi (qKd qT0 b).2.2.1) 6 && qWordB d (.classLink own x (qEl (qKd qT0 b).2.2.1))
    | .multianewarray x y => Nat.beq y 2 && decide (0 ≤ (qKd qT0 b).2.1) && decide ((qKd qT0 b).2.1 ≤ 30000) && decide (0 ≤ (qKd qT0 c).2.1) && decide ((qKd qT0 c).2.1 ≤ 30000) && Nat.beq (qTi c) 7 && qWordB d (.classLink own x "[[I")
    | .invokestatic x => bif Nat.beq c 7 then Nat.beq a 150 && qWordB d (.methodLink own x (qMe 150).1) else qInvB own x a b c d && (Nat.beq (c % 10) 2 || Nat.beq (c % 10) 3 || Nat.beq (c % 10) 8)
    | .invokevirtual x => qInvB own x a b c d && (Nat.beq (c % 10) 0 || Nat.beq (c % 10) 1)
    | .invokespecial x => bif Nat.beq c 6 then qWordB d (.methodLink own x Lib.objectInit) else qInvB own x a b c d && (Nat.beq (c % 10) 4 || Nat.beq (c % 10) 5)
    | _ => true)
def qOkC (own : String) (cc : ByteArray) (ini : Bool) (C : qCd) : Bool := C.1.all (fun l => l.all (qOkI own cc ini))
/-! the check of a method -/
def qCw (q : qMd) : Cond := match q.2.2.2.2 with
  | [] => .code q.1 q.2.1 q.2.2.1 q.2.2.2.1
  | h => .codeWith q.1 q.2.1 q.2.2.1 q.2.2.2.1 h
def qHdB (own : String) (cc : ByteArray) : List qHd → List (Nat × Nat × Nat × Nat) → Bool
  | [], [] => true
  | (f, t, e, g, j) :: l, (f2, t2, h, ct) :: l2 => Nat.beq f f2 && Nat.beq t t2 && Nat.blt e 3 && !Nat.beq ct 0 && qExc.any (fun w => match w with
      | .classLink o x2 n => Nat.beq x2 ct && decide (o = own) && decide (n = qX e)
      | _ => false) && ((Nat.blt j 4 && decide (decode cc h = .ok (.astore_n (Fin.ofNat 4 j), 1)) && Nat.beq g (h + 1)) || (decide (decode cc h = .ok (.astore j, 2)) && Nat.beq g (h + 2))) && qHdB own cc l l2
  | _, _ => false
def qRtB (rt : Nat) (r : Option FieldType) : Bool := match rt, r with
  | 0, none => true
  | 1, some .int => true
  | 2, some .boolean => true
  | 3, some (.object _) => true
  | 4, some .long => true
  | _, _ => false
def qOkMt (m : Nat) : Bool :=
  qLwB (qMq m).2.1 (qCw (qMe m)) && qLwB (qMq m).2.2.1 (.initialized (qMe m).1.cls) &&
  (match (qMq m).1 with
    | 0 => qLwB (qMq m).2.2.2.1 (.instanceMethod (qMe m).1) && qLwB (qMq m).2.2.2.2.1 (.selects (qMe m).1.cls (qMe m).1 (qMe m).1) && !decide ((qMe m).1.name = "<init>")
    | 1 => qLwB (qMq m).2.2.2.1 (.static (qMe m).1)
    | 2 => qLwB (qMq m).2.2.2.1 (.instanceMethod (qMe m).1) && decide ((qMe m).1.name = "<init>") && Nat.beq (qP m).2.2.1 0
    | _ => false) &&
  plainFor (qMe m).1 && !decide ((qMe m).1.cls = "java/lang/invoke/MethodHandle") && !decide ((qMe m).1.cls = "java/lang/invoke/VarHandle") &&
  decide ((parseMethodDescriptor (qMe m).1.desc).map (fun q => q.parameters.length) = some (qMq m).2.2.2.2.2) && Nat.beq (qP m).2.2.2 (qMe m).2.2.1 && Nat.ble (qMe m).2.2.1 40 && Nat.ble (qMq m).2.2.2.2.2 (qMe m).2.2.1 && qRtB (qP m).2.2.1 (qMe m).2.2.2.1 &&
  qHdB (qMe m).1.cls (qMe m).2.1 (qP m).2.1 (qMe m).2.2.2.2 && (qP m).2.1.all (fun h => Nat.blt h.2.2.2.2 (qMe m).2.2.1) && (Nat.beq (qMq m).1 1 || (qMe m).2.2.2.2.isEmpty)
def qOkAll (m : Nat) : Bool := qOkMt m && qOkC (qMe m).1.cls (qMe m).2.1 (decide ((qMe m).1.name = "<init>")) (qP m)
