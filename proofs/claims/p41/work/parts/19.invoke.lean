/-! ===== the invoke instructions ===== -/
theorem qOkMt_s {m : Nat} (h : qOkMt m = true) : qCw (qMe m) ∈ qW ∧ Cond.initialized (qMe m).1.cls ∈ qW ∧
    (((qMq m).1 = 0 ∧ Cond.instanceMethod (qMe m).1 ∈ qW ∧ Cond.selects (qMe m).1.cls (qMe m).1 (qMe m).1 ∈ qW ∧ (qMe m).1.name ≠ "<init>") ∨ ((qMq m).1 = 1 ∧ Cond.static (qMe m).1 ∈ qW) ∨ ((qMq m).1 = 2 ∧ Cond.instanceMethod (qMe m).1 ∈ qW ∧ (qMe m).1.name = "<init>" ∧ (qP m).2.2.1 = 0)) ∧
    plainFor (qMe m).1 = true ∧ ((qMe m).1.cls ≠ "java/lang/invoke/MethodHandle" ∧ (qMe m).1.cls ≠ "java/lang/invoke/VarHandle") ∧
    (parseMethodDescriptor (qMe m).1.desc).map (fun q => q.parameters.length) = some (qMq m).2.2.2.2.2 ∧ (qP m).2.2.2 = (qMe m).2.2.1 ∧ (qMe m).2.2.1 ≤ 40 ∧ (qMq m).2.2.2.2.2 ≤ (qMe m).2.2.1 ∧ qRtB (qP m).2.2.1 (qMe m).2.2.2.1 = true ∧
    qHdB (qMe m).1.cls (qMe m).2.1 (qP m).2.1 (qMe m).2.2.2.2 = true ∧ (∀ h ∈ (qP m).2.1, h.2.2.2.2 < (qMe m).2.2.1) ∧ ((qMq m).1 = 1 ∨ (qMe m).2.2.2.2 = []) := by
  simp only [qOkMt, Bool.and_eq_true, Bool.or_eq_true, List.isEmpty_iff, Nat.beq_eq, Bool.not_eq_true', decide_eq_false_iff_not, decide_eq_true_eq] at h
  obtain ⟨⟨⟨⟨⟨⟨⟨⟨⟨⟨⟨⟨⟨h1, h2⟩, h3⟩, h4⟩, h5⟩, h6⟩, h7⟩, h8⟩, h9⟩, h10⟩, h11⟩, h12⟩, h13⟩, h14⟩ := h
  refine ⟨qLwB_in h1 ?_, qLwB_in h2 rfl, ?_, h4, ⟨h5, h6⟩, h7, h8, Nat.le_of_ble_eq_true h9, Nat.le_of_ble_eq_true h10, h11, h12, fun h hh => ?_, h14⟩
  · unfold qCw
    split <;> rfl
  · split at h3
    · rename_i hk
      simp only [Bool.and_eq_true, Bool.not_eq_true', decide_eq_false_iff_not] at h3
      exact Or.inl ⟨hk, qLwB_in h3.1.1 rfl, qLwB_in h3.1.2 rfl, h3.2⟩
    · rename_i hk
      exact Or.inr (Or.inl ⟨hk, qLwB_in h3 rfl⟩)
    · rename_i hk
      simp only [Bool.and_eq_true, decide_eq_true_eq, Nat.beq_eq] at h3
      exact Or.inr (Or.inr ⟨hk, qLwB_in h3.1.1 rfl, h3.1.2, h3.2⟩)
    · cases h3
  · have := List.all_eq_true.mp h13 h hh
    simpa using this
/-- the link of a call -/
theorem qInvB_s {own : String} {x a b c d : Nat} (h : qInvB own x a b c d = true) : a < qNm ∧
    ((c % 10 = 0 ∧ (qMq a).1 = 0 ∧ b = (qMq a).2.2.2.2.2 + 1 ∧ c / 10 < 11 ∧ (qMe a).1.cls = (qCn (c / 10)).1 ∧ Cond.methodLink own x (qMe a).1 ∈ qW) ∨
    (c % 10 = 1 ∧ (qMq a).1 = 0 ∧ b = (qMq a).2.2.2.2.2 + 1 ∧ c / 10 < 11 ∧ (qMe a).1.cls = (qCn (c / 10)).1 ∧ ∃ host, Cond.methodLinkNest own x (qMe a).1 host ∈ qW) ∨
    (c % 10 = 2 ∧ (qMq a).1 = 1 ∧ b = (qMq a).2.2.2.2.2 ∧ Cond.methodLink own x (qMe a).1 ∈ qW) ∨
    (c % 10 = 3 ∧ (qMq a).1 = 1 ∧ b = (qMq a).2.2.2.2.2 ∧ (qMe a).2.2.2.2 = [] ∧ ∃ host, Cond.methodLinkNest own x (qMe a).1 host ∈ qW) ∨
    (c % 10 = 8 ∧ (qMq a).1 = 1 ∧ b = (qMq a).2.2.2.2.2 ∧ (qMe a).2.2.2.2 = [] ∧ (qMe a).2.2.1 ≤ 20 ∧ Cond.methodLink own x (qMe a).1 ∈ qW) ∨
    (c % 10 = 4 ∧ (qMq a).1 = 2 ∧ b = (qMq a).2.2.2.2.2 + 1 ∧ c / 10 < 11 ∧ (qMe a).1.cls = (qCn (c / 10)).1 ∧ Cond.methodLink own x (qMe a).1 ∈ qW) ∨
    (c % 10 = 5 ∧ (qMq a).1 = 2 ∧ b = (qMq a).2.2.2.2.2 + 1 ∧ c / 10 < 11 ∧ (qMe a).1.cls = (qCn (c / 10)).1 ∧ ∃ host, Cond.methodLinkNest own x (qMe a).1 host ∈ qW)) := by
  simp only [qInvB, Bool.and_eq_true, Nat.blt_eq] at h
  obtain ⟨h1, h2⟩ := h
  refine ⟨h1, ?_⟩
  have nest : ∀ {own : String} {x a d : Nat}, (match qTb d with | some (.methodLinkNest o x2 y _) => decide (o = own) && Nat.beq x2 x && decide (y = (qMe a).1) | _ => false) = true → ∃ host, Cond.methodLinkNest own x (qMe a).1 host ∈ qW := by
    intro own x a d h
    split at h
    · rename_i o x2 y host hd
      simp only [Bool.and_eq_true, decide_eq_true_eq, Nat.beq_eq] at h
      obtain ⟨⟨rfl, rfl⟩, rfl⟩ := h
      exact ⟨host, qW_in hd rfl⟩
    · cases h
  split at h2 <;> (try simp only [Bool.and_eq_true, Nat.beq_eq, Nat.blt_eq, decide_eq_true_eq, List.isEmpty_iff] at h2)
  · rename_i hc
    exact Or.inl ⟨hc, h2.1.1.1.1, h2.1.1.1.2, h2.1.1.2, h2.1.2, qWordB_in h2.2 rfl⟩
  · rename_i hc
    exact Or.inr (Or.inl ⟨hc, h2.1.1.1.1, h2.1.1.1.2, h2.1.1.2, h2.1.2, nest h2.2⟩)
  · rename_i hc
    exact Or.inr (Or.inr (Or.inl ⟨hc, h2.1.1, h2.1.2, qWordB_in h2.2 rfl⟩))
  · rename_i hc
    exact Or.inr (Or.inr (Or.inr (Or.inl ⟨hc, h2.1.1.1, h2.1.1.2, h2.1.2, nest h2.2⟩)))
  · rename_i hc
    exact Or.inr (Or.inr (Or.inr (Or.inr (Or.inl ⟨hc, h2.1.1.1.1, h2.1.1.1.2, h2.1.1.2, Nat.le_of_ble_eq_true h2.1.2, qWordB_in h2.2 rfl⟩))))
  · rename_i hc
    exact Or.inr (Or.inr (Or.inr (Or.inr (Or.inr (Or.inl ⟨hc, h2.1.1.1.1, h2.1.1.1.2, h2.1.1.2, h2.1.2, qWordB_in h2.2 rfl⟩)))))
  · rename_i hc
    exact Or.inr (Or.inr (Or.inr (Or.inr (Or.inr (Or.inr ⟨hc, h2.1.1.1.1, h2.1.1.1.2, h2.1.1.2, h2.1.2, nest h2.2⟩)))))
  · cases h2
section QR
variable {d : Nat} {p : Program} {l : Launch} {e : Env} {R : Room} {s : State} {m : MethodId} {args : Array Value} {below : List Frame} {meth : Method} {c : Code} {Q : State → Prop}
variable {D : va_G} {cA : Nat → ClassId} {b : Nat} {A : Nat → Prop} {own : String} {cc : ByteArray} {nL c0 rt : Nat} {z0 : qZ} {ini : Bool} {hh : List (Nat × Nat × Nat × Nat)}
variable {ad : qA} {objs : List (Nat × Int)} {H : Heap} {locs : List Loc} {sl : Array Slot} {cells slots pc : Nat} {ls st : List qV} {σ : qS} {o : qO}
theorem qInv_s {T : qT} {call : qCl} {hs : List qHd} {n a g k : Nat} (h : qInv T call hs pc n a g k ls st σ = some o) : g ≤ st.length ∧ qCat (st.drop g) ≤ qLw k ∧ (st.take g).all qAr = true ∧ qIsB T k (st.take g).reverse = true ∧ ∃ r σ1, call a (st.take g).reverse σ = some (r, σ1) ∧
    (match (r, σ1) with
      | (.inl none, σ1) => qNx (pc + n) ls (st.drop g) σ1
      | (.inl (some v), σ1) => qNx (pc + n) ls (v :: st.drop g) σ1
      | (.inr k, σ1) => (match qHand hs pc k with
        | none => some (.inr (.inr k, σ1))
        | some (g, j) => qNx g (qKl ls j q_u) [] σ1)) = some o := by
  unfold qInv at h
  cases hb : (Nat.ble g st.length && Nat.ble (qCat (st.drop g)) (qLw k) && (st.take g).all qAr && qIsB T k (st.take g).reverse) with
  | false => rw [hb] at h; cases h
  | true =>
    rw [hb] at h
    simp only [cond_true] at h
    simp only [Bool.and_eq_true] at hb
    refine ⟨Nat.le_of_ble_eq_true hb.1.1.1, Nat.le_of_ble_eq_true hb.1.1.2, hb.1.2, hb.2, ?_⟩
    cases hc : call a (st.take g).reverse σ with
    | none => rw [hc] at h; cases h
    | some rr =>
      obtain ⟨r, σ1⟩ := rr
      rw [hc] at h
      refine ⟨r, σ1, rfl, ?_⟩
      rcases r with (_ | v) | k9 <;> exact h
theorem vx_runS16 {y : MethodName} {bytes : ByteArray} {maxL mc ms n index : Nat} {ret : Option FieldType} {ws : List Cond} {rm : Room} {Pc : Array Value → State → Prop} {Qc : Array Value → State → Outcome → State → Prop} {XC : String → State → State → Prop} {free : Addr → Prop} {Ts : List Cond} {As rest : List Value} {gg : JFrame} (S : CallFix p m c cc nL s args Ts own) (hM : vx_Met l y ws rm Pc Qc XC mc ms free)
    (cw : rm.cells = mc ∧ rm.slots = ms ∧ rm.frames + 1 ≤ R.frames ∧ 16 + (maxL + 11) + rm.locals ≤ R.locals ∧ (∀ w ∈ ws, ∀ (a' : Array Value) (U : State), s.WarmedH U.vm → w.before a' U = true) ∧ Cond.code y bytes maxL ret ∈ ws ∧ (Cond.code y bytes maxL ret).before args s = true ∧ (Cond.initialized y.cls).before args s = true ∧ (y.cls ≠ "java/lang/invoke/MethodHandle" ∧ y.cls ≠ "java/lang/invoke/VarHandle") ∧ (∀ sig, parseMethodDescriptor y.desc = some sig → n = sig.parameters.length) ∧ (Cond.methodLink own index y).before args s = true ∧ (Cond.static y).before args s = true) (hp : PreS s H Pc As)
    (hg : gg.method = m) (hn : As.length = n) (hsize : gg.locals.size = nL) (hstack : gg.stack = As.reverse ++ rest) (hW : 2 * gg.monitorRoom + (rest.map fun v => v.category).sum ≤ 16) (hdg : decode cc gg.pc = .ok (.invokestatic index, 3)) (hf : cells + mc ≤ R.cells ∧ slots + ms ≤ R.slots) :
    vx_Run p l e R s m args below meth c H locs cells slots mc ms gg rest (Qc As.toArray) XC free := by
  obtain ⟨hrc, hrs, hfr, hlo, hws, hcw, hcode, hini, hy, hlen, hl, hstt⟩ := cw
  have hK : vx_Back l R p e below s args y 3 16 (PreOf R mc ms Pc) (PostOf Qc mc ms free) (vx_Post XC mc ms free) := vx_back (bytes := bytes) (maxL := maxL) (ret := ret) hM hp.1 hrc hrs hfr hlo hws hcw (fun a' U hW => word_at hW (Or.inl (by first | rfl | simp [Cond.onTables, Cond.keeps, Cond.steady])) hini)
  obtain ⟨hx, hb, hml, ho, -⟩ := S
  intro T hT X
  rcases vx_callS X hx (bytes := bytes) (maxL := maxL) (ret := ret) ho hl hstt hini hcode hy hK hg (hsize.trans hml.symm) (argsL := As) (rest := rest) (fun sig h => hn.trans (hlen sig h)) hstack hW (by rw [hb]; exact hdg)
    (fun vm₁ hW₁ => ⟨hf.1, hf.2, hp.2 (T.setVm vm₁) hT hW₁⟩) with ⟨v, vm₁, ⟨U', l2, c2, s2⟩, hW₁, X', ⟨g', mk, t, L, e1, e2, hq, h1, hL, h2, h3⟩, st⟩ | ⟨q, vm₁, ⟨U', l2, c2, s2⟩, hW₁, X', ⟨g', mk, t, L, E, ce, e1, e2, hq, hce, hcv, hcl, h1, hL, h2, h3⟩, st⟩
  · dsimp only [Pt.U, Pt.locs, Pt.cells, Pt.slots] at X' e1 e2 h1 h2 h3 st
    subst h1; subst h2; subst h3
    exact Or.inl ⟨v, (T.setVm vm₁).calling g' mk As.toArray, t, U', L, hT, X', hL, e1, e2, hq, st⟩
  · dsimp only [Pt.U, Pt.locs, Pt.cells, Pt.slots] at X' e1 e2 h1 h2 h3 st hcl
    subst h1; subst h2; subst h3
    exact Or.inr ⟨q, (T.setVm vm₁).calling g' mk As.toArray, t, U', L, E, ce, hT, X', hL, e1, e2, hq, hce, hcv, vx_cls hW₁ hcl, st⟩
theorem qr_inv {call : qCl} {hs : List qHd} {i : Instr} {x a g k dd : Nat} (hi : (i = .invokevirtual x ∧ (k % 10 = 0 ∨ k % 10 = 1)) ∨ (i = .invokestatic x ∧ (k % 10 = 2 ∨ k % 10 = 3 ∨ k % 10 = 8)) ∨ (i = .invokespecial x ∧ (k % 10 = 4 ∨ k % 10 = 5))) (hB : qInvB own x a g k dd = true) (hMt : qOkMt a = true) (hcall : ∀ as σ r σ', call a as σ = some (r, σ') → qMetOK l d a as σ r σ' ∧ qLe σ σ' ∧ ∀ k, r = .inr k → k < 3)
    (hHd : qHdB own cc hs hh = true) (hjs : ∀ h ∈ hs, h.2.2.2.2 < nL) (X : qCx (d + 1) p l R s m args meth c D cA A own cc nL ini hh) (S : qSI D cA b A s nL c0 z0 ad objs H locs sl cells slots ls st σ) (hdg : decode cc pc = .ok (i, 3)) (h : qInv qT0 call hs pc 3 a g k ls st σ = some o) (hR : (qOs o).1.2.2.1 ≤ c0 + R.cells ∧ (qOs o).1.2.2.2.1 ≤ z0.1 + R.slots) (hK : qKn p l e R s m args below meth c Q D cA b A own cc nL c0 z0 rt o) :
    W p l e R s m args below meth c H locs cells slots Q (F0 m pc sl (st.map (qVl ad b))) := by
  obtain ⟨hgl, hcat, har, his, r, σ1, hcl, hres⟩ := qInv_s h
  obtain ⟨hMet, hle, hX3⟩ := hcall _ _ _ _ hcl
  obtain ⟨hx, hb, hml, hown, hts, hlk, hfl, hinit, htab, hks, hz, hA, hRf, hRl⟩ := id X
  obtain ⟨w1, w2, w3, w4, w5, w6, w7, w8, w9, w10, w11, w13⟩ := qOkMt_s hMt
  -- counts
  obtain ⟨mc, hmc⟩ : ∃ mc, σ1.1.2.2.1 = σ.1.2.2.1 + mc := ⟨σ1.1.2.2.1 - σ.1.2.2.1, by have := hle.2.1; omega⟩
  obtain ⟨ms, hms⟩ : ∃ ms, σ1.1.2.2.2.1 = σ.1.2.2.2.1 + ms := ⟨σ1.1.2.2.2.1 - σ.1.2.2.2.1, by have := hle.2.2; omega⟩
  have hos : (qOs o) = σ1 := by
    cases r with
    | inl v =>
      cases v with
      | none => cases qNx_s hres; rfl
      | some w => cases qNx_s hres; rfl
    | inr k9 =>
      simp only at hres
      cases hq : qHand hs pc k9 with
      | none => simp only [hq] at hres; cases hres; rfl
      | some gj => simp only [hq] at hres; cases qNx_s hres; rfl
  rw [hos] at hR
  have hcnt1 := S.2.2.2.2.2.2.2.1
  have hcnt2 := S.2.2.2.2.2.2.2.2.1
  have hf : cells + mc ≤ R.cells ∧ slots + ms ≤ R.slots := by omega
  -- arguments
  have hst := S.2.2.2.2.2.2.1
  have hsplit : st.map (qVl ad b) = ((st.take g).reverse.map (qVl ad 0)).reverse ++ (st.drop g).map (qVl ad b) := by
    rw [← List.map_reverse, List.reverse_reverse, qVl_bs har, ← List.map_append, List.take_append_drop]
  have hasl : ((st.take g).reverse).length = g := by rw [List.length_reverse, List.length_take]; omega
  have hasv : ∀ v ∈ (st.take g).reverse, qVo σ v := fun v hv => hst v (List.mem_of_mem_take (List.mem_reverse.mp hv))
  have hasa : ((st.take g).reverse).all qAr = true := by rw [List.all_reverse]; exact har
  have hrv : ∀ v ∈ st.drop g, qVo σ v := fun v hv => hst v (List.mem_of_mem_drop hv)
  have hM := hMet D cA ad objs H.size mc ms S.1 hasv hasa hmc hms
  have S' : qSI D cA b A s nL c0 z0 ad objs H locs sl cells slots ls (st.drop g) σ := S.stk hrv
  have hbf := q_bf X S
  have hlw : k % 10 ≠ 8 → qLw k = 8 := fun q => by
    unfold qLw
    cases h9 : Nat.beq (k % 10) 8 with
    | true => exact absurd (Nat.eq_of_beq_eq_true h9) q
    | false => rfl
  have hlw2 : qLw k ≤ 16 := by
    unfold qLw
    cases Nat.beq (k % 10) 8 <;> decide
  have hsum : ∀ W9, qLw k ≤ W9 → 2 * (F0 m pc sl (st.map (qVl ad b))).monitorRoom + (((st.drop g).map (qVl ad b)).map fun v => v.category).sum ≤ W9 := by
    intro W9 hW9
    have h9 := q_catsum (ad := ad) (b := b) (st := st.drop g)
    show 2 * 0 + _ ≤ W9
    rw [List.map_map]
    have e9 : ((fun v : Value => v.category) ∘ qVl ad b) = fun v => (qVl ad b v).category := rfl
    rw [e9]
    omega
  have hpay := qW_warm hts
  have hpay2 : ∀ w ∈ qCw (qMe a) :: qW, ∀ (a' : Array Value) (U : State), s.WarmedH U.vm → w.before a' U = true := fun w hw => (List.mem_cons.mp hw).elim (fun e9 => by rw [e9]; exact hpay _ w1) (hpay w)
  have hlen : ∀ sig, parseMethodDescriptor (qMe a).1.desc = some sig → (qMq a).2.2.2.2.2 = sig.parameters.length := fun sig h9 => by
    rw [h9] at w6
    exact (Option.some.inj w6).symm
  have hrm : (qRm d mc ms).frames + 1 ≤ R.frames ∧ 8 + ((qMe a).2.2.1 + 11) + (qRm d mc ms).locals ≤ R.locals := by
    show d + 6 + 1 ≤ _ ∧ 8 + ((qMe a).2.2.1 + 11) + (60 * d + 100) ≤ _
    omega
  have hslz : sl.size = nL := S.2.2.2.2.1.1
  have hCF : CallFix p m c cc nL s args qW own := ⟨hx, hb, hml, hown, hts⟩
  have hind := hts _ w2
  refine qr_back (a := 0) (g := 0) (as := []) hHd hjs hX3 X S' hle hmc hms ?_ hres hK
  -- the receiver, where there is one
  have hrecv : (k % 10 ≠ 2 ∧ k % 10 ≠ 3 ∧ k % 10 ≠ 8) → ∃ (k0 : Nat) (n0 : Int) (as' : List qV), (st.take g).reverse = .inr (.inl (some (k0, n0))) :: as' ∧ (k / 10 < 11 → ∃ cellB : Cell, H[ad k0 n0]? = some cellB ∧ cellB.vm.isStatics = false ∧ s.vm.findClass (qCn (k / 10)).1 = some cellB.cls) := by
    intro hk
    unfold qIsB at his
    rcases has : (st.take g).reverse with _ | ⟨v0, as'⟩
    · rw [has] at his
      simp at his
      omega
    · rw [has] at his
      match v0, his with
      | .inr (.inl (some (k0, n0))), his =>
        simp only [Bool.or_eq_true, Nat.beq_eq, Bool.and_eq_true, decide_eq_true_eq] at his
        have h2 : (qKd qT0 k0).1 = 0 ∧ (qKd qT0 k0).2.1 = ((k / 10 : Nat) : Int) := by
          rcases his with ((h9 | h9) | h9) | h9
          · exact absurd h9 hk.1
          · exact absurd h9 hk.2.1
          · exact absurd h9 hk.2.2
          · exact h9
        refine ⟨k0, n0, as', rfl, fun hk12 => ?_⟩
        obtain ⟨q0, hq, he⟩ := q_obj (cA := cA) (ad := ad) S.1 (show qVa σ k0 n0 from hasv (.inr (.inl (some (k0, n0)))) (by rw [has]; exact List.mem_cons_self))
        rw [qEnt_0 h2.1 h2.2] at he
        exact va_recv hks.1 S.2.1 (qCls_at hk12) he
      | .inl _, his => simp at his; omega
      | .inr (.inl none), his => simp at his; omega
      | .inr (.inr _), his => simp at his; omega
  have hcw : ∀ hh9, (qMe a).2.2.2.2 = hh9 → (hh9 = [] → qCw (qMe a) = Cond.code (qMe a).1 (qMe a).2.1 (qMe a).2.2.1 (qMe a).2.2.2.1) ∧ (hh9 ≠ [] → qCw (qMe a) = Cond.codeWith (qMe a).1 (qMe a).2.1 (qMe a).2.2.1 (qMe a).2.2.2.1 hh9) := by
    intro hh9 h9
    unfold qCw
    rw [h9]
    cases hh9 with
    | nil => exact ⟨fun _ => rfl, fun h => absurd rfl h⟩
    | cons _ _ => exact ⟨fun h => (nomatch h), fun _ => rfl⟩
  have hcwE := fun h9 => (hcw [] h9).1 rfl
  rcases (qInvB_s hB).2 with ⟨hk, hkind, hg, hk12, hcls, hw⟩ | ⟨hk, hkind, hg, hk12, hcls, host, hw⟩ | ⟨hk, hkind, hg, hw⟩ | ⟨hk, hkind, hg, hemp, host, hw⟩ | ⟨hk, hkind, hg, hemp, hsm, hw⟩ | ⟨hk, hkind, hg, hk12, hcls, hw⟩ | ⟨hk, hkind, hg, hk12, hcls, host, hw⟩
  · have hhe : (qMe a).2.2.2.2 = [] := w13.2.resolve_left (by omega)
    have hC := hcwE hhe
    rw [hC] at hM hpay2 w1
    obtain ⟨k0, n0, as', has, hrc⟩ := hrecv ⟨by omega, by omega, by omega⟩
    rcases w3 with ⟨-, wi, wsel, -⟩ | ⟨h9, -⟩ | ⟨h9, -⟩
    · rcases hi with ⟨rfl, -⟩ | ⟨-, h9⟩ | ⟨-, h9⟩
      · refine vx_runV (b := ad k0 n0) (As := as'.map (qVl ad 0)) (n := (qMq a).2.2.2.2.2) (C := (qMe a).1.cls) hCF hM ⟨⟨rfl, rfl, hrm.1, hrm.2, hpay2, List.mem_cons_self, hts _ w1, hind, w5, hlen, hts _ hw⟩, hts _ wi, hts _ wsel⟩ ⟨qBf_blind, by rw [hcls]; exact hrc hk12, fun U hU hW => ⟨by rw [has]; rfl, hbf U hU hW⟩⟩ rfl ?_ hslz ?_ (hsum 8 (Nat.le_of_eq (hlw (by omega)))) hdg hf
        · rw [List.length_map]
          rw [has, List.length_cons] at hasl
          omega
        · show st.map (qVl ad b) = _
          rw [hsplit, has, List.map_cons, List.reverse_cons, List.append_assoc]
          rfl
      · omega
      · omega
    · omega
    · omega
  · have hhe : (qMe a).2.2.2.2 = [] := w13.2.resolve_left (by omega)
    have hC := hcwE hhe
    rw [hC] at hM hpay2 w1
    obtain ⟨k0, n0, as', has, hrc⟩ := hrecv ⟨by omega, by omega, by omega⟩
    rcases w3 with ⟨-, wi, wsel, -⟩ | ⟨h9, -⟩ | ⟨h9, -⟩
    · rcases hi with ⟨rfl, -⟩ | ⟨-, h9⟩ | ⟨-, h9⟩
      · refine vx_runVN (host := host) (b := ad k0 n0) (As := as'.map (qVl ad 0)) (n := (qMq a).2.2.2.2.2) (C := (qMe a).1.cls) hCF hM ⟨⟨⟨rfl, rfl, hrm.1, hrm.2, hpay2, List.mem_cons_self⟩, hts _ w1, hind, w5, hlen, hts _ hw⟩, hts _ wi, hts _ wsel⟩ ⟨qBf_blind, by rw [hcls]; exact hrc hk12, fun U hU hW => ⟨by rw [has]; rfl, hbf U hU hW⟩⟩ rfl ?_ hslz ?_ (hsum 8 (Nat.le_of_eq (hlw (by omega)))) hdg hf
        · rw [List.length_map]
          rw [has, List.length_cons] at hasl
          omega
        · show st.map (qVl ad b) = _
          rw [hsplit, has, List.map_cons, List.reverse_cons, List.append_assoc]
          rfl
      · omega
      · omega
    · omega
    · omega
  · rcases w3 with ⟨h9, -⟩ | ⟨-, wst⟩ | ⟨h9, -⟩
    · omega
    · rcases hi with ⟨-, h9⟩ | ⟨rfl, -⟩ | ⟨-, h9⟩
      · omega
      · by_cases hhe : (qMe a).2.2.2.2 = []
        · have hC := hcwE hhe
          rw [hC] at hM hpay2 w1
          refine vx_runS (As := (st.take g).reverse.map (qVl ad 0)) (n := (qMq a).2.2.2.2.2) hCF hM ⟨⟨rfl, rfl, hrm.1, hrm.2, hpay2, List.mem_cons_self, hts _ w1, hind, w5, hlen, hts _ hw⟩, hts _ wst⟩ ⟨qBf_blind, fun U hU hW => ⟨rfl, hbf U hU hW⟩⟩ rfl (by rw [List.length_map]; omega) hslz ?_ (hsum 8 (Nat.le_of_eq (hlw (by omega)))) hdg hf
          show st.map (qVl ad b) = _
          exact hsplit
        · have hC := (hcw _ rfl).2 hhe
          rw [hC] at hM hpay2 w1
          refine vx_runSX (hh := (qMe a).2.2.2.2) (As := (st.take g).reverse.map (qVl ad 0)) (n := (qMq a).2.2.2.2.2) hCF hM ⟨⟨rfl, rfl, hrm.1, hrm.2, hpay2, List.mem_cons_self⟩, hts _ w1, hind, w5, hlen, hts _ hw, hts _ wst⟩ ⟨qBf_blind, fun U hU hW => ⟨rfl, hbf U hU hW⟩⟩ rfl (by rw [List.length_map]; omega) hslz ?_ (hsum 8 (Nat.le_of_eq (hlw (by omega)))) hdg hf
          show st.map (qVl ad b) = _
          exact hsplit
      · omega
    · omega
  · have hC := hcwE hemp
    rw [hC] at hM hpay2 w1
    rcases w3 with ⟨h9, -⟩ | ⟨-, wst⟩ | ⟨h9, -⟩
    · omega
    · rcases hi with ⟨-, h9⟩ | ⟨rfl, -⟩ | ⟨-, h9⟩
      · omega
      · refine vx_runSN (host := host) (As := (st.take g).reverse.map (qVl ad 0)) (n := (qMq a).2.2.2.2.2) hCF hM ⟨⟨⟨rfl, rfl, hrm.1, hrm.2, hpay2, List.mem_cons_self⟩, hts _ w1, hind, w5, hlen, hts _ hw⟩, hts _ wst, trivial⟩ ⟨qBf_blind, fun U hU hW => ⟨rfl, hbf U hU hW⟩⟩ rfl (by rw [List.length_map]; omega) hslz ?_ (hsum 8 (Nat.le_of_eq (hlw (by omega)))) hdg hf
        show st.map (qVl ad b) = _
        exact hsplit
      · omega
    · omega
  · have hC := hcwE hemp
    rw [hC] at hM hpay2 w1
    rcases w3 with ⟨h9, -⟩ | ⟨-, wst⟩ | ⟨h9, -⟩
    · omega
    · rcases hi with ⟨-, h9⟩ | ⟨rfl, -⟩ | ⟨-, h9⟩
      · omega
      · refine vx_runS16 (As := (st.take g).reverse.map (qVl ad 0)) (n := (qMq a).2.2.2.2.2) hCF hM ⟨rfl, rfl, hrm.1, (by show 16 + ((qMe a).2.2.1 + 11) + (60 * d + 100) ≤ _; omega), hpay2, List.mem_cons_self, hts _ w1, hind, w5, hlen, hts _ hw, hts _ wst⟩ ⟨qBf_blind, fun U hU hW => ⟨rfl, hbf U hU hW⟩⟩ rfl (by rw [List.length_map]; omega) hslz ?_ (hsum 16 hlw2) hdg hf
        show st.map (qVl ad b) = _
        exact hsplit
      · omega
    · omega
  · have hhe : (qMe a).2.2.2.2 = [] := w13.2.resolve_left (by omega)
    have hC := hcwE hhe
    rw [hC] at hM hpay2 w1
    obtain ⟨k0, n0, as', has, hrc⟩ := hrecv ⟨by omega, by omega, by omega⟩
    rcases w3 with ⟨h9, -⟩ | ⟨h9, -⟩ | ⟨-, wi, wnm, wrt⟩
    · omega
    · omega
    · have hret : (qMe a).2.2.2.1 = none := by
        rw [wrt] at w10
        cases hr9 : (qMe a).2.2.2.1 with
        | none => rfl
        | some ty => rw [hr9] at w10; cases w10
      rw [hret] at hM hpay2 w1
      rcases hi with ⟨-, h9⟩ | ⟨-, h9⟩ | ⟨rfl, -⟩
      · omega
      · omega
      · refine vx_runI (b := ad k0 n0) (As := as'.map (qVl ad 0)) (n := (qMq a).2.2.2.2.2) hCF hM ⟨⟨rfl, rfl, hrm.1, hrm.2, hpay2, List.mem_cons_self, hts _ w1, hind, w5, hlen, hts _ hw⟩, wnm, hts _ wi⟩ ⟨qBf_blind, fun U hU hW => ⟨by rw [has]; rfl, hbf U hU hW⟩⟩ rfl ?_ hslz ?_ (hsum 8 (Nat.le_of_eq (hlw (by omega)))) hdg hf
        · rw [List.length_map]
          rw [has, List.length_cons] at hasl
          omega
        · show st.map (qVl ad b) = _
          rw [hsplit, has, List.map_cons, List.reverse_cons, List.append_assoc]
          rfl
  · have hhe : (qMe a).2.2.2.2 = [] := w13.2.resolve_left (by omega)
    have hC := hcwE hhe
    rw [hC] at hM hpay2 w1
    obtain ⟨k0, n0, as', has, hrc⟩ := hrecv ⟨by omega, by omega, by omega⟩
    rcases w3 with ⟨h9, -⟩ | ⟨h9, -⟩ | ⟨-, wi, wnm, wrt⟩
    · omega
    · omega
    · have hret : (qMe a).2.2.2.1 = none := by
        rw [wrt] at w10
        cases hr9 : (qMe a).2.2.2.1 with
        | none => rfl
        | some ty => rw [hr9] at w10; cases w10
      rw [hret] at hM hpay2 w1
      rcases hi with ⟨-, h9⟩ | ⟨-, h9⟩ | ⟨rfl, -⟩
      · omega
      · omega
      · refine vx_runIN (host := host) (b := ad k0 n0) (As := as'.map (qVl ad 0)) (n := (qMq a).2.2.2.2.2) hCF hM ⟨⟨⟨rfl, rfl, hrm.1, hrm.2, hpay2, List.mem_cons_self⟩, hts _ w1, hind, w5, hlen, hts _ hw⟩, wnm, hts _ wi⟩ ⟨qBf_blind, fun U hU hW => ⟨by rw [has]; rfl, hbf U hU hW⟩⟩ rfl ?_ hslz ?_ (hsum 8 (Nat.le_of_eq (hlw (by omega)))) hdg hf
        · rw [List.length_map]
          rw [has, List.length_cons] at hasl
          omega
        · show st.map (qVl ad b) = _
          rw [hsplit, has, List.map_cons, List.reverse_cons, List.append_assoc]
          rfl
end QR
