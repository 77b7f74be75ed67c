/-! ===== the check of all instructions, along the bytes ===== -/
def hDrop (k : List UInt8 → Bool) : Nat → List UInt8 → Bool
  | 0, bs => k bs
  | n + 1, _ :: r => hDrop k n r
  | _ + 1, [] => false
theorem hDrop_ok {k : List UInt8 → Bool} : ∀ {n : Nat} {bs : List UInt8}, hDrop k n bs = true → k (bs.drop n) = true
  | 0, bs, h => h
  | n + 1, _ :: r, h => hDrop_ok (n := n) (bs := r) h
  | n + 1, [], h => by cases h
def hThr (own : String) (bs : List UInt8) (x e w : Nat) : Bool :=
  Nat.blt e 3 && decide (own = "Facingleaf") && qSt.any (fun q => decide (q.1 = own) && (match w with
    | 0 => hDrop (fun r => decide (dOne r = some (.ldc q.2.1, 2))) 4 bs && hDrop (fun r => decide (dOne r = some (.invokespecial (qXn.getD e ("", 0)).2, 3))) 6 bs && hDrop (fun r => decide (dOne r = some (.athrow, 1))) 9 bs
    | _ => hDrop (fun r => decide (dOne r = some (.ldc_w q.2.1, 3))) 4 bs && hDrop (fun r => decide (dOne r = some (.invokespecial (qXn.getD e ("", 0)).2, 3))) 7 bs && hDrop (fun r => decide (dOne r = some (.athrow, 1))) 10 bs)) &&
  hDrop (fun r => decide (dOne r = some (.dup, 1))) 3 bs && qExc.any (fun w => match w with
    | .classLink o x2 n => Nat.beq x2 x && decide (o = own) && decide (n = qX e)
    | _ => false)
def hL (pc n : Nat) (i : Instr) : Bool := match i with
  | .tableswitch df lo hi offs => decide (0 ≤ (pc : Int) + df) && offs.toList.all (fun o => decide (0 ≤ (pc : Int) + o)) && decide ((offs.size : Int) = hi - lo + 1)
  | i => Nat.beq n (qLn i)
def hRest (own : String) (ini : Bool) (T : Nat → Nat → Nat → Bool) (pc : Nat) (i : Instr) (a b c d : Nat) : Bool := match i with
  | .ldc x => qWordB d (.constant own x (Int32.ofNat a)) && Nat.blt a 2147483648
  | .ldc_w x => qWordB d (.constant own x (Int32.ofNat a)) && Nat.blt a 2147483648
  | .ldc2_w x => qWordB d (.constantLong own x (Int64.ofNat a)) && Nat.blt a 2147483648
  | .iconst x => decide (-1 ≤ x) && decide (x ≤ 5)
  | .bipush x => decide (-128 ≤ x) && decide (x ≤ 127)
  | .sipush x => decide (-32768 ≤ x) && decide (x ≤ 32767)
  | .iinc _ x => decide (-128 ≤ x) && decide (x ≤ 127)
  | .goto o => qJmp pc o a
  | .ifCond _ o => qJmp pc o a
  | .if_icmp _ o => qJmp pc o a
  | .if_acmp _ o => qJmp pc o a
  | .ifnull o => qJmp pc o a
  | .ifnonnull o => qJmp pc o a
  | .getfield x => qOkF own x a b c d
  | .putfield x => qOkF own x a b c d && (!((qCn a).2.1 b).2.2.2 || (ini && Nat.beq c 0 && decide (((qCn a).2.1 b).1 = own)))
  | .new x => (match a with
      | 0 => Nat.blt b 11 && decide (qKd qT0 b = (0, (b : Int), 0, 0, 0)) && qWordB d (.classLink own x (qCn b).1)
      | _ => T x b c)
  | .newarray ty => decide (ty = qTyN (qKd qT0 b).1) && decide (0 ≤ (qKd qT0 b).2.1) && decide ((qKd qT0 b).2.1 ≤ 30000)
  | .anewarray x => decide (0 ≤ (qKd qT0 b).2.1) && decide ((qKd qT0 b).2.1 ≤ 30000) && Nat.ble (qTi (qKd qT0 b).2.2.1) 6 && qWordB d (.classLink own x (qEl (qKd qT0 b).2.2.1))
  | .multianewarray x y => Nat.beq y 2 && decide (0 ≤ (qKd qT0 b).2.1) && decide ((qKd qT0 b).2.1 ≤ 30000) && decide (0 ≤ (qKd qT0 c).2.1) && decide ((qKd qT0 c).2.1 ≤ 30000) && Nat.beq (qTi c) 7 && qWordB d (.classLink own x "[[I")
  | .invokestatic x => bif Nat.beq c 7 then Nat.beq a 150 && qWordB d (.methodLink own x (qMe 150).1) else qInvB own x a b c d && (Nat.beq (c % 10) 2 || Nat.beq (c % 10) 3 || Nat.beq (c % 10) 8)
  | .invokevirtual x => qInvB own x a b c d && (Nat.beq (c % 10) 0 || Nat.beq (c % 10) 1)
  | .invokespecial x => bif Nat.beq c 6 then qWordB d (.methodLink own x Lib.objectInit) else qInvB own x a b c d && (Nat.beq (c % 10) 4 || Nat.beq (c % 10) 5)
  | _ => true
theorem h_eq {own : String} {cc : ByteArray} {ini : Bool} {pc n a b c d : Nat} {i : Instr} : qOkI own cc ini (pc, i, n, a, b, c, d) = (decide (decode cc pc = .ok (i, n)) && hL pc n i && hRest own ini (fun x e w => qThrB own cc pc x e w) pc i a b c d) := by
  cases i <;> rfl
theorem hRest_mono {own : String} {ini : Bool} {T T' : Nat → Nat → Nat → Bool} {pc a b c d : Nat} {i : Instr} (hT : ∀ x e w, T x e w = true → T' x e w = true) (h : hRest own ini T pc i a b c d = true) : hRest own ini T' pc i a b c d = true := by
  cases i
  case new x =>
    match a, h with
    | 0, h => exact h
    | a + 1, h => exact hT _ _ _ h
  all_goals exact h
theorem hThr_ok {own : String} {cc : ByteArray} {pc : Nat} {bs : List UInt8} (hb : cc.data.toList.drop pc = bs) {x e w : Nat} (h : hThr own bs x e w = true) : qThrB own cc pc x e w = true := by
  have dk : ∀ {k : Nat} {i : Instr} {n : Nat}, hDrop (fun r => decide (dOne r = some (i, n))) k bs = true → decide (decode cc (pc + k) = .ok (i, n)) = true := fun {k i n} h => by
    have z := of_decide_eq_true (hDrop_ok h)
    rw [← hb, List.drop_drop] at z
    exact decide_eq_true (dOne_ok rfl z)
  unfold hThr at h
  unfold qThrB
  simp only [Bool.and_eq_true] at h ⊢
  obtain ⟨⟨⟨⟨h1, h2⟩, h3⟩, h4⟩, h5⟩ := h
  refine ⟨⟨⟨⟨h1, h2⟩, ?_⟩, dk h4⟩, h5⟩
  rw [List.any_eq_true] at h3 ⊢
  obtain ⟨q, hq, h6⟩ := h3
  refine ⟨q, hq, ?_⟩
  rw [Bool.and_eq_true] at h6 ⊢
  refine ⟨h6.1, ?_⟩
  match w, h6.2 with
  | 0, h7 =>
    simp only [Bool.and_eq_true] at h7 ⊢
    exact ⟨⟨dk h7.1.1, dk h7.1.2⟩, dk h7.2⟩
  | w + 1, h7 =>
    simp only [Bool.and_eq_true] at h7 ⊢
    exact ⟨⟨dk h7.1.1, dk h7.1.2⟩, dk h7.2⟩
def hDec (cc : ByteArray) (bs : List UInt8) (pc n : Nat) (i : Instr) : Bool := match i with
  | .tableswitch df lo hi offs => decide (decode cc pc = .ok (.tableswitch df lo hi offs, n))
  | i => decide (dOne bs = some (i, n))
theorem hDec_ok {cc : ByteArray} {bs : List UInt8} {pc n : Nat} {i : Instr} (hb : cc.data.toList.drop pc = bs) (h : hDec cc bs pc n i = true) : decide (decode cc pc = .ok (i, n)) = true := by
  cases i
  case tableswitch => exact h
  all_goals exact decide_eq_true (dOne_ok hb (of_decide_eq_true h))
def hOkI (own : String) (cc : ByteArray) (bs : List UInt8) (ini : Bool) (q : qI) : Bool := match q with
  | (pc, i, n, a, b, c, d) => hDec cc bs pc n i && hL pc n i && hRest own ini (fun x e w => hThr own bs x e w) pc i a b c d
theorem hOkI_ok {own : String} {cc : ByteArray} {bs : List UInt8} {ini : Bool} {q : qI} (hb : cc.data.toList.drop q.1 = bs) (h : hOkI own cc bs ini q = true) : qOkI own cc ini q = true := by
  obtain ⟨pc, i, n, a, b, c, d⟩ := q
  rw [h_eq]
  simp only [hOkI, Bool.and_eq_true] at h
  rw [hDec_ok hb h.1.1, h.1.2, hRest_mono (fun x e w z => hThr_ok hb z) h.2]
  rfl
def hGo (own : String) (cc : ByteArray) (ini : Bool) : List qI → Nat → List UInt8 → Bool
  | [], _, _ => true
  | q :: l, p, bs => Nat.ble p q.1 && hDrop (fun r => hOkI own cc r ini q && hGo own cc ini l q.1 r) (q.1 - p) bs
theorem hGo_ok {own : String} {cc : ByteArray} {ini : Bool} : ∀ {l : List qI} {p : Nat} {bs : List UInt8}, cc.data.toList.drop p = bs → hGo own cc ini l p bs = true → ∀ q ∈ l, qOkI own cc ini q = true
  | [], _, _, _, _ => fun q hq => absurd hq List.not_mem_nil
  | q0 :: l, p, bs, hb, h => by
    unfold hGo at h
    rw [Bool.and_eq_true] at h
    have hp := Nat.le_of_ble_eq_true h.1
    have z := hDrop_ok h.2
    simp only [Bool.and_eq_true] at z
    have hb2 : cc.data.toList.drop q0.1 = bs.drop (q0.1 - p) := by
      rw [← hb, List.drop_drop]
      congr 1
      omega
    intro q hq
    rcases List.mem_cons.mp hq with rfl | hq
    · exact hOkI_ok hb2 z.1
    · exact hGo_ok hb2 z.2 q hq
def hC (own : String) (cc : ByteArray) (ini : Bool) (C : qCd) : Bool := hGo own cc ini C.1.flatten 0 cc.data.toList
theorem hC_ok {own : String} {cc : ByteArray} {ini : Bool} {C : qCd} (h : hC own cc ini C = true) : qOkC own cc ini C = true := by
  have g := hGo_ok (p := 0) rfl h
  unfold qOkC
  rw [List.all_eq_true]
  intro l hl
  rw [List.all_eq_true]
  exact fun q hq => g q (List.mem_flatten.mpr ⟨l, hl, hq⟩)
def hAllB (m : Nat) : Bool := qOkMt m && hC (qMe m).1.cls (qMe m).2.1 (decide ((qMe m).1.name = "<init>")) (qP m)
theorem hAllB_ok {m : Nat} (h : hAllB m = true) : qOkAll m = true := by
  unfold hAllB at h
  rw [Bool.and_eq_true] at h
  unfold qOkAll
  rw [h.1, hC_ok h.2]
  rfl
