/-! ===== a whole run, a method's body ===== -/
theorem qFind_s : ∀ {l : List qI} {pc : Nat} {i : Instr} {n a b c : Nat}, qFind l pc = some (i, n, a, b, c) → ∃ d, (pc, i, n, a, b, c, d) ∈ l
  | [], _, _, _, _, _, _, h => by cases h
  | (p, i0, n0, a0, b0, c0, d0) :: l, pc, i, n, a, b, c, h => by
    unfold qFind at h
    cases hb : Nat.beq p pc with
    | true =>
      rw [hb] at h
      simp only [cond_true] at h
      cases h
      have := Nat.eq_of_beq_eq_true hb
      subst this
      exact ⟨d0, List.mem_cons_self⟩
    | false =>
      rw [hb] at h
      simp only [cond_false] at h
      obtain ⟨d, hd⟩ := qFind_s h
      exact ⟨d, List.mem_cons_of_mem _ hd⟩
theorem q_fetch {own : String} {cc : ByteArray} {ini : Bool} {C : qCd} {pc : Nat} {i : Instr} {n a g k : Nat} (hC : qOkC own cc ini C = true) (h : qFetch C pc = some (i, n, a, g, k)) : ∃ dd, qOkI own cc ini (pc, i, n, a, g, k, dd) = true := by
  obtain ⟨d, hd⟩ := qFind_s h
  refine ⟨d, ?_⟩
  unfold qOkC at hC
  rw [List.getD_eq_getElem?_getD] at hd
  cases hq : C.1[pc / 16]? with
  | none => rw [hq] at hd; cases hd
  | some l =>
    rw [hq] at hd
    exact List.all_eq_true.mp (List.all_eq_true.mp hC l (List.mem_of_getElem? hq)) _ hd
def q7 (C : qCd) : Bool := C.1.any (fun l => l.any (fun q => Nat.beq q.2.2.2.2.2.1 7))
theorem q7_at {C : qCd} {pc : Nat} {i : Instr} {n a g k : Nat} (h : qFetch C pc = some (i, n, a, g, k)) (hk : k = 7) : q7 C = true := by
  obtain ⟨d, hd⟩ := qFind_s h
  rw [List.getD_eq_getElem?_getD] at hd
  cases hq : C.1[pc / 16]? with
  | none => rw [hq] at hd; cases hd
  | some l =>
    rw [hq] at hd
    subst hk
    exact List.any_eq_true.mpr ⟨l, List.mem_of_getElem? hq, List.any_eq_true.mpr ⟨_, hd, rfl⟩⟩
def qE3 (o : qO) : Prop := match o with
  | .inr (.inr k, _) => k < 3
  | _ => True
theorem qBr_i {c : Prop} [Decidable c] {t f : Nat} {ls st : List qV} {σ : qS} {o : qO} (h : qBr c t f ls st σ = some o) : qE3 o := by
  unfold qBr at h
  split at h <;> (cases qNx_s h; trivial)
theorem qIf_i {cd : Jvm.ClassFile.Cond} {x y : Int} {t f : Nat} {ls st : List qV} {σ : qS} {o : qO} (h : qIf cd x y t f ls st σ = some o) : qE3 o := by
  unfold qIf at h
  split at h <;> exact qBr_i h
theorem qInv_i {T : qT} {call : qCl} {hs : List qHd} {pc n a g k : Nat} {ls st : List qV} {σ : qS} {o : qO} (hc : ∀ as σ r σ', call a as σ = some (r, σ') → ∀ k, r = .inr k → k < 3) (h : qInv T call hs pc n a g k ls st σ = some o) : qE3 o := by
  obtain ⟨-, -, -, -, r, σ1, hcl, hres⟩ := qInv_s h
  rcases r with (_ | v) | k9
  · cases qNx_s hres; trivial
  · cases qNx_s hres; trivial
  · simp only at hres
    cases hq : qHand hs pc k9 with
    | none =>
      simp only [hq] at hres
      cases hres
      exact hc _ _ _ _ hcl k9 rfl
    | some gj =>
      simp only [hq] at hres
      cases qNx_s hres
      trivial
theorem qEx_i {own : String} {cc : ByteArray} {ini : Bool} {T : qT} {call : qCl} {sc : Int × (Int → Int)} {hs : List qHd} {rt pc : Nat} {i : Instr} {n a b c dd : Nat} {ls st : List qV} {σ : qS} {o : qO} (hI : qOkI own cc ini (pc, i, n, a, b, c, dd) = true) (hc : ∀ as σ r σ', a < qNm → call a as σ = some (r, σ') → ∀ k, r = .inr k → k < 3) (h : qEx T call sc hs rt pc i n a b c ls st σ = some o) : qE3 o := by
  unfold qOkI at hI
  obtain ⟨-, h3⟩ := q_and hI
  cases i
  case new x =>
    match a, h, h3 with
    | 0, h, h3 =>
      simp only [qEx] at h
      split at h
      · obtain ⟨-, h⟩ := qChk_s h; cases qNx_s h; trivial
      · cases h
    | a9 + 1, h, h3 =>
      match st, h with
      | [], h =>
        cases h
        have h3 : qThrB own cc pc x b c = true := h3
        unfold qThrB at h3
        simp only [Bool.and_eq_true] at h3
        show b < 3
        have := h3.1.1.1.1
        simpa using this
  case invokestatic x =>
    cases hb : Nat.beq c 7 with
    | true =>
      simp only [qEx, hb, cond_true] at h
      split at h
      · obtain ⟨-, h⟩ := qChk_s h; cases qNx_s h; trivial
      · cases h
    | false =>
      simp only [hb, cond_false] at h3
      simp only [qEx, hb, cond_false] at h
      exact qInv_i (fun as σ r σ' hq => hc as σ r σ' (qInvB_s (q_and h3).1).1 hq) h
  case invokevirtual x =>
    exact qInv_i (fun as σ r σ' hq => hc as σ r σ' (qInvB_s (q_and h3).1).1 hq) h
  case invokespecial x =>
    cases hb : Nat.beq c 6 with
    | true =>
      simp only [qEx, hb, cond_true] at h
      split at h
      · obtain ⟨-, h⟩ := qChk_s h; cases qNx_s h; trivial
      · cases h
    | false =>
      simp only [hb, cond_false] at h3
      simp only [qEx, hb, cond_false] at h
      exact qInv_i (fun as σ r σ' hq => hc as σ r σ' (qInvB_s (q_and h3).1).1 hq) h
  all_goals simp only [qEx] at h
  all_goals (first
    | (cases h; done)
    | (cases qNx_s h; trivial)
    | (obtain ⟨x, -, rfl⟩ := qLdI_s h; trivial)
    | (obtain ⟨x, -, rfl⟩ := qLdL_s h; trivial)
    | (obtain ⟨x, -, -, -, rfl⟩ := qLdA_s h; trivial)
    | skip)
  all_goals repeat' split at h
  all_goals (first
    | (cases h; done)
    | (cases qNx_s h; trivial)
    | (obtain ⟨-, rfl⟩ := qSto_s h; trivial)
    | (obtain ⟨-, rfl⟩ := qStoL_s h; trivial)
    | (obtain ⟨-, h⟩ := qChk_s h; cases qNx_s h; trivial)
    | (obtain ⟨-, h⟩ := qChk_s h; obtain ⟨-, rfl⟩ := qSto_s h; trivial)
    | exact qIf_i h
    | exact qBr_i h
    | (obtain ⟨-, h⟩ := qChk_s h; cases h; trivial)
    | (cases h; trivial)
    | (cases hb : rt.beq 1 with
      | true => (rw [hb] at h; simp only [cond_true] at h; cases h; trivial)
      | false => (rw [hb] at h; simp only [cond_false] at h; obtain ⟨-, h⟩ := qChk_s h; cases h; trivial)))
theorem qRun_i {own : String} {cc : ByteArray} {ini : Bool} {T : qT} {call : qCl} {sc : Int × (Int → Int)} {C : qCd} (hC : qOkC own cc ini C = true) (hc : ∀ m as σ r σ', m < qNm → call m as σ = some (r, σ') → ∀ k, r = .inr k → k < 3) : ∀ {N pc : Nat} {ls st : List qV} {σ : qS} {r : qR × qS}, qRun T call sc C N pc ls st σ = some r → ∀ k, r.1 = .inr k → k < 3
  | 0, _, _, _, _, _, h => by cases h
  | N + 1, pc, ls, st, σ, r, h => by
    unfold qRun at h
    split at h
    · cases h
    · rename_i r' hs
      cases h
      unfold qStep at hs
      split at hs
      · cases hs
      · rename_i hf
        obtain ⟨dd, hI⟩ := q_fetch hC hf
        have h3 := qEx_i hI (fun as σ r σ' hm hq => hc _ as σ r σ' hm hq) hs
        intro k hk
        obtain ⟨r1, σ1⟩ := r
        simp only at hk
        subst hk
        exact h3
    · exact qRun_i hC hc h
section QR
variable {d : Nat} {p : Program} {l : Launch} {e : Env} {R : Room} {s : State} {m : MethodId} {args : Array Value} {below : List Frame} {meth : Method} {c : Code} {Q : State → Prop}
variable {D : va_G} {cA : Nat → ClassId} {b : Nat} {A : Nat → Prop} {own : String} {cc : ByteArray} {nL c0 : Nat} {z0 : qZ} {ini : Bool} {hh : List (Nat × Nat × Nat × Nat)}
theorem q_run {call : qCl} {sc : Int × (Int → Int)} {C : qCd} (hC : qOkC own cc ini C = true) (hMt : ∀ m, m < qNm → qOkMt m = true)
    (hcall : ∀ m as σ r σ', m < qNm → call m as σ = some (r, σ') → qMetOK l d m as σ r σ' ∧ qLe σ σ' ∧ ∀ k, r = .inr k → k < 3) (hHd : qHdB own cc C.2.1 hh = true) (hjs : ∀ h ∈ C.2.1, h.2.2.2.2 < nL)
    (hsc : 0 ≤ sc.1 → ∃ (zs : Nat → Int32) (N : Nat), va_X b N zs s s.heap ∧ b < s.heap.size ∧ ¬ A b ∧ sc.1 = N ∧ qIn sc.1 ∧ ∀ j : Nat, j < N → sc.2 j = (zs j).toInt)
    (hcell : 0 ≤ sc.1 → q7 C = true → qMetC l d) (hcl : qClLe call) (X : qCx (d + 1) p l R s m args meth c D cA A own cc nL ini hh) {r : qR × qS} (hR : r.2.1.2.2.1 ≤ c0 + R.cells ∧ r.2.1.2.2.2.1 ≤ z0.1 + R.slots)
    (hK : qKn p l e R s m args below meth c Q D cA b A own cc nL c0 z0 C.2.2.1 (.inr r)) (hT : qTh p l e R s m args below meth c Q D cA b A own cc nL c0 z0 (.inr r)) :
    ∀ {N pc : Nat} {ls st : List qV} {σ : qS} {ad : qA} {objs : List (Nat × Int)} {H : Heap} {locs : List Loc} {sl : Array Slot} {cells slots : Nat}, qRun qT0 call sc C N pc ls st σ = some r → qSI D cA b A s nL c0 z0 ad objs H locs sl cells slots ls st σ →
    W p l e R s m args below meth c H locs cells slots Q (F0 m pc sl (st.map (qVl ad b)))
  | 0, _, _, _, _, _, _, _, _, _, _, _, h, _ => by cases h
  | N + 1, pc, ls, st, σ, ad, objs, H, locs, sl, cells, slots, h, S => by
    unfold qRun at h
    split at h
    · cases h
    · rename_i r' hs
      cases h
      unfold qStep at hs
      split at hs
      · cases hs
      · rename_i hf
        obtain ⟨dd, hI⟩ := q_fetch hC hf
        exact q_step hI hMt hcall hHd hjs hsc (fun a b => hcell a (q7_at hf b)) X S hs hR hK hT
    · rename_i pc' ls' st' σ' hs
      have h1 := qRun_le hcl h
      unfold qStep at hs
      split at hs
      · cases hs
      · rename_i hf
        obtain ⟨dd, hI⟩ := q_fetch hC hf
        refine q_step hI hMt hcall hHd hjs hsc (fun a b => hcell a (q7_at hf b)) X S hs ⟨Nat.le_trans h1.2.1 hR.1, Nat.le_trans h1.2.2 hR.2⟩ ?_ trivial
        intro ad' objs' H' locs' sl' cells' slots' S'
        exact q_run hC hMt hcall hHd hjs hsc hcell hcl X hR hK hT h S'
end QR
