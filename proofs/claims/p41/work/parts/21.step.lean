/-! ===== one step ===== -/
def qKdB (k : Nat) : Bool := match qKd qT0 k with
  | (1, len, _, _, _) => decide (0 ≤ len) && decide (len ≤ 30000)
  | (4, _, k2, _, _) => !Nat.blt k2 11 || (Nat.ble (qTi k2) 6 && decide (qKd qT0 k2 = (0, (k2 : Int), 0, 0, 0)) && decide (qEl k2 = (qCn k2).1))
  | _ => true
theorem qKdB_all : ∀ k, k < qT0.1.length → qKdB k = true := by decide +kernel
theorem qKdB_ok (k : Nat) : qKdB k = true := by
  by_cases h : k < qT0.1.length
  · exact qKdB_all k h
  · have e : qKd qT0 k = (9, 0, 0, 0, 0) := by
      unfold qKd
      rw [List.getD_eq_getElem?_getD, List.getElem?_eq_none (Nat.le_of_not_lt h)]
      rfl
    unfold qKdB
    rw [e]
    rfl
section QR
variable {d : Nat} {p : Program} {l : Launch} {e : Env} {R : Room} {s : State} {m : MethodId} {args : Array Value} {below : List Frame} {meth : Method} {c : Code} {Q : State → Prop}
variable {D : va_G} {cA : Nat → ClassId} {b : Nat} {A : Nat → Prop} {own : String} {cc : ByteArray} {nL c0 rt : Nat} {z0 : qZ} {ini : Bool} {hh : List (Nat × Nat × Nat × Nat)}
variable {ad : qA} {objs : List (Nat × Int)} {H : Heap} {locs : List Loc} {sl : Array Slot} {cells slots pc : Nat} {ls st : List qV} {σ : qS} {o : qO}
theorem q_and {x y : Bool} (h : (x && y) = true) : x = true ∧ y = true := by simpa using h
theorem q_step {call : qCl} {hs : List qHd} {sc : Int × (Int → Int)} {i : Instr} {n a g k dd : Nat} (hI : qOkI own cc ini (pc, i, n, a, g, k, dd) = true) (hMt : ∀ m, m < qNm → qOkMt m = true)
    (hcall : ∀ m as σ r σ', m < qNm → call m as σ = some (r, σ') → qMetOK l d m as σ r σ' ∧ qLe σ σ' ∧ ∀ k, r = .inr k → k < 3) (hHd : qHdB own cc hs hh = true) (hjs : ∀ h ∈ hs, h.2.2.2.2 < nL)
    (hsc : 0 ≤ sc.1 → ∃ (zs : Nat → Int32) (N : Nat), va_X b N zs s s.heap ∧ b < s.heap.size ∧ ¬ A b ∧ sc.1 = N ∧ qIn sc.1 ∧ ∀ j : Nat, j < N → sc.2 j = (zs j).toInt)
    (hcell : 0 ≤ sc.1 → k = 7 → qMetC l d) (X : qCx (d + 1) p l R s m args meth c D cA A own cc nL ini hh) (S : qSI D cA b A s nL c0 z0 ad objs H locs sl cells slots ls st σ) (h : qEx qT0 call sc hs rt pc i n a g k ls st σ = some o) (hR : (qOs o).1.2.2.1 ≤ c0 + R.cells ∧ (qOs o).1.2.2.2.1 ≤ z0.1 + R.slots)
    (hK : qKn p l e R s m args below meth c Q D cA b A own cc nL c0 z0 rt o) (hT : qTh p l e R s m args below meth c Q D cA b A own cc nL c0 z0 o) :
    W p l e R s m args below meth c H locs cells slots Q (F0 m pc sl (st.map (qVl ad b))) := by
  unfold qOkI at hI
  obtain ⟨hI, h3⟩ := q_and hI
  obtain ⟨hdg, hn⟩ := q_and hI
  have hdg := of_decide_eq_true hdg
  have hc1 := S.2.2.2.2.2.2.2.1
  have hc2 := S.2.2.2.2.2.2.2.2.1
  cases i with
  | iconst x =>
    obtain rfl : n = 1 := Nat.eq_of_beq_eq_true hn
    obtain ⟨h4, h5⟩ := q_and h3
    cases qNx_s h
    exact qr_const (Or.inl ⟨rfl, rfl, of_decide_eq_true h4, of_decide_eq_true h5⟩) X S hdg hK
  | bipush x =>
    obtain rfl : n = 2 := Nat.eq_of_beq_eq_true hn
    obtain ⟨h4, h5⟩ := q_and h3
    cases qNx_s h
    exact qr_const (Or.inr (Or.inl ⟨rfl, rfl, of_decide_eq_true h4, of_decide_eq_true h5⟩)) X S hdg hK
  | sipush x =>
    obtain rfl : n = 3 := Nat.eq_of_beq_eq_true hn
    obtain ⟨h4, h5⟩ := q_and h3
    cases qNx_s h
    exact qr_const (Or.inr (Or.inr ⟨rfl, rfl, of_decide_eq_true h4, of_decide_eq_true h5⟩)) X S hdg hK
  | ldc x =>
    obtain rfl : n = 2 := Nat.eq_of_beq_eq_true hn
    obtain ⟨h4, h5⟩ := q_and h3
    cases qNx_s h
    exact qr_ldc (Or.inl ⟨rfl, rfl⟩) (by simpa using h5) (qWordB_in h4 rfl) X S hdg hK
  | ldc_w x =>
    obtain rfl : n = 3 := Nat.eq_of_beq_eq_true hn
    obtain ⟨h4, h5⟩ := q_and h3
    cases qNx_s h
    exact qr_ldc (Or.inr ⟨rfl, rfl⟩) (by simpa using h5) (qWordB_in h4 rfl) X S hdg hK
  | aconst_null =>
    obtain rfl : n = 1 := Nat.eq_of_beq_eq_true hn
    cases qNx_s h
    exact qr_null X S hdg hK
  | iload_n j =>
    obtain rfl : n = 1 := Nat.eq_of_beq_eq_true hn
    exact qr_iload (Or.inl ⟨j, rfl, rfl, rfl⟩) X S hdg h hK
  | iload j =>
    obtain rfl : n = 2 := Nat.eq_of_beq_eq_true hn
    exact qr_iload (Or.inr ⟨rfl, rfl⟩) X S hdg h hK
  | aload_n j =>
    obtain rfl : n = 1 := Nat.eq_of_beq_eq_true hn
    exact qr_aload (Or.inl ⟨j, rfl, rfl, rfl⟩) X S hdg h hK
  | aload j =>
    obtain rfl : n = 2 := Nat.eq_of_beq_eq_true hn
    exact qr_aload (Or.inr ⟨rfl, rfl⟩) X S hdg h hK
  | istore_n j =>
    obtain rfl : n = 1 := Nat.eq_of_beq_eq_true hn
    match st, S, h with
    | .inl x :: r, S, h => exact qr_istore (Or.inl ⟨j, rfl, rfl, rfl⟩) X S hdg h hK
  | istore j =>
    obtain rfl : n = 2 := Nat.eq_of_beq_eq_true hn
    match st, S, h with
    | .inl x :: r, S, h => exact qr_istore (Or.inr ⟨rfl, rfl⟩) X S hdg h hK
  | astore_n j =>
    obtain rfl : n = 1 := Nat.eq_of_beq_eq_true hn
    match st, S, h with
    | .inr (.inl x) :: r, S, h => exact qr_astore (Or.inl ⟨j, rfl, rfl, rfl⟩) X S hdg h hK
  | astore j =>
    obtain rfl : n = 2 := Nat.eq_of_beq_eq_true hn
    match st, S, h with
    | .inr (.inl x) :: r, S, h => exact qr_astore (Or.inr ⟨rfl, rfl⟩) X S hdg h hK
  | iinc j x =>
    obtain rfl : n = 3 := Nat.eq_of_beq_eq_true hn
    simp only [qEx] at h
    split at h
    · rename_i y hy
      exact qr_iinc X S hdg hy h hK
    · cases h
  | dup =>
    obtain rfl : n = 1 := Nat.eq_of_beq_eq_true hn
    match st, S, h with
    | .inl x :: r, S, h =>
      cases qNx_s h
      exact qr_dup rfl X S hdg hK
    | .inr (.inl x) :: r, S, h =>
      cases qNx_s h
      exact qr_dup rfl X S hdg hK
  | dup2 =>
    obtain rfl : n = 1 := Nat.eq_of_beq_eq_true hn
    match st, S, h with
    | .inl x :: .inr (.inl y) :: r, S, h =>
      cases qNx_s h
      exact qr_dup2 rfl rfl X S hdg hK
  | imul =>
    obtain rfl : n = 1 := Nat.eq_of_beq_eq_true hn
    match a, st, S, h with
    | 0, .inl y :: .inl x :: r, S, h => exact qr_arith (Or.inr (Or.inr ⟨rfl, rfl⟩)) X S hdg h hK
    | a9 + 1, .inl y :: .inl x :: r, S, h =>
      cases qNx_s h
      exact qr_mulW X S hdg hK
  | ishr =>
    obtain rfl : n = 1 := Nat.eq_of_beq_eq_true hn
    match a, st, S, h with
    | 0, .inl y :: .inl x :: r, S, h => exact qr_shr X S hdg h hK
    | a9 + 1, .inl y :: .inl x :: r, S, h => exact qr_shrN X S hdg h hK
  | iushr =>
    obtain rfl : n = 1 := Nat.eq_of_beq_eq_true hn
    match st, S, h with
    | .inl y :: .inl x :: r, S, h => exact qr_iushr X S hdg h hK
  | lload_n j =>
    obtain rfl : n = 1 := Nat.eq_of_beq_eq_true hn
    exact qr_lload (Or.inl ⟨j, rfl, rfl, rfl⟩) X S hdg h hK
  | lload j =>
    obtain rfl : n = 2 := Nat.eq_of_beq_eq_true hn
    exact qr_lload (Or.inr ⟨rfl, rfl⟩) X S hdg h hK
  | lstore_n j =>
    obtain rfl : n = 1 := Nat.eq_of_beq_eq_true hn
    match st, S, h with
    | .inr (.inr (.inl x)) :: r, S, h => exact qr_lstore (Or.inl ⟨j, rfl, rfl, rfl⟩) X S hdg h hK
  | lstore j =>
    obtain rfl : n = 2 := Nat.eq_of_beq_eq_true hn
    match st, S, h with
    | .inr (.inr (.inl x)) :: r, S, h => exact qr_lstore (Or.inr ⟨rfl, rfl⟩) X S hdg h hK
  | ldc2_w x =>
    obtain rfl : n = 3 := Nat.eq_of_beq_eq_true hn
    obtain ⟨h4, h5⟩ := q_and h3
    cases qNx_s h
    exact qr_ldc2 (by simpa using h5) (qWordB_in h4 rfl) X S hdg hK
  | lshl =>
    obtain rfl : n = 1 := Nat.eq_of_beq_eq_true hn
    match st, S, h with
    | .inl y :: .inr (.inr (.inl x)) :: r, S, h => exact qr_shlL X S hdg h hK
  | lshr =>
    obtain rfl : n = 1 := Nat.eq_of_beq_eq_true hn
    match st, S, h with
    | .inl y :: .inr (.inr (.inl x)) :: r, S, h => exact qr_shrL X S hdg h hK
  | land =>
    obtain rfl : n = 1 := Nat.eq_of_beq_eq_true hn
    match st, S, h with
    | .inr (.inr (.inl y)) :: .inr (.inr (.inl x)) :: r, S, h =>
      cases qNx_s h
      exact qr_andL (Or.inl ⟨rfl, rfl⟩) X S hdg hK
  | lor =>
    obtain rfl : n = 1 := Nat.eq_of_beq_eq_true hn
    match st, S, h with
    | .inr (.inr (.inl y)) :: .inr (.inr (.inl x)) :: r, S, h =>
      cases qNx_s h
      exact qr_andL (Or.inr ⟨rfl, rfl⟩) X S hdg hK
  | l2i =>
    obtain rfl : n = 1 := Nat.eq_of_beq_eq_true hn
    match st, S, h with
    | .inr (.inr (.inl x)) :: r, S, h =>
      cases qNx_s h
      exact qr_l2i X S hdg hK
  | pop =>
    obtain rfl : n = 1 := Nat.eq_of_beq_eq_true hn
    match st, S, h with
    | .inl x :: r, S, h =>
      cases qNx_s h
      exact qr_pop X S hdg hK
  | lreturn =>
    obtain rfl : n = 1 := Nat.eq_of_beq_eq_true hn
    match st, S, h with
    | [.inr (.inr (.inl x))], S, h =>
      have hx : qIl x := S.2.2.2.2.2.2.1 _ List.mem_cons_self
      obtain ⟨h4, h⟩ := qChk_s h
      cases h
      exact hK ad objs H locs sl cells slots pc ls S (Or.inl ⟨x, rfl, hx, hdg, h4⟩)
  | iadd =>
    obtain rfl : n = 1 := Nat.eq_of_beq_eq_true hn
    match st, S, h with
    | .inl y :: .inl x :: r, S, h => exact qr_arith (Or.inl ⟨rfl, rfl⟩) X S hdg h hK
  | isub =>
    obtain rfl : n = 1 := Nat.eq_of_beq_eq_true hn
    match st, S, h with
    | .inl y :: .inl x :: r, S, h => exact qr_arith (Or.inr (Or.inl ⟨rfl, rfl⟩)) X S hdg h hK
  | idiv =>
    obtain rfl : n = 1 := Nat.eq_of_beq_eq_true hn
    match st, S, h with
    | .inl y :: .inl x :: r, S, h => exact qr_div X S hdg h hK
  | irem =>
    obtain rfl : n = 1 := Nat.eq_of_beq_eq_true hn
    match st, S, h with
    | .inl y :: .inl x :: r, S, h => exact qr_rem X S hdg h hK
  | ishl =>
    obtain rfl : n = 1 := Nat.eq_of_beq_eq_true hn
    match st, S, h with
    | .inl y :: .inl x :: r, S, h => exact qr_shl X S hdg h hK
  | iand =>
    obtain rfl : n = 1 := Nat.eq_of_beq_eq_true hn
    match st, S, h with
    | .inl y :: .inl x :: r, S, h =>
      cases qNx_s h
      exact qr_and (Or.inl ⟨rfl, rfl⟩) X S hdg hK
  | ior =>
    obtain rfl : n = 1 := Nat.eq_of_beq_eq_true hn
    match st, S, h with
    | .inl y :: .inl x :: r, S, h =>
      cases qNx_s h
      exact qr_and (Or.inr ⟨rfl, rfl⟩) X S hdg hK
  | i2l =>
    obtain rfl : n = 1 := Nat.eq_of_beq_eq_true hn
    match st, S, h with
    | .inl x :: r, S, h =>
      cases qNx_s h
      exact qr_i2l X S hdg hK
  | lconst j =>
    obtain rfl : n = 1 := Nat.eq_of_beq_eq_true hn
    cases qNx_s h
    exact qr_lconst X S hdg hK
  | lcmp =>
    obtain rfl : n = 1 := Nat.eq_of_beq_eq_true hn
    match st, S, h with
    | .inr (.inr (.inl y)) :: .inr (.inr (.inl x)) :: r, S, h =>
      cases qNx_s h
      exact qr_lcmp X S hdg hK
  | goto off =>
    obtain rfl : n = 3 := Nat.eq_of_beq_eq_true hn
    cases qNx_s h
    exact qr_goto (of_decide_eq_true h3) X S hdg hK
  | ifCond cd off =>
    obtain rfl : n = 3 := Nat.eq_of_beq_eq_true hn
    match st, S, h with
    | .inl x :: r, S, h => exact qr_if (of_decide_eq_true h3) X S hdg h hK
  | if_icmp cd off =>
    obtain rfl : n = 3 := Nat.eq_of_beq_eq_true hn
    match st, S, h with
    | .inl y :: .inl x :: r, S, h => exact qr_icmp (of_decide_eq_true h3) X S hdg h hK
  | if_acmp cd off =>
    obtain rfl : n = 3 := Nat.eq_of_beq_eq_true hn
    match st, S, h with
    | .inr (.inl y) :: .inr (.inl x) :: r, S, h => cases cd <;> exact qr_acmp (of_decide_eq_true h3) X S hdg h hK
  | ifnull off =>
    obtain rfl : n = 3 := Nat.eq_of_beq_eq_true hn
    match st, S, h with
    | .inr (.inl x) :: r, S, h => exact qr_ifnull (of_decide_eq_true h3) X S hdg h hK
  | ifnonnull off =>
    obtain rfl : n = 3 := Nat.eq_of_beq_eq_true hn
    match st, S, h with
    | .inr (.inl x) :: r, S, h => exact qr_ifnonnull (of_decide_eq_true h3) X S hdg h hK
  | tableswitch df lo hi offs =>
    obtain ⟨hn, h6⟩ := q_and hn
    obtain ⟨h4, h5⟩ := q_and hn
    match st, S, h with
    | .inl x :: r, S, h =>
      cases qNx_s h
      exact qr_switch (of_decide_eq_true h4) (fun o ho => of_decide_eq_true (List.all_eq_true.mp h5 o ho)) (of_decide_eq_true h6) X S hdg hK
  | getfield x =>
    obtain rfl : n = 3 := Nat.eq_of_beq_eq_true hn
    match st, S, h with
    | .inr (.inl (some (k9, n9))) :: r, S, h =>
      simp only [qEx] at h
      split at h
      · rename_i v hv
        cases qNx_s h
        exact qr_get h3 X S hdg hv hK
      · cases h
  | putfield x =>
    obtain rfl : n = 3 := Nat.eq_of_beq_eq_true hn
    obtain ⟨h4, h5⟩ := q_and h3
    match st, S, h with
    | v :: .inr (.inl (some (k9, n9))) :: r, S, h =>
      simp only [qEx] at h
      split at h
      · rename_i σ1 hv
        cases qNx_s h
        refine qr_put h4 (fun hf => ?_) X S hdg hv hK
        rw [hf] at h5
        simp only [Bool.not_true, Bool.false_or] at h5
        obtain ⟨h5, h7⟩ := q_and h5
        obtain ⟨h5, h6⟩ := q_and h5
        exact ⟨h5, Nat.eq_of_beq_eq_true h6, of_decide_eq_true h7⟩
      · cases h
  | iaload =>
    obtain rfl : n = 1 := Nat.eq_of_beq_eq_true hn
    match st, S, h with
    | .inl i :: .inr (.inl (some (k9, n9))) :: r, S, h =>
      simp only [qEx] at h
      rcases hk : qKd qT0 k9 with ⟨t, len, x⟩
      rw [hk] at h
      match t, hk, h with
      | 1, hk, h => exact qr_iald hk X S hdg h hK
    | .inl i :: .inr (.inr (.inr true)) :: r, S, h =>
      simp only [qEx] at h
      have hb0 := (qChk_s h).1
      obtain ⟨zs, N, e1, e2, e3, e4, e5, e6⟩ := hsc (by omega)
      exact qr_sald e1 e2 e3 e4 e6 X S hdg h hK
  | baload =>
    obtain rfl : n = 1 := Nat.eq_of_beq_eq_true hn
    match st, S, h with
    | .inl i :: .inr (.inl (some (k9, n9))) :: r, S, h =>
      simp only [qEx] at h
      rcases hk : qKd qT0 k9 with ⟨t, len, x⟩
      rw [hk] at h
      match t, hk, h with
      | 2, hk, h => exact qr_bald hk X S hdg h hK
  | laload =>
    obtain rfl : n = 1 := Nat.eq_of_beq_eq_true hn
    match st, S, h with
    | .inl i :: .inr (.inl (some (k9, n9))) :: r, S, h =>
      simp only [qEx] at h
      rcases hk : qKd qT0 k9 with ⟨t, len, x⟩
      rw [hk] at h
      match t, hk, h with
      | 3, hk, h => exact qr_lald hk X S hdg h hK
  | aaload =>
    obtain rfl : n = 1 := Nat.eq_of_beq_eq_true hn
    match st, S, h with
    | .inl i :: .inr (.inl (some (k9, n9))) :: r, S, h =>
      simp only [qEx] at h
      rcases hk : qKd qT0 k9 with ⟨t, len, k2, pp, qq⟩
      rw [hk] at h
      match t, hk, h with
      | 4, hk, h => exact qr_aald hk X S hdg h hK
  | iastore =>
    obtain rfl : n = 1 := Nat.eq_of_beq_eq_true hn
    match st, S, h with
    | .inl x :: .inl i :: .inr (.inl (some (k9, n9))) :: r, S, h =>
      simp only [qEx] at h
      rcases hk : qKd qT0 k9 with ⟨t, len, y⟩
      rw [hk] at h
      match t, hk, h with
      | 1, hk, h => exact qr_iast hk X S hdg h hK
  | bastore =>
    obtain rfl : n = 1 := Nat.eq_of_beq_eq_true hn
    match st, S, h with
    | .inl x :: .inl i :: .inr (.inl (some (k9, n9))) :: r, S, h =>
      simp only [qEx] at h
      rcases hk : qKd qT0 k9 with ⟨t, len, y⟩
      rw [hk] at h
      match t, hk, h with
      | 2, hk, h => exact qr_bast hk X S hdg h hK
  | lastore =>
    obtain rfl : n = 1 := Nat.eq_of_beq_eq_true hn
    match st, S, h with
    | .inr (.inr (.inl x)) :: .inl i :: .inr (.inl (some (k9, n9))) :: r, S, h =>
      simp only [qEx] at h
      rcases hk : qKd qT0 k9 with ⟨t, len, y⟩
      rw [hk] at h
      match t, hk, h with
      | 3, hk, h => exact qr_last hk X S hdg h hK
  | aastore =>
    obtain rfl : n = 1 := Nat.eq_of_beq_eq_true hn
    match st, S, h with
    | .inr (.inl (some (k3, m3))) :: .inl i :: .inr (.inl (some (k9, n9))) :: r, S, h =>
      simp only [qEx] at h
      rcases hk : qKd qT0 k9 with ⟨t, len, k2, pp, qq⟩
      rw [hk] at h
      match t, hk, h with
      | 4, hk, h =>
        obtain ⟨⟨g1, g2, g3, g4, g5⟩, h⟩ := qChk_s h
        cases qNx_s h
        subst g3
        subst g4
        have hB := qKdB_ok k9
        unfold qKdB at hB
        rw [hk] at hB
        have hb5 : Nat.blt k3 11 = true := by simpa using g5
        simp only [hb5, Bool.not_true, Bool.false_or] at hB
        obtain ⟨hB, g8⟩ := q_and hB
        obtain ⟨g6, g7⟩ := q_and hB
        exact qr_aast hk (Nat.le_of_ble_eq_true g6) g5 (of_decide_eq_true g7) (of_decide_eq_true g8) X S hdg g1 g2 hK
  | arraylength =>
    obtain rfl : n = 1 := Nat.eq_of_beq_eq_true hn
    match st, S, h with
    | .inr (.inl (some (k9, n9))) :: r, S, h =>
      simp only [qEx] at h
      rcases hk : qKd qT0 k9 with ⟨t, len, y⟩
      rw [hk] at h
      match t, hk, h with
      | 1, hk, h =>
        cases qNx_s h
        have hB := qKdB_ok k9
        unfold qKdB at hB
        rw [hk] at hB
        obtain ⟨g6, g7⟩ := q_and hB
        have g6 := of_decide_eq_true g6
        have g7 := of_decide_eq_true g7
        exact qr_alen hk ⟨g6, by omega, by omega⟩ X S hdg hK
    | .inr (.inr (.inr true)) :: r, S, h =>
      simp only [qEx] at h
      obtain ⟨hb0, h⟩ := qChk_s h
      cases qNx_s h
      obtain ⟨zs, N, e1, e2, e3, e4, e5, e6⟩ := hsc hb0
      exact qr_slen e1 e2 e3 e4 e5 X S hdg hK
  | new x =>
    obtain rfl : n = 3 := Nat.eq_of_beq_eq_true hn
    match a, h, h3 with
    | 0, h, h3 =>
      obtain ⟨h3, h6⟩ := q_and h3
      obtain ⟨h4, h5⟩ := q_and h3
      have h5 := of_decide_eq_true h5
      simp only [qEx] at h
      rw [h5] at h
      obtain ⟨h7, h⟩ := qChk_s h
      cases qNx_s h
      have hR1 : σ.1.2.2.1 + 1 ≤ c0 + R.cells := hR.1
      have hR2 : σ.1.2.2.2.1 + qLen qT0 g ≤ z0.1 + R.slots := hR.2
      exact qr_new (by simpa using h4) h5 (qWordB_in h6 rfl) X S hdg h7 ⟨by omega, by omega⟩ hK
    | a9 + 1, h, h3 =>
      match st, S, h with
      | [], S, h =>
        cases h
        exact hT ad objs H locs sl cells slots pc x k [] ls [] σ S rfl hdg h3 (Nat.zero_le _)
  | newarray ty =>
    obtain rfl : n = 2 := Nat.eq_of_beq_eq_true hn
    obtain ⟨h3, h6⟩ := q_and h3
    obtain ⟨h4, h5⟩ := q_and h3
    match st, S, h with
    | .inl x :: r, S, h =>
      simp only [qEx] at h
      obtain ⟨⟨h7, h8, h9⟩, h⟩ := qChk_s h
      cases qNx_s h
      have hR1 : σ.1.2.2.1 + 1 ≤ c0 + R.cells := hR.1
      have hR2 : σ.1.2.2.2.1 + x.toNat ≤ z0.1 + R.slots := hR.2
      exact qr_newarray (of_decide_eq_true h4) (of_decide_eq_true h5) (of_decide_eq_true h6) h8 h9 X S hdg h7 ⟨by omega, by omega⟩ hK
  | anewarray xi =>
    obtain rfl : n = 3 := Nat.eq_of_beq_eq_true hn
    obtain ⟨h3, h10⟩ := q_and h3
    obtain ⟨h3, h6⟩ := q_and h3
    obtain ⟨h4, h5⟩ := q_and h3
    have h4 := of_decide_eq_true h4
    have h5 := of_decide_eq_true h5
    match st, S, h with
    | .inl x :: r, S, h =>
      simp only [qEx] at h
      obtain ⟨⟨h7, h8, h9⟩, h⟩ := qChk_s h
      cases qNx_s h
      have hR1 : σ.1.2.2.1 + 1 ≤ c0 + R.cells := hR.1
      have hR2 : σ.1.2.2.2.1 + x.toNat ≤ z0.1 + R.slots := hR.2
      rcases hk : qKd qT0 g with ⟨t, len, k2, pp, qq⟩
      rw [hk] at h4 h5 h6 h8 h9 h10
      simp only at h4 h5 h6 h8 h9 h10
      subst h9
      subst h8
      exact qr_anewarray hk h4 h5 (Nat.le_of_ble_eq_true h6) (qWordB_in h10 rfl) X S hdg h7 ⟨by omega, by omega⟩ hK
  | multianewarray xi dm =>
    obtain rfl : n = 4 := Nat.eq_of_beq_eq_true hn
    obtain ⟨h3, w1⟩ := q_and h3
    obtain ⟨h3, w2⟩ := q_and h3
    obtain ⟨h3, w3⟩ := q_and h3
    obtain ⟨h3, w4⟩ := q_and h3
    obtain ⟨h3, w5⟩ := q_and h3
    obtain ⟨w7, w6⟩ := q_and h3
    obtain rfl : dm = 2 := Nat.eq_of_beq_eq_true w7
    have w3 := of_decide_eq_true w3
    have w4 := of_decide_eq_true w4
    have w5 := of_decide_eq_true w5
    have w6 := of_decide_eq_true w6
    match st, S, h with
    | .inl y :: .inl x :: r, S, h =>
      simp only [qEx] at h
      rcases hk : qKd qT0 g with ⟨t, len, k2, pp, qq⟩
      rw [hk] at h w5 w6
      simp only at h w5 w6
      match t, hk, h with
      | 4, hk, h =>
        obtain ⟨⟨⟨v1, v2, v3⟩, v4, v5, v6, v7, v8⟩, h⟩ := qChk_s h
        cases qNx_s h
        subst v5
        subst v4
        have e1 := (qNews_cz (σ := qNew σ g x.toNat) (k := k2) (w := y.toNat) x.toNat)
        have e2 := (qSetRs_s (σ := qNews (qNew σ g x.toNat) k2 y.toNat x.toNat) (k := g) (n := σ.1.1 g) x.toNat).2.2
        have hR1 : (qSetRs (qNews (qNew σ g x.toNat) k2 y.toNat x.toNat) g (σ.1.1 g) x.toNat).1.2.2.1 ≤ c0 + R.cells := hR.1
        have hR2 : (qSetRs (qNews (qNew σ g x.toNat) k2 y.toNat x.toNat) g (σ.1.1 g) x.toNat).1.2.2.2.1 ≤ z0.1 + R.slots := hR.2
        rw [e2, e1.1] at hR1
        rw [e2, e1.2] at hR2
        have hR3 : σ.1.2.2.1 + 1 + x.toNat ≤ c0 + R.cells := hR1
        have hR4 : σ.1.2.2.2.1 + x.toNat + x.toNat * y.toNat ≤ z0.1 + R.slots := hR2
        exact qr_multi hk w6 w5 v6 v7 (by rw [← v7]; exact w4) (by rw [← v7]; exact w3) (Nat.eq_of_beq_eq_true w2) v3 v8 (qWordB_in w1 rfl) X S hdg v1 v2 ⟨by omega, by omega⟩ hK
  | invokestatic x =>
    obtain rfl : n = 3 := Nat.eq_of_beq_eq_true hn
    cases hb : Nat.beq k 7 with
    | true =>
      simp only [hb, cond_true] at h3
      obtain ⟨h4, h5⟩ := q_and h3
      match st, S, h with
      | .inl k9 :: .inr (.inr (.inr true)) :: r, S, h =>
        simp only [qEx, hb, cond_true] at h
        obtain ⟨⟨g1, g2, g3⟩, h⟩ := qChk_s h
        cases qNx_s h
        obtain ⟨zs, N, e1, e2, e3, e4, e5, e6⟩ := hsc g2
        have hR1 : σ.1.2.2.1 ≤ c0 + R.cells := hR.1
        have hR2 : σ.1.2.2.2.1 ≤ z0.1 + R.slots := hR.2
        exact qr_cell e1 e2 e3 e4 ⟨e5, e6⟩ (hcell g2 (Nat.eq_of_beq_eq_true hb)) (hMt 150 (by decide)) (qWordB_in h5 rfl) X S hdg g1 g3 hHd hjs ⟨by omega, by omega⟩ hK
      | [], S, h => simp [qEx, hb] at h
      | [_], S, h => simp [qEx, hb] at h
      | .inl _ :: .inl _ :: _, S, h => simp [qEx, hb] at h
      | .inl _ :: .inr (.inl _) :: _, S, h => simp [qEx, hb] at h
      | .inl _ :: .inr (.inr (.inl _)) :: _, S, h => simp [qEx, hb] at h
      | .inl _ :: .inr (.inr (.inr false)) :: _, S, h => simp [qEx, hb] at h
      | .inr _ :: _, S, h => simp [qEx, hb] at h
    | false =>
      simp only [hb, cond_false] at h3
      simp only [qEx, hb, cond_false] at h
      obtain ⟨h4, h5⟩ := q_and h3
      simp only [Bool.or_eq_true, Nat.beq_eq] at h5
      have ha := (qInvB_s h4).1
      exact qr_inv (Or.inr (Or.inl ⟨rfl, by omega⟩)) h4 (hMt a ha) (fun as σ r σ' hc => hcall a as σ r σ' ha hc) hHd hjs X S hdg h hR hK
  | invokevirtual x =>
    obtain rfl : n = 3 := Nat.eq_of_beq_eq_true hn
    obtain ⟨h4, h5⟩ := q_and h3
    simp only [Bool.or_eq_true, Nat.beq_eq] at h5
    have ha := (qInvB_s h4).1
    exact qr_inv (Or.inl ⟨rfl, h5⟩) h4 (hMt a ha) (fun as σ r σ' hc => hcall a as σ r σ' ha hc) hHd hjs X S hdg h hR hK
  | invokespecial x =>
    obtain rfl : n = 3 := Nat.eq_of_beq_eq_true hn
    cases hb : Nat.beq k 6 with
    | true =>
      simp only [hb, cond_true] at h3
      match st, S, h with
      | .inr (.inl (some (k9, n9))) :: r, S, h =>
        simp only [qEx, hb, cond_true] at h
        obtain ⟨h4, h⟩ := qChk_s h
        cases qNx_s h
        exact qr_obj h4 (qWordB_in h3 rfl) X S hdg hK
      | [], S, h => simp [qEx, hb] at h
      | .inl _ :: _, S, h => simp [qEx, hb] at h
      | .inr (.inl none) :: _, S, h => simp [qEx, hb] at h
      | .inr (.inr _) :: _, S, h => simp [qEx, hb] at h
    | false =>
      simp only [hb, cond_false] at h3
      simp only [qEx, hb, cond_false] at h
      obtain ⟨h4, h5⟩ := q_and h3
      simp only [Bool.or_eq_true, Nat.beq_eq] at h5
      have ha := (qInvB_s h4).1
      exact qr_inv (Or.inr (Or.inr ⟨rfl, h5⟩)) h4 (hMt a ha) (fun as σ r σ' hc => hcall a as σ r σ' ha hc) hHd hjs X S hdg h hR hK
  | ireturn =>
    obtain rfl : n = 1 := Nat.eq_of_beq_eq_true hn
    match st, S, h with
    | [.inl x], S, h =>
      have hx : qIn x := S.2.2.2.2.2.2.1 _ List.mem_cons_self
      simp only [qEx] at h
      cases hb : Nat.beq rt 1 with
      | true =>
        simp only [hb, cond_true] at h
        cases h
        exact hK ad objs H locs sl cells slots pc ls S (Or.inr (Or.inl ⟨x, rfl, hx, hdg, Or.inl (Nat.eq_of_beq_eq_true hb)⟩))
      | false =>
        simp only [hb, cond_false] at h
        obtain ⟨h4, h⟩ := qChk_s h
        cases h
        exact hK ad objs H locs sl cells slots pc ls S (Or.inr (Or.inl ⟨x, rfl, hx, hdg, Or.inr h4⟩))
  | areturn =>
    obtain rfl : n = 1 := Nat.eq_of_beq_eq_true hn
    match st, S, h with
    | [.inr (.inl (some x))], S, h =>
      obtain ⟨h4, h⟩ := qChk_s h
      cases h
      exact hK ad objs H locs sl cells slots pc ls S (Or.inr (Or.inr (Or.inl ⟨x, rfl, hdg, h4⟩)))
  | return_ =>
    obtain rfl : n = 1 := Nat.eq_of_beq_eq_true hn
    match st, S, h with
    | [], S, h =>
      obtain ⟨h4, h⟩ := qChk_s h
      cases h
      exact hK ad objs H locs sl cells slots pc ls S (Or.inr (Or.inr (Or.inr ⟨rfl, hdg, h4⟩)))
  | _ => cases h
end QR
