/-! ===== the start: the class' object, the model's, the law's cell ===== -/
def zIn (k : Nat) (n : Int) : List (Nat × Int) → Bool
  | [] => false
  | (a, b) :: r => bif Nat.beq a k && decide (b = n) then true else zIn k n r
def zCpl (k : Nat) (l : List Int) : Bool := match (qKd qT0 k).1 with
  | 0 => (List.range (qLen qT0 (qKd qT0 k).2.1.toNat)).all (fun s => !qRl k s || zMem s l)
  | 4 => (List.range (qKd qT0 k).2.1.toNat).all (fun s => zMem s l)
  | _ => true
def zFull : List (Nat × Int) → List (Nat × Int × List Int) → Bool
  | _, [] => true
  | seen, (k, n, l) :: r => bif zIn k n seen then zFull seen r else bif zCpl k l then zFull (bif Nat.beq (qKd qT0 k).1 1 || Nat.beq (qKd qT0 k).1 2 then seen else (k, n) :: seen) r else false
theorem zFull_ok {k : Nat} {n : Int} {l : List Int} : ∀ {p : List (Nat × Int × List Int)} {seen : List (Nat × Int)}, zFull seen p = true → zIn k n seen = false → zPd p k n = some l → zCpl k l = true
  | [], _, _, _, h => by cases h
  | (k', n', l') :: r, seen, hf, hs, h => by
    unfold zFull at hf
    unfold zPd at h
    by_cases e : k' = k ∧ n' = n
    · obtain ⟨rfl, rfl⟩ := e
      rw [Nat.beq_refl, decide_eq_true rfl] at h
      cases h
      rw [hs] at hf
      cases hc : zCpl k' l with
      | true => rfl
      | false =>
        rw [hc] at hf
        cases hf
    · have e2 : (Nat.beq k' k && decide (n' = n)) = false := by
        cases hb : (Nat.beq k' k && decide (n' = n)) with
        | false => rfl
        | true =>
          simp only [Bool.and_eq_true, decide_eq_true_eq] at hb
          exact absurd ⟨Nat.eq_of_beq_eq_true hb.1, hb.2⟩ e
      rw [e2] at h
      cases hi : zIn k' n' seen with
      | true => rw [hi] at hf; exact zFull_ok hf hs h
      | false =>
        rw [hi] at hf
        simp only [cond_false] at hf
        cases hc : zCpl k' l' with
        | false => rw [hc] at hf; cases hf
        | true =>
          rw [hc] at hf
          simp only [cond_true] at hf
          refine zFull_ok hf ?_ h
          cases (Nat.beq (qKd qT0 k').1 1 || Nat.beq (qKd qT0 k').1 2) with
          | true => exact hs
          | false =>
            show zIn k n ((k', n') :: seen) = false
            unfold zIn
            rw [e2]
            exact hs
theorem zMem_of {x : Int} : ∀ {l : List Int}, zMem x l = true → zMem x l = true := id
theorem zSe {z : zS} {σ : qS} (hR : zR z σ) (hf : zFull [] z.2.1 = true) : qSe σ.1 := by
  refine ⟨fun k n s hr => hR.2.1 k n s ?_, fun k n s hk s0 s1 => hR.2.1 k n s ?_⟩
  · unfold zHas
    split
    · rfl
    · rename_i l hl
      have c := zFull_ok hf rfl hl
      unfold qRl at hr
      rw [Bool.and_eq_true] at hr
      have k0 := Nat.eq_of_beq_eq_true hr.1
      unfold zCpl at c
      rw [k0] at c
      have hs : s < qLen qT0 (qKd qT0 k).2.1.toNat := by
        refine Classical.byContradiction fun q => ?_
        have e : qFd qT0 (qKd qT0 k).2.1.toNat s = (9, 0, 0) := by
          unfold qFd
          rw [List.getD_eq_getElem?_getD, List.getElem?_eq_none (by unfold qLen at q; omega)]
          rfl
        rw [e] at hr
        exact absurd hr.2 (by decide)
      have c2 := List.all_eq_true.mp c s (List.mem_range.mpr hs)
      have hr2 : qRl k s = true := by unfold qRl; rw [Bool.and_eq_true]; exact hr
      rw [hr2] at c2
      exact c2
  · unfold zHas
    split
    · rfl
    · rename_i l hl
      have c := zFull_ok hf rfl hl
      unfold zCpl at c
      rw [Nat.eq_of_beq_eq_true hk] at c
      have c2 := List.all_eq_true.mp c s.toNat (List.mem_range.mpr (by omega))
      rw [show ((s.toNat : Nat) : Int) = s by omega] at c2
      exact c2
def z0 : zS := (List.replicate 102 0, [], 0, 0, [])
theorem z0_R : zR z0 qσ0 := by
  refine ⟨fun k => ?_, fun _ _ _ _ => rfl, ⟨rfl, rfl⟩, fun _ _ _ => rfl, fun e he => (nomatch he)⟩
  show 0 = (List.replicate 102 (0 : Int)).getD k 0
  rw [List.getD_eq_getElem?_getD, List.getElem?_replicate]
  split <;> rfl
def z_ls : List qV := [.inr (.inr (.inr true)), .inr (.inl (some (10, 0))), .inr (.inl (some (64, 0))), .inr (.inl (some (65, 0))), .inr (.inl (some (66, 0))), .inr (.inl (some (67, 0))), .inr (.inl (some (68, 0))), .inr (.inl (some (69, 0))), .inr (.inl (some (70, 0))), .inr (.inl (some (71, 0))), .inr (.inl (some (72, 0))), .inr (.inl (some (73, 0))), .inr (.inl (some (74, 0))), .inr (.inl (some (75, 0))), .inr (.inl (some (76, 0))), .inr (.inl (some (77, 0))), .inr (.inl (some (78, 0))), .inr (.inl (some (79, 0))), .inr (.inl (some (80, 0))), .inr (.inl (some (81, 0))), .inr (.inl (some (82, 0))), .inr (.inl (some (83, 0))), .inr (.inl (some (84, 0))), .inr (.inl (some (85, 0))), .inr (.inl (some (86, 0))), q_u, q_u, q_u, q_u, q_u, q_u, q_u, q_u, q_u, q_u]
def zFin : Option (List qV × List qV × zS) := zTo qT0 (zCall qT0 qP 20 4000) (-1, fun _ => 0) qc_L_law 155 200 0 (qArgs 35 [.inr (.inr (.inr true))]) [] z0
def zKs (k : Nat) : Bool := Nat.beq k 2 || (Nat.beq k 7 || (Nat.beq k 10 || (Nat.beq k 63 || Nat.beq k 76)))
def zChk : Option (List qV × List qV × zS) → Bool
  | none => false
  | some (ls, st, z) => decide (ls = z_ls) && (st.isEmpty && (zFull [] z.2.1 && (Nat.ble z.2.2.1 3000 && (Nat.ble z.2.2.2.1 300000 && (z.1.all (fun x => decide (0 ≤ x)) && (decide (1 ≤ zCn z 71) && (z.2.2.2.2.all (fun e => zKs e.1) && ((List.range 10).all (fun t => decide (zMm z.2.2.2.2 63 0 t = -1)) && decide (zMm z.2.2.2.2 10 0 8 = 1 ∧ zMm z.2.2.2.2 10 0 9 = 0 ∧ zMm z.2.2.2.2 10 0 10 = 16 ∧ zMm z.2.2.2.2 10 0 11 = 10 ∧ zMm z.2.2.2.2 10 0 12 = 0 ∧ zMm z.2.2.2.2 10 0 13 = 0 ∧ zMm z.2.2.2.2 10 0 14 = 0 ∧ zMm z.2.2.2.2 76 0 0 = 0 ∧ zMm z.2.2.2.2 76 0 1 = 16 ∧ zMm z.2.2.2.2 76 0 2 = 10 ∧ zMm z.2.2.2.2 76 0 3 = 0 ∧ zMm z.2.2.2.2 76 0 4 = 0 ∧ zMm z.2.2.2.2 76 0 5 = 0)))))))))
set_option maxRecDepth 100000 in
theorem z_facts : zChk zFin = true := by decide +kernel
def z_M0 (M : qM) : Prop := (∀ (k : Nat) (n s : Int), k ≠ 2 → k ≠ 7 → k ≠ 10 → k ≠ 63 → k ≠ 76 → M k n s = 0) ∧ (∀ t, 0 ≤ t → t < 10 → M 63 0 t = -1) ∧ (M 10 0 8 = 1 ∧ M 10 0 9 = 0 ∧ M 10 0 10 = 16 ∧ M 10 0 11 = 10 ∧ M 10 0 12 = 0 ∧ M 10 0 13 = 0 ∧ M 10 0 14 = 0 ∧ M 76 0 0 = 0 ∧ M 76 0 1 = 16 ∧ M 76 0 2 = 10 ∧ M 76 0 3 = 0 ∧ M 76 0 4 = 0 ∧ M 76 0 5 = 0)
theorem z_start {d : Nat} {sc : Int × (Int → Int)} {Q : qRQ} (H : ∀ (h : qH) (M : qM), k_h 13000 h → z_M0 M → qG d sc qc_L_law Q 155 z_ls [] (h, M)) (hd : d = 20) : qG d sc qc_L_law Q 0 (qArgs 35 [.inr (.inr (.inr true))]) [] qσ0 := by
  subst hd
  have f := z_facts
  cases hz : zFin with
  | none => rw [hz] at f; cases f
  | some r =>
    obtain ⟨ls, st, z⟩ := r
    rw [hz] at f
    simp only [zChk, Bool.and_eq_true, decide_eq_true_eq] at f
    obtain ⟨f1, f2, f3, f4, f5, f5a, f5b, f6, f7, f8⟩ := f
    have hst : st = [] := List.isEmpty_iff.mp f2
    subst hst
    subst f1
    refine zTo_R z0_R hz (fun σ' hR => ?_)
    obtain ⟨h, M⟩ := σ'
    have mem' : ∀ k n s, M k n s = zMm z.2.2.2.2 k n s := hR.2.2.2.1
    have zz : ∀ (l : List (Nat × Int × Int × Int)), l.all (fun e => zKs e.1) = true → ∀ (k : Nat) (n s : Int), k ≠ 2 → k ≠ 7 → k ≠ 10 → k ≠ 63 → k ≠ 76 → zMm l k n s = 0 := by
      intro l
      induction l with
      | nil => intro _ k n s _ _ _ _ _; rfl
      | cons e l ih =>
        intro ha k n s k1 k2 k3 k5 k6
        rw [List.all_cons, Bool.and_eq_true] at ha
        obtain ⟨a, b, c, v⟩ := e
        unfold zMm
        have e1 : Nat.beq a k = false := by
          cases hb : Nat.beq a k with
          | false => rfl
          | true =>
            have e := Nat.eq_of_beq_eq_true hb
            subst e
            unfold zKs at ha
            simp only [Bool.or_eq_true] at ha
            rcases ha.1 with q | q | q | q | q
            · exact absurd (Nat.eq_of_beq_eq_true q) k1
            · exact absurd (Nat.eq_of_beq_eq_true q) k2
            · exact absurd (Nat.eq_of_beq_eq_true q) k3
            · exact absurd (Nat.eq_of_beq_eq_true q) k5
            · exact absurd (Nat.eq_of_beq_eq_true q) k6
        rw [e1]
        exact ih ha.2 k n s k1 k2 k3 k5 k6
    have cn : ∀ k, h.1 k = zCn z k := hR.1
    have e4 : h.2.2.1 = z.2.2.1 := hR.2.2.1.1
    have e5 : h.2.2.2.1 = z.2.2.2.1 := hR.2.2.1.2
    have b4 := Nat.le_of_ble_eq_true f4
    have b5 := Nat.le_of_ble_eq_true f5
    refine H h M ⟨zSe hR f3, fun k => ?_, by rw [e4]; omega, by rw [e5]; omega, by rw [cn]; exact f5b⟩ ⟨fun k n s k1 k2 k3 k5 k6 => by rw [mem']; exact zz _ f6 k n s k1 k2 k3 k5 k6, fun t t0 t1 => ?_, ?_⟩
    · rw [cn]
      show 0 ≤ z.1.getD k 0
      rw [List.getD_eq_getElem?_getD]
      cases hg : z.1[k]? with
      | none => exact Int.le_refl 0
      | some x =>
        have := List.all_eq_true.mp f5a x (List.mem_of_getElem? hg)
        exact of_decide_eq_true this
    · rw [mem']
      have := List.all_eq_true.mp f7 t.toNat (List.mem_range.mpr (by omega))
      rw [decide_eq_true_eq, show ((t.toNat : Nat) : Int) = t by omega] at this
      exact this
    · rw [mem', mem', mem', mem', mem', mem', mem', mem', mem', mem', mem', mem', mem']
      exact f8
