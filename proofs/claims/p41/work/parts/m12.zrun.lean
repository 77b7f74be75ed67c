/-! ===== the machine on lists: steps, and that they are steps of the small machine ===== -/
def zPure : Instr → Bool
  | .iconst _ => true
  | .bipush _ => true
  | .sipush _ => true
  | .ldc _ => true
  | .aconst_null => true
  | .iload_n _ => true
  | .iload _ => true
  | .aload_n _ => true
  | .aload _ => true
  | .istore_n _ => true
  | .istore _ => true
  | .astore_n _ => true
  | .astore _ => true
  | .iinc _ _ => true
  | .dup => true
  | .isub => true
  | .iadd => true
  | .goto _ => true
  | .ifCond _ _ => true
  | .if_icmp _ _ => true
  | .return_ => true
  | _ => false
def qOsz (σ : qS) : qO → qO
  | .inl (pc, ls, st, _) => .inl (pc, ls, st, σ)
  | .inr (r, _) => .inr (r, σ)
theorem qChk_b {o o' : qO} {p : Prop} [Decidable p] {X Y : Option qO} (h : qChk p X = some o) (k : X = some o → Y = some o') : qChk p Y = some o' := by
  unfold qChk at h ⊢
  split at h
  · rename_i hp; rw [if_pos hp]; exact k h
  · cases h
section QPU
variable {T : qT} {sc sc2 : Int × (Int → Int)} {hs : List qHd} {rt pc : Nat} {i : Instr} {n a b c : Nat} {ls st : List qV} {σ σ2 : qS} {o o' : qO}
theorem qN_sz (h : qNx pc ls st σ = some o) : qNx pc ls st σ2 = some (qOsz σ2 o) := by cases h; rfl
theorem qBr_sz {p : Prop} [Decidable p] {t f : Nat} (h : qBr p t f ls st σ = some o) : qBr p t f ls st σ2 = some (qOsz σ2 o) := by
  unfold qBr at h ⊢
  split at h
  · rename_i hp; rw [if_pos hp]; exact qN_sz h
  · rename_i hp; rw [if_neg hp]; exact qN_sz h
theorem qIf_sz {cd : Jvm.ClassFile.Cond} {u v : Int} {t f : Nat} (h : qIf cd u v t f ls st σ = some o) : qIf cd u v t f ls st σ2 = some (qOsz σ2 o) := by
  unfold qIf at h ⊢
  cases cd <;> exact qBr_sz h
theorem qSto_sz {j f : Nat} {v : qV} (h : qSto ls j f v st σ = some o) : qSto ls j f v st σ2 = some (qOsz σ2 o) := qChk_b h qN_sz
theorem qLdI_sz {j f : Nat} (h : qLdI ls j f st σ = some o) : qLdI ls j f st σ2 = some (qOsz σ2 o) := by
  unfold qLdI at h ⊢
  split at h
  · exact qN_sz h
  · cases h
theorem qLdA_sz {j f : Nat} (h : qLdA ls j f st σ = some o) : qLdA ls j f st σ2 = some (qOsz σ2 o) := by
  unfold qLdA at h ⊢
  split at h
  · exact qN_sz h
  · exact qN_sz h
  · cases h
theorem qEx_sz {call call2 : qCl} (hp : zPure i = true) (h : qEx T call sc hs rt pc i n a b c ls st σ = some o) : qEx T call2 sc2 hs rt pc i n a b c ls st σ2 = some (qOsz σ2 o) := by
  cases i
  all_goals first
    | (cases hp; done)
    | skip
  all_goals simp only [qEx] at h ⊢
  all_goals repeat' split at h
  all_goals first
    | (cases h; done)
    | exact qN_sz h
    | exact qLdI_sz h
    | exact qLdA_sz h
    | exact qSto_sz h
    | exact qIf_sz h
    | exact qBr_sz h
    | exact qChk_b h qN_sz
    | exact qChk_b h qSto_sz
    | exact qChk_b h (fun h => by cases h; rfl)
    | (cases h; rfl)
end QPU
def zOf (z : zS) : qO → zO
  | .inl (pc, ls, st, _) => .inl (pc, ls, st, z)
  | .inr (r, _) => .inr (r, z)
def zPut (T : qT) (c s : Nat) (k : Nat) (n : Int) (v : qV) (z : zS) : Option zS :=
  match qKd T k with
  | (0, ci, _, _, _) => bif decide (ci = (c : Int)) then (match qFd T c s, v with
      | (0, _, _), .inl x => zSetI z k n s x
      | (1, _, _), .inl x => bif decide (x = 0) || decide (x = 1) then zSetI z k n s x else none
      | (2, k', d), .inr (.inl (some (k2, n2))) => bif Nat.beq k2 k' && decide (n2 = n + d) then some (zSetR z k n s) else none
      | (3, _, _), .inr (.inl none) => zSetI z k n s 0
      | (3, k', d), .inr (.inl (some (k2, n2))) => bif Nat.beq k2 k' && decide (n2 < 1000000) then zSetI z k n s (n2 + 1) else bif !Nat.beq k2 k' && (Nat.beq k2 d.toNat && decide (n2 < 1000000)) then zSetI z k n s (-(n2 + 1)) else none
      | _, _ => none) else none
  | _ => none
def zInv (T : qT) (call : zCl) (pc n a b c : Nat) (ls st : List qV) (z : zS) : Option zO :=
  bif Nat.ble b st.length && Nat.ble (qCat (st.drop b)) (qLw c) && (st.take b).all qAr && qIsB T c (st.take b).reverse then
    (match call a (st.take b).reverse z with
      | some (.inl none, z1) => some (.inl (pc + n, ls, st.drop b, z1))
      | some (.inl (some v), z1) => some (.inl (pc + n, ls, v :: st.drop b, z1))
      | _ => none)
  else none
def zEx (T : qT) (call : zCl) (sc : Int × (Int → Int)) (hs : List qHd) (rt pc : Nat) (i : Instr) (n a b c : Nat) (ls st : List qV) (z : zS) : Option zO :=
  bif zPure i then (match qEx T (fun _ _ _ => none) sc hs rt pc i n a b c ls st qσ0 with
    | some o => some (zOf z o)
    | none => none)
  else match i with
  | .arraylength => (match st with
    | .inr (.inl (some (k, _))) :: r => (match qKd T k with
      | (1, len, _, _, _) => some (.inl (pc + n, ls, .inl len :: r, z))
      | _ => none)
    | _ => none)
  | .getfield _ => (match st with
    | .inr (.inl (some (k, m))) :: r => (match qKd T k, qFd T a b with
      | (0, ci, _, _, _), (2, k', d) => bif decide (ci = (a : Int)) && zHas z k m b then some (.inl (pc + n, ls, .inr (.inl (some (k', m + d))) :: r, z)) else none
      | _, _ => none)
    | _ => none)
  | .putfield _ => (match st with
    | v :: .inr (.inl (some (k, m))) :: r => (match zPut T a b k m v z with
      | some z' => some (.inl (pc + n, ls, r, z'))
      | none => none)
    | _ => none)
  | .iastore => (match st with
    | .inl x :: .inl j :: .inr (.inl (some (k, m))) :: r => (match qKd T k with
      | (1, len, _, _, _) => bif decide (0 ≤ j) && decide (j < len) then (match zSetI z k m j x with
        | some z' => some (.inl (pc + n, ls, r, z'))
        | none => none) else none
      | _ => none)
    | _ => none)
  | .aastore => (match st with
    | .inr (.inl (some (k3, m3))) :: .inl j :: .inr (.inl (some (k, m))) :: r => (match qKd T k with
      | (4, len, k2, p, q) => bif decide (0 ≤ j ∧ j < len ∧ k3 = k2 ∧ m3 = p + q * m + j ∧ k2 < 11) then some (.inl (pc + n, ls, r, zSetR z k m j)) else none
      | _ => none)
    | _ => none)
  | .new _ => (match a with
    | 0 => (match qKd T b with
      | (0, ci, _, _, _) => bif decide (0 ≤ zCn z b) && Nat.blt b z.1.length then some (.inl (pc + n, ls, .inr (.inl (some (b, zCn z b))) :: st, zNew z b (qLen T ci.toNat))) else none
      | _ => none)
    | _ => none)
  | .newarray _ => (match st with
    | .inl x :: r => bif decide (0 ≤ zCn z b ∧ x = (qKd T b).2.1 ∧ ((qKd T b).1 = 1 ∨ (qKd T b).1 = 2 ∨ (qKd T b).1 = 3)) && Nat.blt b z.1.length then some (.inl (pc + n, ls, .inr (.inl (some (b, zCn z b))) :: r, zNew z b x.toNat)) else none
    | _ => none)
  | .anewarray _ => (match st with
    | .inl x :: r => bif decide (0 ≤ zCn z b ∧ x = (qKd T b).2.1 ∧ (qKd T b).1 = 4) && Nat.blt b z.1.length then some (.inl (pc + n, ls, .inr (.inl (some (b, zCn z b))) :: r, zNew z b x.toNat)) else none
    | _ => none)
  | .multianewarray _ _ => (match st with
    | .inl y :: .inl x :: r => (match qKd T b with
      | (4, len, k2, p, q) => bif decide ((0 ≤ zCn z b ∧ 0 ≤ zCn z c ∧ b ≠ c) ∧ x = len ∧ k2 = c ∧ (qKd T c).1 = 1 ∧ (qKd T c).2.1 = y ∧ p + q * zCn z b = zCn z c) && (Nat.blt b z.1.length && Nat.blt c z.1.length) then some (.inl (pc + n, ls, .inr (.inl (some (b, zCn z b))) :: r, zSetRs (zNews (zNew z b x.toNat) c y.toNat x.toNat) b (zCn z b) x.toNat)) else none
      | _ => none)
    | _ => none)
  | .invokestatic _ => bif Nat.beq c 7 then none else zInv T call pc n a b c ls st z
  | .invokevirtual _ => zInv T call pc n a b c ls st z
  | .invokespecial _ => bif Nat.beq c 6 then (match st with
      | .inr (.inl (some _)) :: r => bif Nat.ble (qCat r) 8 then some (.inl (pc + n, ls, r, z)) else none
      | _ => none)
    else zInv T call pc n a b c ls st z
  | _ => none
def zStep (T : qT) (call : zCl) (sc : Int × (Int → Int)) (C : qCd) (pc : Nat) (ls st : List qV) (z : zS) : Option zO := match qFetch C pc with
  | none => none
  | some (i, n, a, b, c) => zEx T call sc C.2.1 C.2.2.1 pc i n a b c ls st z
def zRun (T : qT) (call : zCl) (sc : Int × (Int → Int)) (C : qCd) : Nat → Nat → List qV → List qV → zS → Option (qR × zS)
  | 0, _, _, _, _ => none
  | N + 1, pc, ls, st, z => match zStep T call sc C pc ls st z with
    | none => none
    | some (.inr r) => some r
    | some (.inl (pc', ls', st', z')) => zRun T call sc C N pc' ls' st' z'
def zCall (T : qT) (P : Nat → qCd) : Nat → Nat → zCl
  | 0, _, _, _, _ => none
  | d + 1, N, m, as, z => bif Nat.ble (qFl as).length (P m).2.2.2 then zRun T (zCall T P d N) (-1, fun _ => 0) (P m) N 0 (qArgs (P m).2.2.2 as) [] z else none
/-- up to a place -/
def zTo (T : qT) (call : zCl) (sc : Int × (Int → Int)) (C : qCd) (e : Nat) : Nat → Nat → List qV → List qV → zS → Option (List qV × List qV × zS)
  | 0, _, _, _, _ => none
  | N + 1, pc, ls, st, z => bif Nat.beq pc e then some (ls, st, z) else match zStep T call sc C pc ls st z with
    | some (.inl (pc', ls', st', z')) => zTo T call sc C e N pc' ls' st' z'
    | _ => none
def zOk (zo : zO) (o : qO) : Prop := match zo, o with
  | .inl (pc, ls, st, z), .inl (pc', ls', st', σ) => pc' = pc ∧ ls' = ls ∧ st' = st ∧ zR z σ
  | .inr (r, z), .inr (r', σ) => r' = r ∧ zR z σ
  | _, _ => False
section ZOK
variable {T : qT} {sc sc2 : Int × (Int → Int)} {hs : List qHd} {rt pc : Nat} {i : Instr} {n a b c : Nat} {ls st : List qV} {σ : qS} {z : zS} {zo : zO} {zcall : zCl} {call : qCl}
theorem zPut_R {cc s k : Nat} {m : Int} {v : qV} {z' : zS} (hR : zR z σ) (h : zPut T cc s k m v z = some z') : ∃ σ', qPut T cc s k m v σ = some σ' ∧ zR z' σ' := by
  unfold zPut at h
  unfold qPut
  split at h
  · rename_i ci _ _ _ hk
    by_cases hc : ci = (cc : Int)
    · rw [decide_eq_true hc] at h
      simp only [cond_true] at h
      rw [hk, if_pos ⟨rfl, hc⟩]
      split at h
      · rename_i hf; rw [hf]; exact ⟨_, rfl, zSetI_R hR h⟩
      · rename_i x hf
        rw [hf]
        by_cases q : x = 0 ∨ x = 1
        · refine ⟨_, if_pos q, ?_⟩
          have e : (decide (x = 0) || decide (x = 1)) = true := by rcases q with q | q <;> simp [q]
          rw [e] at h
          exact zSetI_R hR h
        · have e : (decide (x = 0) || decide (x = 1)) = false := by simp only [Bool.or_eq_false_iff, decide_eq_false_iff_not]; exact ⟨fun z => q (Or.inl z), fun z => q (Or.inr z)⟩
          rw [e] at h; cases h
      · rename_i k' d k2 n2 hf
        rw [hf]
        cases hb : (Nat.beq k2 k' && decide (n2 = m + d)) with
        | true =>
          rw [hb] at h
          cases h
          simp only [Bool.and_eq_true, decide_eq_true_eq] at hb
          exact ⟨_, if_pos ⟨Nat.eq_of_beq_eq_true hb.1, hb.2⟩, zSetR_R hR⟩
        | false => rw [hb] at h; cases h
      · rename_i hf; rw [hf]; exact ⟨_, rfl, zSetI_R hR h⟩
      · rename_i k' d k2 n2 hf
        rw [hf]
        cases hb : (Nat.beq k2 k' && decide (n2 < 1000000)) with
        | true =>
          rw [hb] at h
          simp only [Bool.and_eq_true, decide_eq_true_eq] at hb
          exact ⟨_, if_pos ⟨Nat.eq_of_beq_eq_true hb.1, hb.2⟩, zSetI_R hR h⟩
        | false =>
          rw [hb] at h
          simp only [cond_false] at h
          cases hb2 : (!Nat.beq k2 k' && (Nat.beq k2 d.toNat && decide (n2 < 1000000))) with
          | true =>
            rw [hb2] at h
            simp only [Bool.and_eq_true, decide_eq_true_eq, Bool.not_eq_true'] at hb2
            refine ⟨_, ?_, zSetI_R hR h⟩
            show (if k2 = k' ∧ n2 < 1000000 then _ else if k2 = d.toNat ∧ n2 < 1000000 then _ else none) = _
            rw [if_neg (fun q => by rw [q.1, Nat.beq_refl] at hb2; exact absurd hb2.1 (by decide)), if_pos ⟨Nat.eq_of_beq_eq_true hb2.2.1, hb2.2.2⟩]
          | false => rw [hb2] at h; cases h
      · cases h
    · rw [decide_eq_false hc] at h; cases h
  · cases h
theorem zInv_R (hc : ∀ m as z r z' σ, zcall m as z = some (r, z') → zR z σ → ∃ σ', call m as σ = some (r, σ') ∧ zR z' σ') (hR : zR z σ) (h : zInv T zcall pc n a b c ls st z = some zo) : ∃ o, qInv T call hs pc n a b c ls st σ = some o ∧ zOk zo o := by
  unfold zInv at h
  unfold qInv
  cases hb : (Nat.ble b st.length && Nat.ble (qCat (st.drop b)) (qLw c) && (st.take b).all qAr && qIsB T c (st.take b).reverse) with
  | false => rw [hb] at h; cases h
  | true =>
    rw [hb] at h
    simp only [cond_true] at h ⊢
    split at h
    · rename_i z1 hq
      cases h
      obtain ⟨σ', h1, h2⟩ := hc _ _ _ _ _ _ hq hR
      rw [h1]
      exact ⟨_, rfl, rfl, rfl, rfl, h2⟩
    · rename_i v z1 hq
      cases h
      obtain ⟨σ', h1, h2⟩ := hc _ _ _ _ _ _ hq hR
      rw [h1]
      exact ⟨_, rfl, rfl, rfl, rfl, h2⟩
    · cases h
theorem zEx_R (hc : ∀ m as z r z' σ, zcall m as z = some (r, z') → zR z σ → ∃ σ', call m as σ = some (r, σ') ∧ zR z' σ') (hR : zR z σ) (h : zEx T zcall sc hs rt pc i n a b c ls st z = some zo) : ∃ o, qEx T call sc2 hs rt pc i n a b c ls st σ = some o ∧ zOk zo o := by
  unfold zEx at h
  cases hp : zPure i with
  | true =>
    rw [hp] at h
    simp only [cond_true] at h
    split at h
    · rename_i o ho
      cases h
      refine ⟨_, qEx_sz (call2 := call) (sc2 := sc2) (σ2 := σ) hp ho, ?_⟩
      match o with
      | .inl (_, _, _, _) => exact ⟨rfl, rfl, rfl, hR⟩
      | .inr (_, _) => exact ⟨rfl, hR⟩
    · cases h
  | false =>
    rw [hp] at h
    simp only [cond_false] at h
    split at h
    · -- arraylength
      split at h
      · split at h
        · rename_i hk
          cases h
          simp only [qEx, hk]
          exact ⟨_, rfl, rfl, rfl, rfl, hR⟩
        · cases h
      · cases h
    · -- getfield
      split at h
      · rename_i k m r
        split at h
        · rename_i ci _ _ _ k' d hk hf
          cases hb : (decide (ci = (a : Int)) && zHas z k m b) with
          | true =>
            rw [hb] at h
            cases h
            simp only [Bool.and_eq_true, decide_eq_true_eq] at hb
            have e : qGet T a b k m σ = some (.inr (.inl (some (k', m + d)))) := by
              unfold qGet
              rw [hk, if_pos ⟨rfl, hb.1⟩, hf]
              exact if_pos (hR.2.1 k m b hb.2)
            simp only [qEx, e]
            exact ⟨_, rfl, rfl, rfl, rfl, hR⟩
          | false => rw [hb] at h; cases h
        · cases h
      · cases h
    · -- putfield
      split at h
      · split at h
        · rename_i z' hq
          cases h
          obtain ⟨σ', h1, h2⟩ := zPut_R hR hq
          simp only [qEx, h1]
          exact ⟨_, rfl, rfl, rfl, rfl, h2⟩
        · cases h
      · cases h
    · -- iastore
      split at h
      · rename_i x j k m r
        split at h
        · rename_i len _ _ _ hk
          cases hb : (decide (0 ≤ j) && decide (j < len)) with
          | true =>
            rw [hb] at h
            simp only [cond_true] at h
            split at h
            · rename_i z' hq
              cases h
              simp only [Bool.and_eq_true, decide_eq_true_eq] at hb
              simp only [qEx, hk, qChk, if_pos hb]
              exact ⟨_, rfl, rfl, rfl, rfl, zSetI_R hR hq⟩
            · cases h
          | false => rw [hb] at h; cases h
        · cases h
      · cases h
    · -- aastore
      split at h
      · rename_i k3 m3 j k m r
        split at h
        · rename_i len k2 p q hk
          by_cases hb : 0 ≤ j ∧ j < len ∧ k3 = k2 ∧ m3 = p + q * m + j ∧ k2 < 11
          · rw [decide_eq_true hb] at h
            cases h
            simp only [qEx, hk, qChk, if_pos hb]
            exact ⟨_, rfl, rfl, rfl, rfl, zSetR_R hR⟩
          · rw [decide_eq_false hb] at h; cases h
        · cases h
      · cases h
    · -- new
      split at h
      · split at h
        · rename_i ci _ _ _ hk
          cases hb : (decide (0 ≤ zCn z b) && Nat.blt b z.1.length) with
          | true =>
            rw [hb] at h
            cases h
            simp only [Bool.and_eq_true, decide_eq_true_eq, Nat.blt_eq] at hb
            have hb1 : 0 ≤ σ.1.1 b := by rw [hR.1]; exact hb.1
            simp only [qEx, hk, qChk]
            rw [if_pos hb1, hR.1 b]
            exact ⟨_, rfl, rfl, rfl, rfl, zNew_R hR hb.2⟩
          | false => rw [hb] at h; cases h
        · cases h
      · cases h
    · -- newarray
      split at h
      · rename_i x r
        cases hb : (decide (0 ≤ zCn z b ∧ x = (qKd T b).2.1 ∧ ((qKd T b).1 = 1 ∨ (qKd T b).1 = 2 ∨ (qKd T b).1 = 3)) && Nat.blt b z.1.length) with
        | true =>
          rw [hb] at h
          cases h
          simp only [Bool.and_eq_true, decide_eq_true_eq, Nat.blt_eq] at hb
          have hb1 : 0 ≤ σ.1.1 b ∧ x = (qKd T b).2.1 ∧ ((qKd T b).1 = 1 ∨ (qKd T b).1 = 2 ∨ (qKd T b).1 = 3) := by rw [hR.1]; exact hb.1
          simp only [qEx, qChk]
          rw [if_pos hb1, hR.1 b]
          exact ⟨_, rfl, rfl, rfl, rfl, zNew_R hR hb.2⟩
        | false => rw [hb] at h; cases h
      · cases h
    · -- anewarray
      split at h
      · rename_i x r
        cases hb : (decide (0 ≤ zCn z b ∧ x = (qKd T b).2.1 ∧ (qKd T b).1 = 4) && Nat.blt b z.1.length) with
        | true =>
          rw [hb] at h
          cases h
          simp only [Bool.and_eq_true, decide_eq_true_eq, Nat.blt_eq] at hb
          have hb1 : 0 ≤ σ.1.1 b ∧ x = (qKd T b).2.1 ∧ (qKd T b).1 = 4 := by rw [hR.1]; exact hb.1
          simp only [qEx, qChk]
          rw [if_pos hb1, hR.1 b]
          exact ⟨_, rfl, rfl, rfl, rfl, zNew_R hR hb.2⟩
        | false => rw [hb] at h; cases h
      · cases h
    · -- multianewarray
      split at h
      · rename_i y x r
        split at h
        · rename_i len k2 p q hk
          cases hb : (decide ((0 ≤ zCn z b ∧ 0 ≤ zCn z c ∧ b ≠ c) ∧ x = len ∧ k2 = c ∧ (qKd T c).1 = 1 ∧ (qKd T c).2.1 = y ∧ p + q * zCn z b = zCn z c) && (Nat.blt b z.1.length && Nat.blt c z.1.length)) with
          | true =>
            rw [hb] at h
            cases h
            simp only [Bool.and_eq_true, decide_eq_true_eq, Nat.blt_eq] at hb
            have hb1 : (0 ≤ σ.1.1 b ∧ 0 ≤ σ.1.1 c ∧ b ≠ c) ∧ x = len ∧ k2 = c ∧ (qKd T c).1 = 1 ∧ (qKd T c).2.1 = y ∧ p + q * σ.1.1 b = σ.1.1 c := by rw [hR.1 b, hR.1 c]; exact hb.1
            simp only [qEx, hk, qChk]
            rw [if_pos hb1, hR.1 b]
            exact ⟨_, rfl, rfl, rfl, rfl, zSetRs_R (zNews_R (zNew_R hR hb.2.1) (by rw [zNew_len]; exact hb.2.2)).1⟩
          | false => rw [hb] at h; cases h
        · cases h
      · cases h
    · -- invokestatic
      simp only [qEx]
      cases hb : Nat.beq c 7 with
      | true => rw [hb] at h; cases h
      | false =>
        rw [hb] at h
        simp only [cond_false] at h ⊢
        exact zInv_R hc hR h
    · exact zInv_R hc hR h
    · -- invokespecial
      simp only [qEx]
      cases hb : Nat.beq c 6 with
      | true =>
        rw [hb] at h
        simp only [cond_true] at h ⊢
        split at h
        · rename_i q r
          cases hq : Nat.ble (qCat r) 8 with
          | true =>
            rw [hq] at h
            cases h
            simp only [qChk]
            rw [if_pos (Nat.le_of_ble_eq_true hq)]
            exact ⟨_, rfl, rfl, rfl, rfl, hR⟩
          | false => rw [hq] at h; cases h
        · cases h
      | false => rw [hb] at h; exact zInv_R hc hR h
    · cases h
theorem zStep_R {C : qCd} (hc : ∀ m as z r z' σ, zcall m as z = some (r, z') → zR z σ → ∃ σ', call m as σ = some (r, σ') ∧ zR z' σ') (hR : zR z σ) (h : zStep T zcall sc C pc ls st z = some zo) : ∃ o, qStep T call sc2 C pc ls st σ = some o ∧ zOk zo o := by
  unfold zStep at h
  unfold qStep
  split at h
  · cases h
  · rename_i hf
    rw [hf]
    exact zEx_R hc hR h
theorem zRun_R {C : qCd} (hc : ∀ m as z r z' σ, zcall m as z = some (r, z') → zR z σ → ∃ σ', call m as σ = some (r, σ') ∧ zR z' σ') : ∀ {N pc : Nat} {ls st : List qV} {z : zS} {σ : qS} {r : qR} {z' : zS}, zR z σ → zRun T zcall sc C N pc ls st z = some (r, z') → ∃ σ', qRun T call sc C N pc ls st σ = some (r, σ') ∧ zR z' σ'
  | 0, _, _, _, _, _, _, _, _, h => by cases h
  | N + 1, pc, ls, st, z, σ, r, z', hR, h => by
    unfold zRun at h
    unfold qRun
    split at h
    · cases h
    · rename_i r0 hs
      cases h
      obtain ⟨o, h1, h2⟩ := zStep_R (sc2 := sc) hc hR hs
      rw [h1]
      match o, h2 with
      | .inr (r2, σ2), h2 => exact ⟨σ2, by rw [h2.1], h2.2⟩
    · rename_i pc' ls' st' z1 hs
      obtain ⟨o, h1, h2⟩ := zStep_R (sc2 := sc) hc hR hs
      rw [h1]
      match o, h2 with
      | .inl (pc2, ls2, st2, σ2), h2 =>
        obtain ⟨rfl, rfl, rfl, h3⟩ := h2
        exact zRun_R hc h3 h
end ZOK
theorem zCall_R {T : qT} {P : Nat → qCd} {N : Nat} : ∀ {d m : Nat} {as : List qV} {z : zS} {r : qR} {z' : zS} {σ : qS}, zCall T P d N m as z = some (r, z') → zR z σ → ∃ σ', qCall T P d N m as σ = some (r, σ') ∧ zR z' σ'
  | 0, _, _, _, _, _, _, h, _ => by cases h
  | d + 1, m, as, z, r, z', σ, h, hR => by
    unfold zCall at h
    unfold qCall
    cases hb : Nat.ble (qFl as).length (P m).2.2.2 with
    | false => rw [hb] at h; cases h
    | true =>
      rw [hb] at h
      simp only [cond_true] at h ⊢
      exact zRun_R (zcall := zCall T P d N) (call := qCall T P d N) (fun m as z r z' σ h hR => zCall_R h hR) hR h
theorem zTo_R {d NN : Nat} {sc sc2 : Int × (Int → Int)} {C : qCd} {Q : qRQ} {e : Nat} {ls' st' : List qV} {z' : zS} : ∀ {N pc : Nat} {ls st : List qV} {z : zS} {σ : qS}, zR z σ → zTo qT0 (zCall qT0 qP d NN) sc C e N pc ls st z = some (ls', st', z') → (∀ σ', zR z' σ' → qG d sc2 C Q e ls' st' σ') → qG d sc2 C Q pc ls st σ
  | 0, _, _, _, _, _, _, h, _ => by cases h
  | N + 1, pc, ls, st, z, σ, hR, h, K => by
    unfold zTo at h
    cases hb : Nat.beq pc e with
    | true =>
      rw [hb] at h
      cases h
      have := Nat.eq_of_beq_eq_true hb
      subst this
      exact K σ hR
    | false =>
      rw [hb] at h
      simp only [cond_false] at h
      split at h
      · rename_i pc1 ls1 st1 z1 hs
        obtain ⟨o, h1, h2⟩ := zStep_R (call := qCall qT0 qP d NN) (sc2 := sc2) (fun m as z r z' σ h hR => zCall_R h hR) hR hs
        match o, h2 with
        | .inl (pc2, ls2, st2, σ2), h2 =>
          obtain ⟨rfl, rfl, rfl, h3⟩ := h2
          exact qG.step NN _ h1 (zTo_R h3 h K)
      · cases h
