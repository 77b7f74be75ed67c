/-! ===== what must hold before a step, in the order of the code ===== -/
/-- the length of an int[] -/
def qWlen (T : qT) (k : Nat) (f : Int → Prop) : Prop := match qKd T k with
  | (1, len, _, _, _) => f len
  | _ => False
theorem qWlen_ok {T : qT} {k : Nat} {f : Int → Prop} (h : qWlen T k f) : ∃ (len : Int) (x : Nat × Int × Int), qKd T k = (1, len, x) ∧ f len := by
  unfold qWlen at h
  split at h
  · rename_i heq; exact ⟨_, _, heq, h⟩
  · exact h.elim
theorem qWlen_of {T : qT} {k : Nat} {f : Int → Prop} {len : Int} {x : Nat × Int × Int} (hk : qKd T k = (1, len, x)) (h : f len) : qWlen T k f := by
  unfold qWlen
  rw [hk]
  exact h
def qCO (T : qT) (c k : Nat) : Bool := Nat.beq (qKd T k).1 0 && decide ((qKd T k).2.1 = (c : Int))
theorem qCO_s {T : qT} {c k : Nat} : qCO T c k = true ↔ (qKd T k).1 = 0 ∧ (qKd T k).2.1 = (c : Int) := by
  unfold qCO
  rw [Bool.and_eq_true, Nat.beq_eq, decide_eq_true_eq]
def qWg (T : qT) (c s : Nat) (k : Nat) (n : Int) (σ : qS) (kv : qV → Prop) : Prop :=
  bif qCO T c k then (match qFd T c s with
      | (0, _, _) => kv (.inl (σ.2 k n s))
      | (1, _, _) => kv (.inl (σ.2 k n s))
      | (2, k', d) => σ.1.2.1 k n s = true ∧ (bif decide (d = 0) then kv (.inr (.inl (some (k', n)))) else kv (.inr (.inl (some (k', n + d)))))
      | (3, k', d) => (σ.2 k n s = 0 → kv (.inr (.inl none))) ∧ (0 < σ.2 k n s → kv (.inr (.inl (some (k', σ.2 k n s - 1))))) ∧ (σ.2 k n s < 0 → kv (.inr (.inl (some (d.toNat, -σ.2 k n s - 1)))))
      | _ => False)
  else False
def qWf (T : qT) (c s : Nat) (k : Nat) (n : Int) (v : qV) (σ : qS) (ks : qS → Prop) : Prop :=
  bif qCO T c k then (match qFd T c s, v with
      | (0, _, _), .inl x => ks (qSetI σ k n s x)
      | (1, _, _), .inl x => (x = 0 ∨ x = 1) ∧ ks (qSetI σ k n s x)
      | (2, k', d), .inr (.inl (some (k2, n2))) => (k2 = k' ∧ n2 = n + d) ∧ ks (qSetR σ k n s)
      | (3, _, _), .inr (.inl none) => ks (qSetI σ k n s 0)
      | (3, k', d), .inr (.inl (some (k2, n2))) => bif Nat.beq k2 k' then n2 < 1000000 ∧ ks (qSetI σ k n s (n2 + 1)) else bif Nat.beq k2 d.toNat then n2 < 1000000 ∧ ks (qSetI σ k n s (-(n2 + 1))) else False
      | _, _ => False)
  else False
theorem qWg_ok {T : qT} {c s k : Nat} {n : Int} {σ : qS} {kv : qV → Prop} (h : qWg T c s k n σ kv) : ∃ v, qGet T c s k n σ = some v ∧ kv v := by
  unfold qWg at h
  unfold qGet
  cases hb : qCO T c k with
  | false => rw [hb] at h; exact h.elim
  | true =>
    rw [hb] at h
    simp only [cond_true] at h
    rw [if_pos (qCO_s.mp hb)]
    split at h
    · rename_i heq; rw [heq]; exact ⟨_, rfl, h⟩
    · rename_i heq; rw [heq]; exact ⟨_, rfl, h⟩
    · rename_i k' d heq
      rw [heq]
      refine ⟨_, if_pos h.1, ?_⟩
      by_cases hd : d = 0
      · have h2 := h.2
        rw [decide_eq_true hd] at h2
        subst hd
        rw [Int.add_zero]
        exact h2
      · have h2 := h.2
        rw [decide_eq_false hd] at h2
        exact h2
    · rename_i k' d heq
      rw [heq]
      refine ⟨_, rfl, ?_⟩
      unfold qDec
      by_cases h0 : σ.2 k n s = 0
      · rw [if_pos h0]; exact h.1 h0
      · rw [if_neg h0]
        by_cases h1 : 0 < σ.2 k n s
        · rw [if_pos h1]; exact h.2.1 h1
        · rw [if_neg h1]; exact h.2.2 (by omega)
    · exact h.elim
theorem qWf_ok {T : qT} {c s k : Nat} {n : Int} {v : qV} {σ : qS} {ks : qS → Prop} (h : qWf T c s k n v σ ks) : ∃ σ', qPut T c s k n v σ = some σ' ∧ ks σ' := by
  unfold qWf at h
  unfold qPut
  cases hb : qCO T c k with
  | false => rw [hb] at h; exact h.elim
  | true =>
    rw [hb] at h
    simp only [cond_true] at h
    rw [if_pos (qCO_s.mp hb)]
    split at h
    · rename_i heq; rw [heq]; exact ⟨_, rfl, h⟩
    · rename_i heq; rw [heq]; exact ⟨_, if_pos h.1, h.2⟩
    · rename_i heq; rw [heq]; exact ⟨_, if_pos h.1, h.2⟩
    · rename_i heq; rw [heq]; exact ⟨_, rfl, h⟩
    · rename_i k' d k2 n2 heq
      rw [heq]
      simp only
      cases h1 : Nat.beq k2 k' with
      | true =>
        rw [h1] at h
        have e := Nat.eq_of_beq_eq_true h1
        exact ⟨_, if_pos ⟨e, h.1⟩, h.2⟩
      | false =>
        rw [h1] at h
        simp only [cond_false] at h
        have e : ¬ (k2 = k' ∧ n2 < 1000000) := fun q => by rw [q.1, Nat.beq_refl] at h1; cases h1
        rw [if_neg e]
        cases h2 : Nat.beq k2 d.toNat with
        | true =>
          rw [h2] at h
          have e2 := Nat.eq_of_beq_eq_true h2
          exact ⟨_, if_pos ⟨e2, h.1⟩, h.2⟩
        | false => rw [h2] at h; exact h.elim
    · exact h.elim
def qC (c P : Prop) : Prop := c ∧ P
def qB (k : qK) (c : Prop) (t pc : Nat) (ls st : List qV) (σ : qS) : Prop := (c → k t ls st σ) ∧ (¬ c → k pc ls st σ)
def qLI (k : qK) (ls : List qV) (j pc : Nat) (st : List qV) (σ : qS) : Prop := match ls[j]? with
  | some (.inl x) => k pc ls (.inl x :: st) σ
  | _ => False
def qLA (k : qK) (ls : List qV) (j pc : Nat) (st : List qV) (σ : qS) : Prop := match ls[j]? with
  | some (.inr (.inl r)) => k pc ls (.inr (.inl r) :: st) σ
  | some (.inr (.inr (.inr true))) => k pc ls (.inr (.inr (.inr true)) :: st) σ
  | _ => False
def qSt2 (k : qK) (ls : List qV) (j pc : Nat) (v : qV) (st : List qV) (σ : qS) : Prop := bif Nat.blt j ls.length then k pc (ls.set j v) st σ else False
def qLL (k : qK) (ls : List qV) (j pc : Nat) (st : List qV) (σ : qS) : Prop := match ls[j]?, ls[j + 1]? with
  | some (.inr (.inr (.inl x))), some (.inr (.inr (.inr false))) => k pc ls (.inr (.inr (.inl x)) :: st) σ
  | _, _ => False
def qSt3 (k : qK) (ls : List qV) (j pc : Nat) (x : Int) (st : List qV) (σ : qS) : Prop := bif Nat.blt (j + 1) ls.length then k pc ((ls.set j (.inr (.inr (.inl x)))).set (j + 1) q_u) st σ else False
def qI2 (k : qK) (cd : Jvm.ClassFile.Cond) (x y : Int) (t f : Nat) (ls st : List qV) (σ : qS) : Prop := match cd with
  | .eq => qB k (x = y) t f ls st σ
  | .ne => qB k (x = y) f t ls st σ
  | .lt => qB k (x < y) t f ls st σ
  | .ge => qB k (x < y) f t ls st σ
  | .gt => qB k (x ≤ y) f t ls st σ
  | .le => qB k (x ≤ y) t f ls st σ
def qWinv (T : qT) (HC : qHC) (hs : List qHd) (pc n a b c : Nat) (ls st : List qV) (σ : qS) (k : qK) (Q : qRQ) : Prop :=
  (Nat.ble b st.length && Nat.ble (qCat (st.drop b)) (qLw c) && (st.take b).all qAr && qIsB T c (st.take b).reverse) = true ∧
  HC a (st.take b).reverse σ (fun r σ1 => match r with
    | .inl none => k (pc + n) ls (st.drop b) σ1
    | .inl (some v) => k (pc + n) ls (v :: st.drop b) σ1
    | .inr e => (match qHand hs pc e with
      | none => Q (.inr e) σ1
      | some (g, j) => k g (qKl ls j q_u) [] σ1))
def qWx (T : qT) (HC : qHC) (sc : Int × (Int → Int)) (hs : List qHd) (rt pc : Nat) (i : Instr) (n a b c : Nat) (ls st : List qV) (σ : qS) (kk : qK) (Q : qRQ) : Prop := match i with
  | .iconst x => kk (pc + n) ls (.inl x :: st) σ
  | .bipush x => kk (pc + n) ls (.inl x :: st) σ
  | .sipush x => kk (pc + n) ls (.inl x :: st) σ
  | .ldc _ => kk (pc + n) ls (.inl (a : Int) :: st) σ
  | .ldc_w _ => kk (pc + n) ls (.inl (a : Int) :: st) σ
  | .aconst_null => kk (pc + n) ls (.inr (.inl none) :: st) σ
  | .iload_n k => qLI kk ls k.val (pc + n) st σ
  | .iload j => qLI kk ls j (pc + n) st σ
  | .aload_n k => qLA kk ls k.val (pc + n) st σ
  | .aload j => qLA kk ls j (pc + n) st σ
  | .istore_n k => (match st with
    | .inl x :: r => qSt2 kk ls k.val (pc + n) (.inl x) r σ
    | _ => False)
  | .istore j => (match st with
    | .inl x :: r => qSt2 kk ls j (pc + n) (.inl x) r σ
    | _ => False)
  | .astore_n k => (match st with
    | .inr (.inl x) :: r => qSt2 kk ls k.val (pc + n) (.inr (.inl x)) r σ
    | _ => False)
  | .astore j => (match st with
    | .inr (.inl x) :: r => qSt2 kk ls j (pc + n) (.inr (.inl x)) r σ
    | _ => False)
  | .iinc j x => (match ls[j]? with
    | some (.inl y) => qC (qIn (y + x)) (qSt2 kk ls j (pc + n) (.inl (y + x)) st σ)
    | _ => False)
  | .dup => (match st with
    | .inl x :: r => kk (pc + n) ls (.inl x :: .inl x :: r) σ
    | .inr (.inl x) :: r => kk (pc + n) ls (.inr (.inl x) :: .inr (.inl x) :: r) σ
    | _ => False)
  | .dup2 => (match st with
    | .inl x :: .inr (.inl y) :: r => kk (pc + n) ls (.inl x :: .inr (.inl y) :: .inl x :: .inr (.inl y) :: r) σ
    | _ => False)
  | .iadd => (match st with
    | .inl y :: .inl x :: r => qC (qIn (x + y)) (kk (pc + n) ls (.inl (x + y) :: r) σ)
    | _ => False)
  | .isub => (match st with
    | .inl y :: .inl x :: r => qC (qIn (x - y)) (kk (pc + n) ls (.inl (x - y) :: r) σ)
    | _ => False)
  | .imul => (match a with
    | 0 => (match st with
      | .inl y :: .inl x :: r => qC (qIn (x * y)) (kk (pc + n) ls (.inl (x * y) :: r) σ)
      | _ => False)
    | _ => (match st with
      | .inl y :: .inl x :: r => kk (pc + n) ls (.inl (qWr (x * y)) :: r) σ
      | _ => False))
  | .idiv => (match st with
    | .inl y :: .inl x :: r => qC (0 ≤ x ∧ 0 < y) (kk (pc + n) ls (.inl (x / y) :: r) σ)
    | _ => False)
  | .irem => (match st with
    | .inl y :: .inl x :: r => qC (0 ≤ x ∧ 0 < y) (kk (pc + n) ls (.inl (x % y) :: r) σ)
    | _ => False)
  | .ishl => (match st with
    | .inl y :: .inl x :: r => qC (0 ≤ x ∧ 0 ≤ y ∧ y < 31 ∧ x * 2 ^ y.toNat ≤ 2147483647) (kk (pc + n) ls (.inl (x * 2 ^ y.toNat) :: r) σ)
    | _ => False)
  | .ishr => (match a with
    | 0 => (match st with
      | .inl y :: .inl x :: r => qC (0 ≤ x ∧ 0 ≤ y ∧ y < 31) (kk (pc + n) ls (.inl (x / 2 ^ y.toNat) :: r) σ)
      | _ => False)
    | _ => (match st with
      | .inl y :: .inl x :: r => qC (0 ≤ y ∧ y < 31) (kk (pc + n) ls (.inl (x / 2 ^ y.toNat) :: r) σ)
      | _ => False))
  | .iushr => (match st with
    | .inl y :: .inl x :: r => qC (0 < y ∧ y < 32) (kk (pc + n) ls (.inl (x % 4294967296 / 2 ^ y.toNat) :: r) σ)
    | _ => False)
  | .lload_n k => qLL kk ls k.val (pc + n) st σ
  | .lload j => qLL kk ls j (pc + n) st σ
  | .lstore_n k => (match st with
    | .inr (.inr (.inl x)) :: r => qSt3 kk ls k.val (pc + n) x r σ
    | _ => False)
  | .lstore j => (match st with
    | .inr (.inr (.inl x)) :: r => qSt3 kk ls j (pc + n) x r σ
    | _ => False)
  | .ldc2_w _ => kk (pc + n) ls (.inr (.inr (.inl (a : Int))) :: st) σ
  | .lshl => (match st with
    | .inl y :: .inr (.inr (.inl x)) :: r => qC (0 ≤ y ∧ y < 64) (kk (pc + n) ls (.inr (.inr (.inl (qWl (x * 2 ^ y.toNat)))) :: r) σ)
    | _ => False)
  | .lshr => (match st with
    | .inl y :: .inr (.inr (.inl x)) :: r => qC (0 ≤ y ∧ y < 64) (kk (pc + n) ls (.inr (.inr (.inl (x / 2 ^ y.toNat))) :: r) σ)
    | _ => False)
  | .land => (match st with
    | .inr (.inr (.inl y)) :: .inr (.inr (.inl x)) :: r => kk (pc + n) ls (.inr (.inr (.inl (qAndL x y))) :: r) σ
    | _ => False)
  | .lor => (match st with
    | .inr (.inr (.inl y)) :: .inr (.inr (.inl x)) :: r => kk (pc + n) ls (.inr (.inr (.inl (qOrL x y))) :: r) σ
    | _ => False)
  | .l2i => (match st with
    | .inr (.inr (.inl x)) :: r => kk (pc + n) ls (.inl (qWr x) :: r) σ
    | _ => False)
  | .pop => (match st with
    | .inl _ :: r => kk (pc + n) ls r σ
    | _ => False)
  | .iand => (match st with
    | .inl y :: .inl x :: r => kk (pc + n) ls (.inl (qAnd x y) :: r) σ
    | _ => False)
  | .ior => (match st with
    | .inl y :: .inl x :: r => kk (pc + n) ls (.inl (qOr x y) :: r) σ
    | _ => False)
  | .i2l => (match st with
    | .inl x :: r => kk (pc + n) ls (.inr (.inr (.inl x)) :: r) σ
    | _ => False)
  | .lconst k => kk (pc + n) ls (.inr (.inr (.inl (k.val : Int))) :: st) σ
  | .lcmp => (match st with
    | .inr (.inr (.inl y)) :: .inr (.inr (.inl x)) :: r => kk (pc + n) ls (.inl (if x < y then -1 else if x = y then 0 else 1) :: r) σ
    | _ => False)
  | .goto _ => kk a ls st σ
  | .ifCond cd _ => (match st with
    | .inl x :: r => qI2 kk cd x 0 a (pc + n) ls r σ
    | _ => False)
  | .if_icmp cd _ => (match st with
    | .inl y :: .inl x :: r => qI2 kk cd x y a (pc + n) ls r σ
    | _ => False)
  | .if_acmp cd _ => (match st with
    | .inr (.inl y) :: .inr (.inl x) :: r => (match cd with
      | .eq => qB kk (x = y) a (pc + n) ls r σ
      | .ne => qB kk (x = y) (pc + n) a ls r σ)
    | _ => False)
  | .ifnull _ => (match st with
    | .inr (.inl x) :: r => qB kk (x = none) a (pc + n) ls r σ
    | _ => False)
  | .ifnonnull _ => (match st with
    | .inr (.inl x) :: r => qB kk (x = none) (pc + n) a ls r σ
    | _ => False)
  | .tableswitch d lo hi offs => (match st with
    | .inl x :: r => (x < lo ∨ hi < x → kk ((pc : Int) + d).toNat ls r σ) ∧ (¬ (x < lo ∨ hi < x) → kk ((pc : Int) + (offs[(x - lo).toNat]?).getD 0).toNat ls r σ)
    | _ => False)
  | .getfield _ => (match st with
    | .inr (.inl (some (k, m))) :: r => qWg T a b k m σ (fun v => kk (pc + n) ls (v :: r) σ)
    | _ => False)
  | .putfield _ => (match st with
    | v :: .inr (.inl (some (k, m))) :: r => qWf T a b k m v σ (fun σ1 => kk (pc + n) ls r σ1)
    | _ => False)
  | .iaload => (match st with
    | .inl i :: .inr (.inl (some (k, m))) :: r => (match qKd T k with
      | (1, len, _, _, _) => qC (0 ≤ i ∧ i < len) (kk (pc + n) ls (.inl (σ.2 k m i) :: r) σ)
      | _ => False)
    | .inl i :: .inr (.inr (.inr true)) :: r => qC (0 ≤ i ∧ i < sc.1) (kk (pc + n) ls (.inl (sc.2 i) :: r) σ)
    | _ => False)
  | .baload => (match st with
    | .inl i :: .inr (.inl (some (k, m))) :: r => (match qKd T k with
      | (2, len, _, _, _) => qC (0 ≤ i ∧ i < len) (kk (pc + n) ls (.inl (σ.2 k m i) :: r) σ)
      | _ => False)
    | _ => False)
  | .laload => (match st with
    | .inl i :: .inr (.inl (some (k, m))) :: r => (match qKd T k with
      | (3, len, _, _, _) => qC (0 ≤ i ∧ i < len) (kk (pc + n) ls (.inr (.inr (.inl (σ.2 k m i))) :: r) σ)
      | _ => False)
    | _ => False)
  | .aaload => (match st with
    | .inl i :: .inr (.inl (some (k, m))) :: r => (match qKd T k with
      | (4, len, k2, p, q) => qC (0 ≤ i ∧ i < len ∧ σ.1.2.1 k m i = true) (bif decide (p = 0) && decide (q = 0) then kk (pc + n) ls (.inr (.inl (some (k2, i))) :: r) σ else kk (pc + n) ls (.inr (.inl (some (k2, p + q * m + i))) :: r) σ)
      | _ => False)
    | _ => False)
  | .iastore => (match st with
    | .inl x :: .inl i :: .inr (.inl (some (k, m))) :: r => qWlen T k (fun len => qC (0 ≤ i ∧ i < len) (kk (pc + n) ls r (qSetI σ k m i x)))
    | _ => False)
  | .bastore => (match st with
    | .inl x :: .inl i :: .inr (.inl (some (k, m))) :: r => (match qKd T k with
      | (2, len, _, _, _) => qC (0 ≤ i ∧ i < len ∧ (x = 0 ∨ x = 1)) (kk (pc + n) ls r (qSetI σ k m i x))
      | _ => False)
    | _ => False)
  | .lastore => (match st with
    | .inr (.inr (.inl x)) :: .inl i :: .inr (.inl (some (k, m))) :: r => (match qKd T k with
      | (3, len, _, _, _) => qC (0 ≤ i ∧ i < len) (kk (pc + n) ls r (qSetI σ k m i x))
      | _ => False)
    | _ => False)
  | .aastore => (match st with
    | .inr (.inl (some (k3, m3))) :: .inl i :: .inr (.inl (some (k, m))) :: r => (match qKd T k with
      | (4, len, k2, p, q) => qC (0 ≤ i ∧ i < len ∧ k3 = k2 ∧ m3 = p + q * m + i ∧ k2 < 11) (kk (pc + n) ls r (qSetR σ k m i))
      | _ => False)
    | _ => False)
  | .arraylength => (match st with
    | .inr (.inl (some (k, _))) :: r => qWlen T k (fun len => kk (pc + n) ls (.inl len :: r) σ)
    | .inr (.inr (.inr true)) :: r => qC (0 ≤ sc.1) (kk (pc + n) ls (.inl sc.1 :: r) σ)
    | _ => False)
  | .new _ => (match a with
    | 0 => (match qKd T b with
      | (0, ci, _, _, _) => qC (0 ≤ σ.1.1 b) (kk (pc + n) ls (.inr (.inl (some (b, σ.1.1 b))) :: st) (qNew σ b (qLen T ci.toNat)))
      | _ => False)
    | _ => (match st with
      | [] => Q (.inr b) (qBump σ 1 6)
      | _ => False))
  | .newarray _ => (match st with
    | .inl x :: r => qC (0 ≤ σ.1.1 b ∧ x = (qKd T b).2.1 ∧ ((qKd T b).1 = 1 ∨ (qKd T b).1 = 2 ∨ (qKd T b).1 = 3)) (kk (pc + n) ls (.inr (.inl (some (b, σ.1.1 b))) :: r) (qNew σ b x.toNat))
    | _ => False)
  | .anewarray _ => (match st with
    | .inl x :: r => qC (0 ≤ σ.1.1 b ∧ x = (qKd T b).2.1 ∧ (qKd T b).1 = 4) (kk (pc + n) ls (.inr (.inl (some (b, σ.1.1 b))) :: r) (qNew σ b x.toNat))
    | _ => False)
  | .multianewarray _ _ => (match st with
    | .inl y :: .inl x :: r => (match qKd T b with
      | (4, len, k2, p, q) => qC ((0 ≤ σ.1.1 b ∧ 0 ≤ σ.1.1 c ∧ b ≠ c) ∧ x = len ∧ k2 = c ∧ (qKd T c).1 = 1 ∧ (qKd T c).2.1 = y ∧ p + q * σ.1.1 b = σ.1.1 c) (kk (pc + n) ls (.inr (.inl (some (b, σ.1.1 b))) :: r) (qSetRs (qNews (qNew σ b x.toNat) c y.toNat x.toNat) b (σ.1.1 b) x.toNat))
      | _ => False)
    | _ => False)
  | .invokestatic _ => bif Nat.beq c 7 then (match st with
      | .inl k :: .inr (.inr (.inr true)) :: r => qC ((0 ≤ k ∧ k ≤ 1000) ∧ 0 ≤ sc.1 ∧ qCat r ≤ 8) (kk (pc + n) ls (.inl (qCell sc k) :: r) σ)
      | _ => False)
    else qWinv T HC hs pc n a b c ls st σ kk Q
  | .invokevirtual _ => qWinv T HC hs pc n a b c ls st σ kk Q
  | .invokespecial _ => bif Nat.beq c 6 then (match st with
      | .inr (.inl (some _)) :: r => qC (qCat r ≤ 8) (kk (pc + n) ls r σ)
      | _ => False)
    else qWinv T HC hs pc n a b c ls st σ kk Q
  | .ireturn => (match st with
    | [.inl x] => bif Nat.beq rt 1 then Q (.inl (some (.inl x))) σ else qC (rt = 2 ∧ (x = 0 ∨ x = 1)) (Q (.inl (some (.inl x))) σ)
    | _ => False)
  | .lreturn => (match st with
    | [.inr (.inr (.inl x))] => qC (rt = 4) (Q (.inl (some (.inr (.inr (.inl x))))) σ)
    | _ => False)
  | .areturn => (match st with
    | [.inr (.inl (some x))] => qC (rt = 3) (Q (.inl (some (.inr (.inl (some x))))) σ)
    | _ => False)
  | .return_ => (match st with
    | [] => qC (rt = 0) (Q (.inl none) σ)
    | _ => False)
  | _ => False
/-- what must hold from pc to the cut points -/
def qWp (HC : qHC) (sc : Int × (Int → Int)) (C : qCd) (cut : Nat → Bool) (K : qK) (Q : qRQ) : Nat → qK
  | 0 => fun _ _ _ _ => False
  | N + 1 => fun pc ls st σ => match qFetch C pc with
    | none => False
    | some (i, n, a, b, c) => qWx qT0 HC sc C.2.1 C.2.2.1 pc i n a b c ls st σ (fun pc' ls' st' σ' => bif cut pc' then K pc' ls' st' σ' else qWp HC sc C cut K Q N pc' ls' st' σ') Q
def qFin (k : qK) (Q : qRQ) (o : qO) : Prop := match o with
  | .inl (pc', ls', st', σ') => k pc' ls' st' σ'
  | .inr (r, σ') => Q r σ'
section QW
variable {d : Nat} {sc : Int × (Int → Int)} {hs : List qHd} {rt pc : Nat} {i : Instr} {n a b c : Nat} {ls st : List qV} {σ : qS} {k : qK} {Q : qRQ}
theorem qB_ok {p : Prop} [Decidable p] {t f : Nat} (h : qB k p t f ls st σ) : ∃ o, qBr p t f ls st σ = some o ∧ qFin k Q o := by
  unfold qBr
  by_cases hp : p
  · rw [if_pos hp]; exact ⟨_, rfl, h.1 hp⟩
  · rw [if_neg hp]; exact ⟨_, rfl, h.2 hp⟩
theorem qI2_ok {cd : Jvm.ClassFile.Cond} {x y : Int} {t f : Nat} (h : qI2 k cd x y t f ls st σ) : ∃ o, qIf cd x y t f ls st σ = some o ∧ qFin k Q o := by
  unfold qI2 at h
  unfold qIf
  cases cd <;> exact qB_ok h
theorem qSt2_ok {j f : Nat} {v : qV} (h : qSt2 k ls j f v st σ) : ∃ o, qSto ls j f v st σ = some o ∧ qFin k Q o := by
  unfold qSt2 at h
  unfold qSto qChk
  cases hb : Nat.blt j ls.length with
  | false => rw [hb] at h; exact h.elim
  | true =>
    rw [hb] at h
    rw [if_pos (by simpa using hb)]
    exact ⟨_, rfl, h⟩
theorem qLI_ok {j f : Nat} (h : qLI k ls j f st σ) : ∃ o, qLdI ls j f st σ = some o ∧ qFin k Q o := by
  unfold qLI at h
  unfold qLdI
  split at h
  · rename_i hj; rw [hj]; exact ⟨_, rfl, h⟩
  · exact h.elim
theorem qLL_ok {j f : Nat} (h : qLL k ls j f st σ) : ∃ o, qLdL ls j f st σ = some o ∧ qFin k Q o := by
  unfold qLL at h
  unfold qLdL
  split at h
  · rename_i hj hn; rw [hj, hn]; exact ⟨_, rfl, h⟩
  · exact h.elim
theorem qSt3_ok {j f : Nat} {x : Int} (h : qSt3 k ls j f x st σ) : ∃ o, qStoL ls j f x st σ = some o ∧ qFin k Q o := by
  unfold qSt3 at h
  unfold qStoL qChk
  cases hb : Nat.blt (j + 1) ls.length with
  | false => rw [hb] at h; exact h.elim
  | true =>
    rw [hb] at h
    rw [if_pos (by simpa using hb)]
    exact ⟨_, rfl, h⟩
theorem qLA_ok {j f : Nat} (h : qLA k ls j f st σ) : ∃ o, qLdA ls j f st σ = some o ∧ qFin k Q o := by
  unfold qLA at h
  unfold qLdA
  split at h
  · rename_i hj; rw [hj]; exact ⟨_, rfl, h⟩
  · rename_i hj; rw [hj]; exact ⟨_, rfl, h⟩
  · exact h.elim
theorem qC_ok {p : Prop} [Decidable p] {x : Option qO} {P : Prop} (h : qC p P) (hx : P → ∃ o, x = some o ∧ qFin k Q o) : ∃ o, qChk p x = some o ∧ qFin k Q o := by
  unfold qChk
  rw [if_pos h.1]
  exact hx h.2
theorem qWinv_ok (h : qWinv qT0 (qJ d) hs pc n a b c ls st σ k Q) : ∃ N0 o, qInv qT0 (qCall qT0 qP d N0) hs pc n a b c ls st σ = some o ∧ qFin k Q o := by
  obtain ⟨h1, N, r, σ', h2, h3⟩ := h
  refine ⟨N, ?_⟩
  unfold qInv
  rw [h1]
  simp only [cond_true]
  rw [h2]
  match r, h3 with
  | .inl none, h3 => exact ⟨_, rfl, h3⟩
  | .inl (some v), h3 => exact ⟨_, rfl, h3⟩
  | .inr e, h3 =>
    simp only at h3 ⊢
    cases hq : qHand hs pc e with
    | none => rw [hq] at h3; exact ⟨_, rfl, h3⟩
    | some gj => rw [hq] at h3; exact ⟨_, rfl, h3⟩
end QW
