/-! ===== a small machine: objects are pairs (kind, number), memory is kind, number, place -> Int ===== -/
/-- int | reference (null: none) | long | true: the script, false: not set -/
abbrev qV : Type := Int ⊕ (Option (Nat × Int)) ⊕ Int ⊕ Bool
/-- how many of a kind there are; which references that never change are set; cells and slots made; whether cells can be made -/
abbrev qH : Type := (Nat → Int) × (Nat → Int → Int → Bool) × Nat × Nat × Bool
abbrev qM : Type := Nat → Int → Int → Int
abbrev qS : Type := qH × qM
/-- returned, or thrown: which of the three exceptions -/
abbrev qR : Type := Option qV ⊕ Nat
/-- pc, instruction, its length, three numbers for it, the place of its word in the tables -/
abbrev qI : Type := Nat × Instr × Nat × Nat × Nat × Nat × Nat
/-- a handler: from, to, the exception, where it goes on behind its astore, that local -/
abbrev qHd : Type := Nat × Nat × Nat × Nat × Nat
/-- a method's code by 16 bytes, its handlers, what it returns (0 nothing, 1 int, 2 boolean, 3 a reference), its locals -/
abbrev qCd : Type := List (List qI) × List qHd × Nat × Nat
/-- a kind: 0 object of a class | 1 int[] 2 boolean[] 3 long[] with a length | 4 references, with a length, to a kind, number a + b * n + place -/
abbrev qKT : Type := Nat × Int × Nat × Int × Int
/-- a field: 0 int 1 boolean 2 reference that never changes (kind, number plus) 3 reference that may change (kind; kind of the negative ones) -/
abbrev qFT : Type := Nat × Nat × Int
abbrev qT : Type := List qKT × List (List qFT)
abbrev qO : Type := (Nat × List qV × List qV × qS) ⊕ (qR × qS)
abbrev q_u : qV := .inr (.inr (.inr false))
def qLg : qV → Bool
  | .inr (.inr (.inl _)) => true
  | _ => false
/-- a handler's local j (what it holds does not matter; longs are forgotten) -/
def qKl (ls : List qV) (j : Nat) (v : qV) : List qV := bif ls.any qLg then List.replicate ls.length q_u else ls.set j v
def qFl : List qV → List qV
  | [] => []
  | .inr (.inr (.inl x)) :: l => .inr (.inr (.inl x)) :: q_u :: qFl l
  | v :: l => v :: qFl l
abbrev qIn (x : Int) : Prop := -2147483648 ≤ x ∧ x ≤ 2147483647
abbrev qIl (x : Int) : Prop := -9223372036854775808 ≤ x ∧ x ≤ 9223372036854775807
def qU (f : qM) (k : Nat) (n s x : Int) : qM := fun a b c => if a = k ∧ b = n ∧ c = s then x else f a b c
def qUB (f : Nat → Int → Int → Bool) (k : Nat) (n s : Int) : Nat → Int → Int → Bool := fun a b c => if a = k ∧ b = n ∧ c = s then true else f a b c
def qUN (f : Nat → Int) (k : Nat) (x : Int) : Nat → Int := fun a => if a = k then x else f a
def qKd (T : qT) (k : Nat) : qKT := T.1.getD k (9, 0, 0, 0, 0)
def qFd (T : qT) (c s : Nat) : qFT := (T.2.getD c []).getD s (9, 0, 0)
def qFind : List qI → Nat → Option (Instr × Nat × Nat × Nat × Nat)
  | [], _ => none
  | (p, i, n, a, b, c, _) :: l, pc => bif Nat.beq p pc then some (i, n, a, b, c) else qFind l pc
def qFetch (C : qCd) (pc : Nat) : Option (Instr × Nat × Nat × Nat × Nat) := qFind (C.1.getD (pc / 16) []) pc
def qHand : List qHd → Nat → Nat → Option (Nat × Nat)
  | [], _, _ => none
  | (f, t, e, g, j) :: l, pc, k => bif (Nat.ble f pc && Nat.blt pc t) && Nat.beq e k then some (g, j) else qHand l pc k
/-- a reference that may change, out of its number -/
def qDec (k k2 : Nat) (x : Int) : Option (Nat × Int) := if x = 0 then none else if 0 < x then some (k, x - 1) else some (k2, -x - 1)
def qAnd (x y : Int) : Int := (Int32.ofInt x &&& Int32.ofInt y).toInt
def qOr (x y : Int) : Int := (Int32.ofInt x ||| Int32.ofInt y).toInt
def qAndL (x y : Int) : Int := (Int64.ofInt x &&& Int64.ofInt y).toInt
def qOrL (x y : Int) : Int := (Int64.ofInt x ||| Int64.ofInt y).toInt
def qWr (x : Int) : Int := (Int32.ofInt x).toInt
def qWl (x : Int) : Int := (Int64.ofInt x).toInt
def qArgs (n : Nat) (as : List qV) : List qV := qFl as ++ List.replicate (n - (qFl as).length) q_u
def qSw (pc : Nat) (dflt lo hi : Int) (offs : Array Int) (x : Int) : Nat := if x < lo ∨ hi < x then ((pc : Int) + dflt).toNat else ((pc : Int) + (offs[(x - lo).toNat]?).getD 0).toNat
/-- the getfield of place s of a c-object -/
def qGet (T : qT) (c s : Nat) (k : Nat) (n : Int) (σ : qS) : Option qV :=
  if (qKd T k).1 = 0 ∧ (qKd T k).2.1 = (c : Int) then
    (match qFd T c s with
      | (0, _, _) => some (.inl (σ.2 k n s))
      | (1, _, _) => some (.inl (σ.2 k n s))
      | (2, k', d) => if σ.1.2.1 k n s = true then some (.inr (.inl (some (k', n + d)))) else none
      | (3, k', d) => some (.inr (.inl (qDec k' d.toNat (σ.2 k n s))))
      | _ => none)
  else none
def qSetI (σ : qS) (k : Nat) (n s x : Int) : qS := (σ.1, qU σ.2 k n s x)
def qSetR (σ : qS) (k : Nat) (n s : Int) : qS := ((σ.1.1, qUB σ.1.2.1 k n s, σ.1.2.2), σ.2)
def qPut (T : qT) (c s : Nat) (k : Nat) (n : Int) (v : qV) (σ : qS) : Option qS :=
  if (qKd T k).1 = 0 ∧ (qKd T k).2.1 = (c : Int) then
    (match qFd T c s, v with
      | (0, _, _), .inl x => some (qSetI σ k n s x)
      | (1, _, _), .inl x => if x = 0 ∨ x = 1 then some (qSetI σ k n s x) else none
      | (2, k', d), .inr (.inl (some (k2, n2))) => if k2 = k' ∧ n2 = n + d then some (qSetR σ k n s) else none
      | (3, _, _), .inr (.inl none) => some (qSetI σ k n s 0)
      | (3, k', d), .inr (.inl (some (k2, n2))) => if k2 = k' ∧ n2 < 1000000 then some (qSetI σ k n s (n2 + 1)) else if k2 = d.toNat ∧ n2 < 1000000 then some (qSetI σ k n s (-(n2 + 1))) else none
      | _, _ => none)
  else none
/-- a new cell of kind k, with nothing in it; w: how many slots -/
def qNew (σ : qS) (k : Nat) (w : Nat) : qS :=
  ((qUN σ.1.1 k (σ.1.1 k + 1), (fun a b c => if a = k ∧ b = σ.1.1 k then false else σ.1.2.1 a b c), σ.1.2.2.1 + 1, σ.1.2.2.2.1 + w, σ.1.2.2.2.2), fun a b c => if a = k ∧ b = σ.1.1 k then 0 else σ.2 a b c)
/-- n more cells of kind k, of w slots each -/
def qNews (σ : qS) (k w : Nat) : Nat → qS
  | 0 => σ
  | n + 1 => qNew (qNews σ k w n) k w
def qSetRs (σ : qS) (k : Nat) (n : Int) : Nat → qS
  | 0 => σ
  | j + 1 => qSetR (qSetRs σ k n j) k n j
def qBump (σ : qS) (a b : Nat) : qS := ((σ.1.1, σ.1.2.1, σ.1.2.2.1 + a, σ.1.2.2.2.1 + b, false), σ.2)
def qLen (T : qT) (c : Nat) : Nat := (T.2.getD c []).length
def qNx (pc : Nat) (ls st : List qV) (σ : qS) : Option qO := some (.inl (pc, ls, st, σ))
def qChk (c : Prop) [Decidable c] (x : Option qO) : Option qO := if c then x else none
def qBr (c : Prop) [Decidable c] (t pc : Nat) (ls st : List qV) (σ : qS) : Option qO := if c then qNx t ls st σ else qNx pc ls st σ
def qLdI (ls : List qV) (j pc : Nat) (st : List qV) (σ : qS) : Option qO := match ls[j]? with
  | some (.inl x) => qNx pc ls (.inl x :: st) σ
  | _ => none
def qLdA (ls : List qV) (j pc : Nat) (st : List qV) (σ : qS) : Option qO := match ls[j]? with
  | some (.inr (.inl r)) => qNx pc ls (.inr (.inl r) :: st) σ
  | some (.inr (.inr (.inr true))) => qNx pc ls (.inr (.inr (.inr true)) :: st) σ
  | _ => none
def qSto (ls : List qV) (j pc : Nat) (v : qV) (st : List qV) (σ : qS) : Option qO := qChk (j < ls.length) (qNx pc (ls.set j v) st σ)
/-- a long stands in local j, and behind it stands 'not set' -/
def qLdL (ls : List qV) (j pc : Nat) (st : List qV) (σ : qS) : Option qO := match ls[j]?, ls[j + 1]? with
  | some (.inr (.inr (.inl x))), some (.inr (.inr (.inr false))) => qNx pc ls (.inr (.inr (.inl x)) :: st) σ
  | _, _ => none
def qStoL (ls : List qV) (j pc : Nat) (x : Int) (st : List qV) (σ : qS) : Option qO := qChk (j + 1 < ls.length) (qNx pc ((ls.set j (.inr (.inr (.inl x)))).set (j + 1) q_u) st σ)
def qIf (cd : Jvm.ClassFile.Cond) (x y : Int) (t f : Nat) (ls st : List qV) (σ : qS) : Option qO := match cd with
  | .eq => qBr (x = y) t f ls st σ
  | .ne => qBr (x = y) f t ls st σ
  | .lt => qBr (x < y) t f ls st σ
  | .ge => qBr (x < y) f t ls st σ
  | .gt => qBr (x ≤ y) f t ls st σ
  | .le => qBr (x ≤ y) t f ls st σ
def qCat : List qV → Nat
  | [] => 0
  | .inr (.inr (.inl _)) :: l => qCat l + 2
  | _ :: l => qCat l + 1
/-- what may be handed over -/
def qAr : qV → Bool
  | .inl _ => true
  | .inr (.inl _) => true
  | .inr (.inr (.inl _)) => true
  | _ => false
abbrev qCl : Type := Nat → List qV → qS → Option (qR × qS)
/-- a call: kind c % 10 (0 virtual 1 of a nest mate 2 static 3 static of a nest mate 4 constructor 5 of a nest mate), of an object of class c / 10 -/
def qIs (T : qT) (c : Nat) (as : List qV) : Prop := c % 10 = 2 ∨ c % 10 = 3 ∨ c % 10 = 8 ∨ ∃ (k : Nat) (n : Int) (r : List qV), as = .inr (.inl (some (k, n))) :: r ∧ (qKd T k).1 = 0 ∧ (qKd T k).2.1 = ((c / 10 : Nat) : Int)
def qIsB (T : qT) (c : Nat) (as : List qV) : Bool := Nat.beq (c % 10) 2 || Nat.beq (c % 10) 3 || Nat.beq (c % 10) 8 || (match as with
  | .inr (.inl (some (k, _))) :: _ => Nat.beq (qKd T k).1 0 && decide ((qKd T k).2.1 = ((c / 10 : Nat) : Int))
  | _ => false)
/-- how much may stand below the arguments of a call -/
def qLw (c : Nat) : Nat := bif Nat.beq (c % 10) 8 then 16 else 8
def qInv (T : qT) (call : qCl) (hs : List qHd) (pc n a b c : Nat) (ls st : List qV) (σ : qS) : Option qO :=
  bif Nat.ble b st.length && Nat.ble (qCat (st.drop b)) (qLw c) && (st.take b).all qAr && qIsB T c (st.take b).reverse then
    (match call a (st.take b).reverse σ with
      | none => none
      | some (.inl none, σ1) => qNx (pc + n) ls (st.drop b) σ1
      | some (.inl (some v), σ1) => qNx (pc + n) ls (v :: st.drop b) σ1
      | some (.inr k, σ1) => (match qHand hs pc k with
        | none => some (.inr (.inr k, σ1))
        | some (g, j) => qNx g (qKl ls j q_u) [] σ1))
  else none
/-- what the law's own static 'cell' says of the script -/
def qCell (sc : Int × (Int → Int)) (k : Int) : Int := if k < sc.1 then sc.2 k else qWr (1205455843 * (k + 8))
def qEx (T : qT) (call : qCl) (sc : Int × (Int → Int)) (hs : List qHd) (rt pc : Nat) (i : Instr) (n a b c : Nat) (ls st : List qV) (σ : qS) : Option qO := match i with
  | .iconst x => qNx (pc + n) ls (.inl x :: st) σ
  | .bipush x => qNx (pc + n) ls (.inl x :: st) σ
  | .sipush x => qNx (pc + n) ls (.inl x :: st) σ
  | .ldc _ => qNx (pc + n) ls (.inl (a : Int) :: st) σ
  | .ldc_w _ => qNx (pc + n) ls (.inl (a : Int) :: st) σ
  | .aconst_null => qNx (pc + n) ls (.inr (.inl none) :: st) σ
  | .iload_n k => qLdI ls k.val (pc + n) st σ
  | .iload j => qLdI ls j (pc + n) st σ
  | .aload_n k => qLdA ls k.val (pc + n) st σ
  | .aload j => qLdA ls j (pc + n) st σ
  | .istore_n k => (match st with
    | .inl x :: r => qSto ls k.val (pc + n) (.inl x) r σ
    | _ => none)
  | .istore j => (match st with
    | .inl x :: r => qSto ls j (pc + n) (.inl x) r σ
    | _ => none)
  | .astore_n k => (match st with
    | .inr (.inl x) :: r => qSto ls k.val (pc + n) (.inr (.inl x)) r σ
    | _ => none)
  | .astore j => (match st with
    | .inr (.inl x) :: r => qSto ls j (pc + n) (.inr (.inl x)) r σ
    | _ => none)
  | .iinc j x => (match ls[j]? with
    | some (.inl y) => qChk (qIn (y + x)) (qSto ls j (pc + n) (.inl (y + x)) st σ)
    | _ => none)
  | .dup => (match st with
    | .inl x :: r => qNx (pc + n) ls (.inl x :: .inl x :: r) σ
    | .inr (.inl x) :: r => qNx (pc + n) ls (.inr (.inl x) :: .inr (.inl x) :: r) σ
    | _ => none)
  | .dup2 => (match st with
    | .inl x :: .inr (.inl y) :: r => qNx (pc + n) ls (.inl x :: .inr (.inl y) :: .inl x :: .inr (.inl y) :: r) σ
    | _ => none)
  | .iadd => (match st with
    | .inl y :: .inl x :: r => qChk (qIn (x + y)) (qNx (pc + n) ls (.inl (x + y) :: r) σ)
    | _ => none)
  | .isub => (match st with
    | .inl y :: .inl x :: r => qChk (qIn (x - y)) (qNx (pc + n) ls (.inl (x - y) :: r) σ)
    | _ => none)
  | .imul => (match a with
    | 0 => (match st with
      | .inl y :: .inl x :: r => qChk (qIn (x * y)) (qNx (pc + n) ls (.inl (x * y) :: r) σ)
      | _ => none)
    | _ => (match st with
      | .inl y :: .inl x :: r => qNx (pc + n) ls (.inl (qWr (x * y)) :: r) σ
      | _ => none))
  | .idiv => (match st with
    | .inl y :: .inl x :: r => qChk (0 ≤ x ∧ 0 < y) (qNx (pc + n) ls (.inl (x / y) :: r) σ)
    | _ => none)
  | .irem => (match st with
    | .inl y :: .inl x :: r => qChk (0 ≤ x ∧ 0 < y) (qNx (pc + n) ls (.inl (x % y) :: r) σ)
    | _ => none)
  | .ishl => (match st with
    | .inl y :: .inl x :: r => qChk (0 ≤ x ∧ 0 ≤ y ∧ y < 31 ∧ x * 2 ^ y.toNat ≤ 2147483647) (qNx (pc + n) ls (.inl (x * 2 ^ y.toNat) :: r) σ)
    | _ => none)
  | .ishr => (match a with
    | 0 => (match st with
      | .inl y :: .inl x :: r => qChk (0 ≤ x ∧ 0 ≤ y ∧ y < 31) (qNx (pc + n) ls (.inl (x / 2 ^ y.toNat) :: r) σ)
      | _ => none)
    | _ => (match st with
      | .inl y :: .inl x :: r => qChk (0 ≤ y ∧ y < 31) (qNx (pc + n) ls (.inl (x / 2 ^ y.toNat) :: r) σ)
      | _ => none))
  | .iushr => (match st with
    | .inl y :: .inl x :: r => qChk (0 < y ∧ y < 32) (qNx (pc + n) ls (.inl (x % 4294967296 / 2 ^ y.toNat) :: r) σ)
    | _ => none)
  | .lload_n k => qLdL ls k.val (pc + n) st σ
  | .lload j => qLdL ls j (pc + n) st σ
  | .lstore_n k => (match st with
    | .inr (.inr (.inl x)) :: r => qStoL ls k.val (pc + n) x r σ
    | _ => none)
  | .lstore j => (match st with
    | .inr (.inr (.inl x)) :: r => qStoL ls j (pc + n) x r σ
    | _ => none)
  | .ldc2_w _ => qNx (pc + n) ls (.inr (.inr (.inl (a : Int))) :: st) σ
  | .lshl => (match st with
    | .inl y :: .inr (.inr (.inl x)) :: r => qChk (0 ≤ y ∧ y < 64) (qNx (pc + n) ls (.inr (.inr (.inl (qWl (x * 2 ^ y.toNat)))) :: r) σ)
    | _ => none)
  | .lshr => (match st with
    | .inl y :: .inr (.inr (.inl x)) :: r => qChk (0 ≤ y ∧ y < 64) (qNx (pc + n) ls (.inr (.inr (.inl (x / 2 ^ y.toNat))) :: r) σ)
    | _ => none)
  | .land => (match st with
    | .inr (.inr (.inl y)) :: .inr (.inr (.inl x)) :: r => qNx (pc + n) ls (.inr (.inr (.inl (qAndL x y))) :: r) σ
    | _ => none)
  | .lor => (match st with
    | .inr (.inr (.inl y)) :: .inr (.inr (.inl x)) :: r => qNx (pc + n) ls (.inr (.inr (.inl (qOrL x y))) :: r) σ
    | _ => none)
  | .l2i => (match st with
    | .inr (.inr (.inl x)) :: r => qNx (pc + n) ls (.inl (qWr x) :: r) σ
    | _ => none)
  | .pop => (match st with
    | .inl _ :: r => qNx (pc + n) ls r σ
    | _ => none)
  | .iand => (match st with
    | .inl y :: .inl x :: r => qNx (pc + n) ls (.inl (qAnd x y) :: r) σ
    | _ => none)
  | .ior => (match st with
    | .inl y :: .inl x :: r => qNx (pc + n) ls (.inl (qOr x y) :: r) σ
    | _ => none)
  | .i2l => (match st with
    | .inl x :: r => qNx (pc + n) ls (.inr (.inr (.inl x)) :: r) σ
    | _ => none)
  | .lconst k => qNx (pc + n) ls (.inr (.inr (.inl (k.val : Int))) :: st) σ
  | .lcmp => (match st with
    | .inr (.inr (.inl y)) :: .inr (.inr (.inl x)) :: r => qNx (pc + n) ls (.inl (if x < y then -1 else if x = y then 0 else 1) :: r) σ
    | _ => none)
  | .goto _ => qNx a ls st σ
  | .ifCond cd _ => (match st with
    | .inl x :: r => qIf cd x 0 a (pc + n) ls r σ
    | _ => none)
  | .if_icmp cd _ => (match st with
    | .inl y :: .inl x :: r => qIf cd x y a (pc + n) ls r σ
    | _ => none)
  | .if_acmp cd _ => (match st with
    | .inr (.inl y) :: .inr (.inl x) :: r => (match cd with
      | .eq => qBr (x = y) a (pc + n) ls r σ
      | .ne => qBr (x = y) (pc + n) a ls r σ)
    | _ => none)
  | .ifnull _ => (match st with
    | .inr (.inl x) :: r => qBr (x = none) a (pc + n) ls r σ
    | _ => none)
  | .ifnonnull _ => (match st with
    | .inr (.inl x) :: r => qBr (x = none) (pc + n) a ls r σ
    | _ => none)
  | .tableswitch d lo hi offs => (match st with
    | .inl x :: r => qNx (qSw pc d lo hi offs x) ls r σ
    | _ => none)
  | .getfield _ => (match st with
    | .inr (.inl (some (k, m))) :: r => (match qGet T a b k m σ with
      | some v => qNx (pc + n) ls (v :: r) σ
      | none => none)
    | _ => none)
  | .putfield _ => (match st with
    | v :: .inr (.inl (some (k, m))) :: r => (match qPut T a b k m v σ with
      | some σ1 => qNx (pc + n) ls r σ1
      | none => none)
    | _ => none)
  | .iaload => (match st with
    | .inl i :: .inr (.inl (some (k, m))) :: r => (match qKd T k with
      | (1, len, _, _, _) => qChk (0 ≤ i ∧ i < len) (qNx (pc + n) ls (.inl (σ.2 k m i) :: r) σ)
      | _ => none)
    | .inl i :: .inr (.inr (.inr true)) :: r => qChk (0 ≤ i ∧ i < sc.1) (qNx (pc + n) ls (.inl (sc.2 i) :: r) σ)
    | _ => none)
  | .baload => (match st with
    | .inl i :: .inr (.inl (some (k, m))) :: r => (match qKd T k with
      | (2, len, _, _, _) => qChk (0 ≤ i ∧ i < len) (qNx (pc + n) ls (.inl (σ.2 k m i) :: r) σ)
      | _ => none)
    | _ => none)
  | .laload => (match st with
    | .inl i :: .inr (.inl (some (k, m))) :: r => (match qKd T k with
      | (3, len, _, _, _) => qChk (0 ≤ i ∧ i < len) (qNx (pc + n) ls (.inr (.inr (.inl (σ.2 k m i))) :: r) σ)
      | _ => none)
    | _ => none)
  | .aaload => (match st with
    | .inl i :: .inr (.inl (some (k, m))) :: r => (match qKd T k with
      | (4, len, k2, p, q) => qChk (0 ≤ i ∧ i < len ∧ σ.1.2.1 k m i = true) (qNx (pc + n) ls (.inr (.inl (some (k2, p + q * m + i))) :: r) σ)
      | _ => none)
    | _ => none)
  | .iastore => (match st with
    | .inl x :: .inl i :: .inr (.inl (some (k, m))) :: r => (match qKd T k with
      | (1, len, _, _, _) => qChk (0 ≤ i ∧ i < len) (qNx (pc + n) ls r (qSetI σ k m i x))
      | _ => none)
    | _ => none)
  | .bastore => (match st with
    | .inl x :: .inl i :: .inr (.inl (some (k, m))) :: r => (match qKd T k with
      | (2, len, _, _, _) => qChk (0 ≤ i ∧ i < len ∧ (x = 0 ∨ x = 1)) (qNx (pc + n) ls r (qSetI σ k m i x))
      | _ => none)
    | _ => none)
  | .lastore => (match st with
    | .inr (.inr (.inl x)) :: .inl i :: .inr (.inl (some (k, m))) :: r => (match qKd T k with
      | (3, len, _, _, _) => qChk (0 ≤ i ∧ i < len) (qNx (pc + n) ls r (qSetI σ k m i x))
      | _ => none)
    | _ => none)
  | .aastore => (match st with
    | .inr (.inl (some (k3, m3))) :: .inl i :: .inr (.inl (some (k, m))) :: r => (match qKd T k with
      | (4, len, k2, p, q) => qChk (0 ≤ i ∧ i < len ∧ k3 = k2 ∧ m3 = p + q * m + i ∧ k2 < 11) (qNx (pc + n) ls r (qSetR σ k m i))
      | _ => none)
    | _ => none)
  | .arraylength => (match st with
    | .inr (.inl (some (k, _))) :: r => (match qKd T k with
      | (1, len, _, _, _) => qNx (pc + n) ls (.inl len :: r) σ
      | _ => none)
    | .inr (.inr (.inr true)) :: r => qChk (0 ≤ sc.1) (qNx (pc + n) ls (.inl sc.1 :: r) σ)
    | _ => none)
  | .new _ => (match a with
    | 0 => (match qKd T b with
      | (0, ci, _, _, _) => qChk (0 ≤ σ.1.1 b) (qNx (pc + n) ls (.inr (.inl (some (b, σ.1.1 b))) :: st) (qNew σ b (qLen T ci.toNat)))
      | _ => none)
    | _ => (match st with
      | [] => some (.inr (.inr b, qBump σ 1 6))
      | _ => none))
  | .newarray _ => (match st with
    | .inl x :: r => qChk (0 ≤ σ.1.1 b ∧ x = (qKd T b).2.1 ∧ ((qKd T b).1 = 1 ∨ (qKd T b).1 = 2 ∨ (qKd T b).1 = 3)) (qNx (pc + n) ls (.inr (.inl (some (b, σ.1.1 b))) :: r) (qNew σ b x.toNat))
    | _ => none)
  | .anewarray _ => (match st with
    | .inl x :: r => qChk (0 ≤ σ.1.1 b ∧ x = (qKd T b).2.1 ∧ (qKd T b).1 = 4) (qNx (pc + n) ls (.inr (.inl (some (b, σ.1.1 b))) :: r) (qNew σ b x.toNat))
    | _ => none)
  | .multianewarray _ _ => (match st with
    | .inl y :: .inl x :: r => (match qKd T b with
      | (4, len, k2, p, q) => qChk ((0 ≤ σ.1.1 b ∧ 0 ≤ σ.1.1 c ∧ b ≠ c) ∧ x = len ∧ k2 = c ∧ (qKd T c).1 = 1 ∧ (qKd T c).2.1 = y ∧ p + q * σ.1.1 b = σ.1.1 c) (qNx (pc + n) ls (.inr (.inl (some (b, σ.1.1 b))) :: r) (qSetRs (qNews (qNew σ b x.toNat) c y.toNat x.toNat) b (σ.1.1 b) x.toNat))
      | _ => none)
    | _ => none)
  | .invokestatic _ => bif Nat.beq c 7 then (match st with
      | .inl k :: .inr (.inr (.inr true)) :: r => qChk ((0 ≤ k ∧ k ≤ 1000) ∧ 0 ≤ sc.1 ∧ qCat r ≤ 8) (qNx (pc + n) ls (.inl (qCell sc k) :: r) σ)
      | _ => none)
    else qInv T call hs pc n a b c ls st σ
  | .invokevirtual _ => qInv T call hs pc n a b c ls st σ
  | .invokespecial _ => bif Nat.beq c 6 then (match st with
      | .inr (.inl (some _)) :: r => qChk (qCat r ≤ 8) (qNx (pc + n) ls r σ)
      | _ => none)
    else qInv T call hs pc n a b c ls st σ
  | .ireturn => (match st with
    | [.inl x] => bif Nat.beq rt 1 then some (.inr (.inl (some (.inl x)), σ)) else qChk (rt = 2 ∧ (x = 0 ∨ x = 1)) (some (.inr (.inl (some (.inl x)), σ)))
    | _ => none)
  | .lreturn => (match st with
    | [.inr (.inr (.inl x))] => qChk (rt = 4) (some (.inr (.inl (some (.inr (.inr (.inl x)))), σ)))
    | _ => none)
  | .areturn => (match st with
    | [.inr (.inl (some x))] => qChk (rt = 3) (some (.inr (.inl (some (.inr (.inl (some x)))), σ)))
    | _ => none)
  | .return_ => (match st with
    | [] => qChk (rt = 0) (some (.inr (.inl none, σ)))
    | _ => none)
  | _ => none
def qStep (T : qT) (call : qCl) (sc : Int × (Int → Int)) (C : qCd) (pc : Nat) (ls st : List qV) (σ : qS) : Option qO := match qFetch C pc with
  | none => none
  | some (i, n, a, b, c) => qEx T call sc C.2.1 C.2.2.1 pc i n a b c ls st σ
def qRun (T : qT) (call : qCl) (sc : Int × (Int → Int)) (C : qCd) : Nat → Nat → List qV → List qV → qS → Option (qR × qS)
  | 0, _, _, _, _ => none
  | N + 1, pc, ls, st, σ => match qStep T call sc C pc ls st σ with
    | none => none
    | some (.inr r) => some r
    | some (.inl (pc', ls', st', σ')) => qRun T call sc C N pc' ls' st' σ'
/-- calls, at most d deep; P: the program -/
def qCall (T : qT) (P : Nat → qCd) : Nat → Nat → qCl
  | 0, _, _, _, _ => none
  | d + 1, N, m, as, σ => bif Nat.ble (qFl as).length (P m).2.2.2 then qRun T (qCall T P d N) (-1, fun _ => 0) (P m) N 0 (qArgs (P m).2.2.2 as) [] σ else none
