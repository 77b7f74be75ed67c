/-! ===== what the small machine's memory is in the heap ===== -/
def qCls : List vw_C := [(RX0, TX0, 3), (RX1, TX1, 2), (RX2, TX2, 11), (RX3, TX3, 12), (RX4, TX4, 6), (RX5, TX5, 13), (RX6, TX6, 6), (RX7, TX7, 13), (RX8, TX8, 9), (RX9, TX9, 18), (RX10, TX10, 15)]
/-- the array classes that there are -/
def qTy (cA : Nat → ClassId) : List (ClassId × FieldType) := [(cA 0, .int), (cA 1, .boolean), (cA 2, .long), (cA 3, .object RX1), (cA 4, .object RX5), (cA 5, .object RX8), (cA 6, .object RX9), (cA 7, .array .int)]
def qTi (k : Nat) : Nat := if k = 1 then 3 else if k = 5 then 4 else if k = 8 then 5 else if k = 9 then 6 else 7
abbrev qA : Type := Nat → Int → Nat
def qFV (ad : qA) (σ : qS) (k : Nat) (n : Int) (f : qFT) (s : Nat) : Value := match f with
  | (0, _, _) => .int (Int32.ofInt (σ.2 k n s))
  | (1, _, _) => .int (Int32.ofInt (σ.2 k n s))
  | (2, k', d) => if σ.1.2.1 k n s = true then .ref (ad k' (n + d)) else .null
  | (3, k', d) => va_rf ((qDec k' d.toNat (σ.2 k n s)).map (fun q => ad q.1 q.2))
  | _ => .null
def qFs (ad : qA) (σ : qS) (k : Nat) (n : Int) (fs : List qFT) : List Value := (List.range fs.length).map (fun s => qFV ad σ k n (fs.getD s (9, 0, 0)) s)
def qRf (ad : qA) (σ : qS) (k : Nat) (n len : Int) (k2 : Nat) (p q : Int) (j : Nat) : Option Nat := if (j : Int) < len ∧ σ.1.2.1 k n j = true then some (ad k2 (p + q * n + j)) else none
def qEnt (T : qT) (cA : Nat → ClassId) (ad : qA) (σ : qS) (k : Nat) (n : Int) : va_E := match qKd T k with
  | (0, ci, _, _, _) => .inr (ci.toNat, qFs ad σ k n (T.2.getD ci.toNat []))
  | (1, len, _, _, _) => .inl (cA 0, len.toNat, .inl (fun j => Int32.ofInt (σ.2 k n j)))
  | (2, len, _, _, _) => .inl (cA 1, len.toNat, .inl (fun j => Int32.ofInt (σ.2 k n j)))
  | (3, len, _, _, _) => .inl (cA 2, len.toNat, .inr (.inl (fun j => Int64.ofInt (σ.2 k n j))))
  | (4, len, k2, p, q) => .inl (cA (qTi k2), len.toNat, .inr (.inr (.inr (.inr (qRf ad σ k n len k2 p q)))))
  | _ => .inl (cA 7, 0, .inl (fun _ => 0))
def qWs (T : qT) (cA : Nat → ClassId) (ad : qA) (σ : qS) (objs : List (Nat × Int)) : va_W := objs.map (fun q => (ad q.1 q.2, qEnt T cA ad σ q.1 q.2))
/-- there is such an object -/
def qVa (σ : qS) (k : Nat) (n : Int) : Prop := 0 ≤ n ∧ n < σ.1.1 k
def qIk (T : qT) (k : Nat) (x : Int) : Prop := ((qKd T k).1 ≠ 3 → qIn x) ∧ qIl x
def qOK (T : qT) (σ : qS) (objs : List (Nat × Int)) : Prop :=
  (∀ (k : Nat) (n : Int), (k, n) ∈ objs ↔ qVa σ k n) ∧ (∀ (k : Nat) (n s : Int), qIk T k (σ.2 k n s)) ∧
  (∀ (k : Nat) (n : Int) (s k' : Nat) (d : Int), qVa σ k n → (qKd T k).1 = 0 → qFd T (qKd T k).2.1.toNat s = (2, k', d) → σ.1.2.1 k n s = true → qVa σ k' (n + d)) ∧
  (∀ (k : Nat) (n : Int) (s k' : Nat) (d : Int), qVa σ k n → (qKd T k).1 = 0 → qFd T (qKd T k).2.1.toNat s = (3, k', d) → ∀ q : Nat × Int, qDec k' d.toNat (σ.2 k n s) = some q → qVa σ q.1 q.2) ∧
  (∀ (k : Nat) (n len : Int) (k2 : Nat) (p q : Int) (j : Int), qVa σ k n → qKd T k = (4, len, k2, p, q) → 0 ≤ j → j < len → σ.1.2.1 k n j = true → qVa σ k2 (p + q * n + j))
def qVo (σ : qS) (v : qV) : Prop := match v with
  | .inl x => qIn x
  | .inr (.inl none) => True
  | .inr (.inl (some (k, n))) => qVa σ k n
  | .inr (.inr (.inl x)) => qIl x
  | .inr (.inr (.inr _)) => True
def qVl (ad : qA) (b : Nat) (v : qV) : Value := match v with
  | .inl x => .int (Int32.ofInt x)
  | .inr (.inl none) => .null
  | .inr (.inl (some (k, n))) => .ref (ad k n)
  | .inr (.inr (.inl x)) => .long (Int64.ofInt x)
  | .inr (.inr (.inr true)) => .ref b
  | .inr (.inr (.inr false)) => .null
/-- addresses of what there was stay -/
def qAg (σ : qS) (ad ad' : qA) : Prop := ∀ (k : Nat) (n : Int), qVa σ k n → ad' k n = ad k n
theorem qi_int {x : Int} (h : qIn x) : (Int32.ofInt x).toInt = x := Int32.toInt_ofInt_of_le h.1 (by have := h.2; omega)
theorem qi_eq {x : Int} {y : Int32} (h : y.toInt = x) : Int32.ofInt x = y := by
  rw [← h, Int32.ofInt_toInt]
theorem qi_lng {x : Int} (h : qIl x) : (Int64.ofInt x).toInt = x := Int64.toInt_ofInt_of_le (by have := h.1; omega) (by have := h.2; omega)
theorem qi_il {x : Int} (h : qIn x) : qIl x := ⟨by have := h.1; omega, by have := h.2; omega⟩
theorem qi_nat {x : Int} (h : qIn x) (h0 : 0 ≤ x) : (Int32.ofInt x).toNatClampNeg = x.toNat := by
  have := qi_int h
  simp [Int32.toNatClampNeg, this]
theorem qi_vp {x len : Int} (h : qIn x) (h0 : 0 ≤ x) (h1 : x < len) : vp_in (Int32.ofInt x) len.toNat := by
  rw [vp_in_iff, qi_int h]
  omega
theorem q_at {objs : List (Nat × Int)} {k : Nat} {n : Int} (h : (k, n) ∈ objs) : ∃ p : Nat, objs[p]? = some (k, n) := List.getElem?_of_mem h
theorem qWs_at {T : qT} {cA : Nat → ClassId} {ad : qA} {σ : qS} {objs : List (Nat × Int)} {p k : Nat} {n : Int} (h : objs[p]? = some (k, n)) : (qWs T cA ad σ objs)[p]? = some (ad k n, qEnt T cA ad σ k n) := by
  simp [qWs, List.getElem?_map, h]
/-- each object stands once -/
theorem q_once {T : qT} {cA : Nat → ClassId} {ad : qA} {σ : qS} {objs : List (Nat × Int)} {A : Nat → Prop} (hD : va_D A (qWs T cA ad σ objs)) {i j : Nat} {q : Nat × Int} (h1 : objs[i]? = some q) (h2 : objs[j]? = some q) : i = j :=
  hD.1 i j _ _ (qWs_at (k := q.1) (n := q.2) h1) (qWs_at (k := q.1) (n := q.2) h2) rfl
theorem q_inj {T : qT} {cA : Nat → ClassId} {ad : qA} {σ : qS} {objs : List (Nat × Int)} {A : Nat → Prop} (hD : va_D A (qWs T cA ad σ objs)) {k k2 : Nat} {n n2 : Int} (h1 : (k, n) ∈ objs) (h2 : (k2, n2) ∈ objs) (h : ad k n = ad k2 n2) : k = k2 ∧ n = n2 := by
  obtain ⟨i, hi⟩ := q_at h1
  obtain ⟨j, hj⟩ := q_at h2
  have e := hD.1 i j _ _ (qWs_at hi) (qWs_at hj) h
  subst e
  rw [hi] at hj
  simpa using hj
theorem qWs_set {T : qT} {cA : Nat → ClassId} {ad : qA} {σ σ' : qS} {objs : List (Nat × Int)} {A : Nat → Prop} (hD : va_D A (qWs T cA ad σ objs)) {p k : Nat} {n : Int} {e : va_E} (hp : objs[p]? = some (k, n)) (he : qEnt T cA ad σ' k n = e) (ho : ∀ (k2 : Nat) (n2 : Int), (k2, n2) ∈ objs → ¬ (k2 = k ∧ n2 = n) → qEnt T cA ad σ' k2 n2 = qEnt T cA ad σ k2 n2) :
    (qWs T cA ad σ objs).set p (ad k n, e) = qWs T cA ad σ' objs := by
  apply List.ext_getElem?
  intro i
  have hl : p < objs.length := (List.getElem?_eq_some_iff.mp hp).1
  by_cases hi : i = p
  · subst hi
    rw [List.getElem?_set_self (by simp [qWs]; exact hl), qWs_at hp, he]
  · rw [List.getElem?_set_ne (Ne.symm hi)]
    cases hq : objs[i]? with
    | none => simp [qWs, List.getElem?_map, hq]
    | some q =>
      obtain ⟨k2, n2⟩ := q
      rw [qWs_at hq, qWs_at hq, ho k2 n2 (List.mem_of_getElem? hq)]
      rintro ⟨rfl, rfl⟩
      exact hi (q_once hD hq hp)
theorem qWs_congr {T : qT} {cA : Nat → ClassId} {ad ad' : qA} {σ σ' : qS} {objs : List (Nat × Int)} (h : ∀ (k : Nat) (n : Int), (k, n) ∈ objs → ad k n = ad' k n ∧ qEnt T cA ad σ k n = qEnt T cA ad' σ' k n) : qWs T cA ad σ objs = qWs T cA ad' σ' objs := by
  unfold qWs
  apply List.map_congr_left
  intro q hq
  obtain ⟨h1, h2⟩ := h q.1 q.2 hq
  rw [h1, h2]
theorem qEnt_ag {T : qT} {cA : Nat → ClassId} {ad ad' : qA} {σ : qS} {objs : List (Nat × Int)} (hO : qOK T σ objs) (hA : qAg σ ad ad') {k : Nat} {n : Int} (hv : qVa σ k n) : qEnt T cA ad σ k n = qEnt T cA ad' σ k n := by
  obtain ⟨h1, h2, h3, h4, h5⟩ := hO
  unfold qEnt
  rcases hk : qKd T k with ⟨t, len, k2, p, q⟩
  have hk0 : (qKd T k).1 = t := by rw [hk]
  have hk1 : (qKd T k).2.1 = len := by rw [hk]
  match t, hk, hk0 with
  | 0, hk, hk0 =>
    simp only
    congr 2
    unfold qFs
    apply List.map_congr_left
    intro s hs
    have g3 := h3 k n s
    have g4 := h4 k n s
    rw [hk1] at g3 g4
    unfold qFd at g3 g4
    rcases hf : (T.2.getD len.toNat []).getD s (9, 0, 0) with ⟨m, k', d⟩
    rw [hf] at g3 g4
    match m, hf with
    | 0, hf => rfl
    | 1, hf => rfl
    | 2, hf =>
      simp only [qFV]
      by_cases hi : σ.1.2.1 k n s = true
      · rw [if_pos hi, if_pos hi, hA _ _ (g3 k' d hv hk0 rfl hi)]
      · rw [if_neg hi, if_neg hi]
    | 3, hf =>
      simp only [qFV]
      cases hd : qDec k' d.toNat (σ.2 k n s) with
      | none => rfl
      | some w => simp [hA _ _ (g4 k' d hv hk0 rfl w hd)]
    | m + 4, hf => rfl
  | 1, hk, hk0 => rfl
  | 2, hk, hk0 => rfl
  | 3, hk, hk0 => rfl
  | 4, hk, hk0 =>
    have e : qRf ad σ k n len k2 p q = qRf ad' σ k n len k2 p q := by
      funext j
      unfold qRf
      by_cases hi : (j : Int) < len ∧ σ.1.2.1 k n j = true
      · rw [if_pos hi, if_pos hi, hA _ _ (h5 k n len k2 p q j hv hk (Int.natCast_nonneg j) hi.1 hi.2)]
      · rw [if_neg hi, if_neg hi]
    simp only [e]
  | t + 5, hk, hk0 => rfl
/-! what a write leaves -/
theorem qEnt_setI {T : qT} {cA : Nat → ClassId} {ad : qA} {σ : qS} {k : Nat} {n s x : Int} {k2 : Nat} {n2 : Int} (h : ¬ (k2 = k ∧ n2 = n)) : qEnt T cA ad (qSetI σ k n s x) k2 n2 = qEnt T cA ad σ k2 n2 := by
  have e : ∀ z, (qSetI σ k n s x).2 k2 n2 z = σ.2 k2 n2 z := fun z => by
    simp only [qSetI, qU]
    rw [if_neg (fun q => h ⟨q.1, q.2.1⟩)]
  have e1 : (qSetI σ k n s x).1 = σ.1 := rfl
  unfold qEnt
  rcases qKd T k2 with ⟨t, len, a, b, c⟩
  match t with
  | 0 =>
    simp only
    congr 2
    unfold qFs
    apply List.map_congr_left
    intro z _
    rcases (T.2.getD len.toNat []).getD z (9, 0, 0) with ⟨m, k', d⟩
    match m with
    | 0 => simp only [qFV, e]
    | 1 => simp only [qFV, e]
    | 2 => simp only [qFV, e1]
    | 3 => simp only [qFV, e]
    | m + 4 => rfl
  | 1 => simp only [e]
  | 2 => simp only [e]
  | 3 => simp only [e]
  | 4 => rfl
  | t + 5 => rfl
theorem qEnt_setR {T : qT} {cA : Nat → ClassId} {ad : qA} {σ : qS} {k : Nat} {n s : Int} {k2 : Nat} {n2 : Int} (h : ¬ (k2 = k ∧ n2 = n)) : qEnt T cA ad (qSetR σ k n s) k2 n2 = qEnt T cA ad σ k2 n2 := by
  have e : ∀ z, (qSetR σ k n s).1.2.1 k2 n2 z = σ.1.2.1 k2 n2 z := fun z => by
    simp only [qSetR, qUB]
    rw [if_neg (fun q => h ⟨q.1, q.2.1⟩)]
  have e1 : (qSetR σ k n s).2 = σ.2 := rfl
  unfold qEnt
  rcases qKd T k2 with ⟨t, len, a, b, c⟩
  match t with
  | 0 =>
    simp only
    congr 2
    unfold qFs
    apply List.map_congr_left
    intro z _
    rcases (T.2.getD len.toNat []).getD z (9, 0, 0) with ⟨m, k', d⟩
    match m with
    | 0 => simp only [qFV, e1]
    | 1 => simp only [qFV, e1]
    | 2 => simp only [qFV, e]
    | 3 => simp only [qFV, e1]
    | m + 4 => rfl
  | 1 => rfl
  | 2 => rfl
  | 3 => rfl
  | 4 =>
    have e2 : qRf ad (qSetR σ k n s) k2 n2 len a b c = qRf ad σ k2 n2 len a b c := by
      funext j
      unfold qRf
      rw [e]
    simp only [e2]
  | t + 5 => rfl
theorem qVa_setI {σ : qS} {k : Nat} {n s x : Int} : qVa (qSetI σ k n s x) = qVa σ := rfl
theorem qVa_setR {σ : qS} {k : Nat} {n s : Int} : qVa (qSetR σ k n s) = qVa σ := rfl
/-- a number is written: not into a reference that may change, unless it stands for an object -/
theorem qOK_setI {T : qT} {σ : qS} {objs : List (Nat × Int)} (hO : qOK T σ objs) {k : Nat} {n s x : Int} (hx : qIk T k x) (hq : ∀ (s' k' : Nat) (d : Int), (qKd T k).1 = 0 → qFd T (qKd T k).2.1.toNat s' = (3, k', d) → s = s' → ∀ q : Nat × Int, qDec k' d.toNat x = some q → qVa σ q.1 q.2) : qOK T (qSetI σ k n s x) objs := by
  obtain ⟨h1, h2, h3, h4, h5⟩ := hO
  refine ⟨h1, fun k2 n2 s2 => ?_, h3, fun k2 n2 s2 k' d hv hk hf q hd => ?_, h5⟩
  · simp only [qSetI, qU]
    by_cases e : k2 = k ∧ n2 = n ∧ s2 = s
    · rw [if_pos e, e.1]; exact hx
    · rw [if_neg e]; exact h2 k2 n2 s2
  · simp only [qSetI, qU] at hd
    by_cases e : k2 = k ∧ n2 = n ∧ (s2 : Int) = s
    · rw [if_pos e] at hd
      obtain ⟨rfl, rfl, e3⟩ := e
      exact hq s2 k' d hk hf e3.symm q hd
    · rw [if_neg e] at hd
      exact h4 k2 n2 s2 k' d hv hk hf q hd
/-- a reference that never changes is set -/
theorem qOK_setR {T : qT} {σ : qS} {objs : List (Nat × Int)} (hO : qOK T σ objs) {k : Nat} {n s : Int} (hf : ∀ (s' k' : Nat) (d : Int), (qKd T k).1 = 0 → qFd T (qKd T k).2.1.toNat s' = (2, k', d) → s = s' → qVa σ k' (n + d)) (ha : ∀ (len : Int) (k2 : Nat) (p q : Int), qKd T k = (4, len, k2, p, q) → qVa σ k2 (p + q * n + s)) : qOK T (qSetR σ k n s) objs := by
  obtain ⟨h1, h2, h3, h4, h5⟩ := hO
  refine ⟨h1, h2, fun k2 n2 s2 k' d hv hk hff hi => ?_, h4, fun k2 n2 len k' p q j hv hk h0 hl hi => ?_⟩
  · simp only [qSetR, qUB] at hi
    by_cases e : k2 = k ∧ n2 = n ∧ (s2 : Int) = s
    · obtain ⟨rfl, rfl, e3⟩ := e
      exact hf s2 k' d hk hff e3.symm
    · rw [if_neg e] at hi
      exact h3 k2 n2 s2 k' d hv hk hff hi
  · simp only [qSetR, qUB] at hi
    by_cases e : k2 = k ∧ n2 = n ∧ j = s
    · obtain ⟨rfl, rfl, rfl⟩ := e
      exact ha len k' p q hk
    · rw [if_neg e] at hi
      exact h5 k2 n2 len k' p q j hv hk h0 hl hi
