/-! ===== references compared, switches, new things ===== -/
/-- the addresses with a new one -/
def qAdd (ad : qA) (k : Nat) (n : Int) (q : Nat) : qA := fun a x => if a = k ∧ x = n then q else ad a x
section QR
variable {d : Nat} {p : Program} {l : Launch} {e : Env} {R : Room} {s : State} {m : MethodId} {args : Array Value} {below : List Frame} {meth : Method} {c : Code} {Q : State → Prop}
variable {D : va_G} {cA : Nat → ClassId} {b : Nat} {A : Nat → Prop} {own : String} {cc : ByteArray} {nL c0 rt : Nat} {z0 : qZ} {ini : Bool} {hh : List (Nat × Nat × Nat × Nat)}
variable {ad : qA} {objs : List (Nat × Int)} {H : Heap} {locs : List Loc} {sl : Array Slot} {cells slots pc : Nat} {ls st : List qV} {σ : qS} {o : qO}
theorem qVl_rf (x : Option (Nat × Int)) : qVl ad b (.inr (.inl x)) = va_rf (x.map (fun q => ad q.1 q.2)) := by
  cases x with
  | none => rfl
  | some q => rfl
theorem q_same {x y : Option (Nat × Int)} (hO : qOK qT0 σ objs) (hD : va_D A (qWs qT0 cA ad σ objs)) (hx : qVo σ (.inr (.inl x))) (hy : qVo σ (.inr (.inl y))) : x.map (fun q => ad q.1 q.2) = y.map (fun q => ad q.1 q.2) ↔ x = y := by
  constructor
  · intro h
    cases x with
    | none =>
      cases y with
      | none => rfl
      | some y => cases h
    | some x =>
      cases y with
      | none => cases h
      | some y =>
        obtain ⟨k, n⟩ := x
        obtain ⟨k2, n2⟩ := y
        simp only [Option.map_some, Option.some.injEq] at h
        obtain ⟨rfl, rfl⟩ := q_inj hD ((hO.1 k n).mpr hx) ((hO.1 k2 n2).mpr hy) h
        rfl
  · rintro rfl; rfl
theorem qr_acmp {a : Nat} {off : Int} {x y : Option (Nat × Int)} {cd : Jvm.ClassFile.ACond} {r : List qV} (ht : (pc : Int) + off = (a : Int)) (X : qCx d p l R s m args meth c D cA A own cc nL ini hh) (S : qSI D cA b A s nL c0 z0 ad objs H locs sl cells slots ls (.inr (.inl y) :: .inr (.inl x) :: r) σ) (hdg : decode cc pc = .ok (.if_acmp cd off, 3))
    (h : (match cd with | .eq => qBr (x = y) a (pc + 3) ls r σ | .ne => qBr (x = y) (pc + 3) a ls r σ) = some o) (hK : qKn p l e R s m args below meth c Q D cA b A own cc nL c0 z0 rt o) :
    W p l e R s m args below meth c H locs cells slots Q (F0 m pc sl (((.inr (.inl y) : qV) :: .inr (.inl x) :: r).map (qVl ad b))) := by
  obtain ⟨h1, h2⟩ := q_top S.2.2.2.2.2.2.1
  obtain ⟨h3, h4⟩ := q_top h2
  have e1 := q_same (x := x) (y := y) S.1 S.2.2.1 h3 h1
  have T : o = .inl (a, ls, r, σ) → W p l e R s m args below meth c H locs cells slots Q (F0 m a sl (r.map (qVl ad b))) := fun q => by
    subst q; exact hK ad objs H locs sl cells slots (S.stk h4)
  have F : o = .inl (pc + 3, ls, r, σ) → W p l e R s m args below meth c H locs cells slots Q (F0 m (pc + 3) sl (r.map (qVl ad b))) := fun q => by
    subst q; exact hK ad objs H locs sl cells slots (S.stk h4)
  simp only [List.map_cons, qVl_rf]
  cases cd with
  | eq => exact lv_acmp_eq X.1 X.2.1 hdg ht (fun q => T (qBr_t h (e1.mp q))) (fun q => F (qBr_f h (fun z => q (e1.mpr z))))
  | ne => exact lv_acmp_ne X.1 X.2.1 hdg ht (fun q => T (qBr_f h (fun z => q (e1.mpr z)))) (fun q => F (qBr_t h (e1.mp q)))
theorem qr_ifnull {a : Nat} {off : Int} {x : Option (Nat × Int)} {r : List qV} (ht : (pc : Int) + off = (a : Int)) (X : qCx d p l R s m args meth c D cA A own cc nL ini hh) (S : qSI D cA b A s nL c0 z0 ad objs H locs sl cells slots ls (.inr (.inl x) :: r) σ) (hdg : decode cc pc = .ok (.ifnull off, 3)) (h : qBr (x = none) a (pc + 3) ls r σ = some o) (hK : qKn p l e R s m args below meth c Q D cA b A own cc nL c0 z0 rt o) :
    W p l e R s m args below meth c H locs cells slots Q (F0 m pc sl (((.inr (.inl x) : qV) :: r).map (qVl ad b))) := by
  obtain ⟨h1, h2⟩ := q_top S.2.2.2.2.2.2.1
  cases x with
  | none =>
    cases qBr_t h rfl
    exact lv_ifnullN X.1 X.2.1 hdg ht (hK ad objs H locs sl cells slots (S.stk h2))
  | some q =>
    cases qBr_f h (fun z => by cases z)
    exact lv_ifnull X.1 X.2.1 hdg (hK ad objs H locs sl cells slots (S.stk h2))
theorem qr_ifnonnull {a : Nat} {off : Int} {x : Option (Nat × Int)} {r : List qV} (ht : (pc : Int) + off = (a : Int)) (X : qCx d p l R s m args meth c D cA A own cc nL ini hh) (S : qSI D cA b A s nL c0 z0 ad objs H locs sl cells slots ls (.inr (.inl x) :: r) σ) (hdg : decode cc pc = .ok (.ifnonnull off, 3)) (h : qBr (x = none) (pc + 3) a ls r σ = some o) (hK : qKn p l e R s m args below meth c Q D cA b A own cc nL c0 z0 rt o) :
    W p l e R s m args below meth c H locs cells slots Q (F0 m pc sl (((.inr (.inl x) : qV) :: r).map (qVl ad b))) := by
  obtain ⟨h1, h2⟩ := q_top S.2.2.2.2.2.2.1
  cases x with
  | none =>
    cases qBr_t h rfl
    exact lv_ifnonnullN X.1 X.2.1 hdg (hK ad objs H locs sl cells slots (S.stk h2))
  | some q =>
    cases qBr_f h (fun z => by cases z)
    exact lv_ifnonnull X.1 X.2.1 hdg ht (hK ad objs H locs sl cells slots (S.stk h2))
theorem qr_switch {n : Nat} {df lo hi x : Int} {offs : Array Int} {r : List qV} (h0 : 0 ≤ (pc : Int) + df) (hofs : ∀ o ∈ offs.toList, 0 ≤ (pc : Int) + o) (hsz : (offs.size : Int) = hi - lo + 1) (X : qCx d p l R s m args meth c D cA A own cc nL ini hh) (S : qSI D cA b A s nL c0 z0 ad objs H locs sl cells slots ls (.inl x :: r) σ) (hdg : decode cc pc = .ok (.tableswitch df lo hi offs, n)) (hK : qKn p l e R s m args below meth c Q D cA b A own cc nL c0 z0 rt (.inl (qSw pc df lo hi offs x, ls, r, σ))) :
    W p l e R s m args below meth c H locs cells slots Q (F0 m pc sl (((.inl x : qV) :: r).map (qVl ad b))) := by
  obtain ⟨h1, h2⟩ := q_top S.2.2.2.2.2.2.1
  have K := hK ad objs H locs sl cells slots (S.stk h2)
  have ex : (Int32.ofInt x).toInt = x := qi_int h1
  unfold qSw at K
  by_cases hr : x < lo ∨ hi < x
  · rw [if_pos hr] at K
    exact lv_tableOut X.1 X.2.1 hdg (by rw [ex]; exact hr) (by omega) K
  · rw [if_neg hr] at K
    have hj : (x - lo).toNat < offs.size := by omega
    have e1 : offs[(x - lo).toNat]? = some offs[(x - lo).toNat] := Array.getElem?_eq_getElem hj
    rw [e1] at K
    simp only [Option.getD_some] at K
    have h3 := hofs _ (Array.getElem_mem_toList hj)
    exact lv_tableIn X.1 X.2.1 hdg (by rw [ex]; omega) (by rw [ex]; omega) (by rw [ex]; exact e1) (by omega) K
/-! new things -/
theorem qVa_new {k w : Nat} {k2 : Nat} {n2 : Int} (h0 : 0 ≤ σ.1.1 k) : qVa (qNew σ k w) k2 n2 ↔ qVa σ k2 n2 ∨ (k2 = k ∧ n2 = σ.1.1 k) := by
  unfold qVa
  have e : (qNew σ k w).1.1 k2 = if k2 = k then σ.1.1 k + 1 else σ.1.1 k2 := rfl
  rw [e]
  by_cases h : k2 = k
  · subst h
    simp only [if_true, true_and]
    omega
  · simp [h]
theorem qOK_new {k w : Nat} (hO : qOK qT0 σ objs) (h0 : 0 ≤ σ.1.1 k) : qOK qT0 (qNew σ k w) (objs ++ [(k, σ.1.1 k)]) := by
  obtain ⟨h1, h2, h3, h4, h5⟩ := hO
  have up : ∀ {k2 : Nat} {n2 : Int}, qVa σ k2 n2 → qVa (qNew σ k w) k2 n2 := fun h => (qVa_new h0).mpr (Or.inl h)
  refine ⟨fun k2 n2 => ?_, fun k2 n2 s2 => ?_, fun k2 n2 s2 k' d' hv hk hf hi => ?_, fun k2 n2 s2 k' d' hv hk hf q hq => ?_, fun k2 n2 len k' p' q' j hv hk g0 g1 hi => ?_⟩
  · rw [List.mem_append, h1 k2 n2, qVa_new h0]
    simp
  · show qIk qT0 k2 (if k2 = k ∧ n2 = σ.1.1 k then 0 else σ.2 k2 n2 s2)
    split
    · exact ⟨fun _ => ⟨by decide, by decide⟩, ⟨by decide, by decide⟩⟩
    · exact h2 k2 n2 s2
  · have hi : (if k2 = k ∧ n2 = σ.1.1 k then false else σ.1.2.1 k2 n2 s2) = true := hi
    split at hi
    · cases hi
    · rename_i hne
      rcases (qVa_new h0).mp hv with hv | hv
      · exact up (h3 k2 n2 s2 k' d' hv hk hf hi)
      · exact absurd hv hne
  · have hq : qDec k' d'.toNat (if k2 = k ∧ n2 = σ.1.1 k then 0 else σ.2 k2 n2 s2) = some q := hq
    split at hq
    · cases hq
    · rename_i hne
      rcases (qVa_new h0).mp hv with hv | hv
      · exact up (h4 k2 n2 s2 k' d' hv hk hf q hq)
      · exact absurd hv hne
  · have hi : (if k2 = k ∧ n2 = σ.1.1 k then false else σ.1.2.1 k2 n2 j) = true := hi
    split at hi
    · cases hi
    · rename_i hne
      rcases (qVa_new h0).mp hv with hv | hv
      · exact up (h5 k2 n2 len k' p' q' j hv hk g0 g1 hi)
      · exact absurd hv hne
theorem qAg_add {k : Nat} {q : Nat} : qAg σ ad (qAdd ad k (σ.1.1 k) q) := by
  intro k2 n2 hv
  unfold qAdd
  rw [if_neg]
  rintro ⟨rfl, rfl⟩
  exact absurd hv.2 (by omega)
/-- other cells don't see the new one -/
theorem qEnt_new {k w : Nat} {k2 : Nat} {n2 : Int} (h : ¬ (k2 = k ∧ n2 = σ.1.1 k)) : qEnt qT0 cA ad (qNew σ k w) k2 n2 = qEnt qT0 cA ad σ k2 n2 := by
  have e1 : ∀ z, (qNew σ k w).2 k2 n2 z = σ.2 k2 n2 z := fun z => if_neg h
  have e2 : ∀ z, (qNew σ k w).1.2.1 k2 n2 z = σ.1.2.1 k2 n2 z := fun z => if_neg h
  unfold qEnt
  rcases qKd qT0 k2 with ⟨t, len, a, b, c⟩
  match t with
  | 0 =>
    simp only
    congr 2
    unfold qFs
    apply List.map_congr_left
    intro z _
    rcases (qT0.2.getD len.toNat []).getD z (9, 0, 0) with ⟨m, k', d⟩
    match m with
    | 0 => simp only [qFV, e1]
    | 1 => simp only [qFV, e1]
    | 2 => simp only [qFV, e2]
    | 3 => simp only [qFV, e1]
    | m + 4 => rfl
  | 1 => simp only [e1]
  | 2 => simp only [e1]
  | 3 => simp only [e1]
  | 4 =>
    have e3 : qRf ad (qNew σ k w) k2 n2 len a b c = qRf ad σ k2 n2 len a b c := by
      funext j
      unfold qRf
      rw [e2]
    simp only [e3]
  | t + 5 => rfl
theorem qWs_new {k w q : Nat} (hO : qOK qT0 σ objs) : qWs qT0 cA (qAdd ad k (σ.1.1 k) q) (qNew σ k w) (objs ++ [(k, σ.1.1 k)]) = qWs qT0 cA ad σ objs ++ [(q, qEnt qT0 cA (qAdd ad k (σ.1.1 k) q) (qNew σ k w) k (σ.1.1 k))] := by
  unfold qWs
  rw [List.map_append]
  congr 1
  · apply List.map_congr_left
    rintro ⟨k2, n2⟩ hq
    have hv : qVa σ k2 n2 := (hO.1 k2 n2).mp hq
    have hne : ¬ (k2 = k ∧ n2 = σ.1.1 k) := by
      rintro ⟨rfl, rfl⟩
      exact absurd hv.2 (by omega)
    show (qAdd ad k (σ.1.1 k) q k2 n2, qEnt qT0 cA (qAdd ad k (σ.1.1 k) q) (qNew σ k w) k2 n2) = (ad k2 n2, qEnt qT0 cA ad σ k2 n2)
    rw [qAg_add k2 n2 hv, qEnt_new hne, ← qEnt_ag hO qAg_add hv]
  · simp [qAdd]
/-- the state behind one new cell -/
theorem qSI.new {k w q : Nat} {H1 : Heap} {E : va_E} {r : List qV} (S : qSI D cA b A s nL c0 z0 ad objs H locs sl cells slots ls st σ) (h0 : 0 ≤ σ.1.1 k) (hP : va_P D qCls (qWs qT0 cA ad σ objs ++ [(q, E)]) H1) (hD : va_D A (qWs qT0 cA ad σ objs ++ [(q, E)])) (hS : va_S A s.heap H1 locs) (hE : qEnt qT0 cA (qAdd ad k (σ.1.1 k) q) (qNew σ k w) k (σ.1.1 k) = E) (hr : ∀ v ∈ r, qVo σ v) :
    qSI D cA b A s nL c0 z0 (qAdd ad k (σ.1.1 k) q) (objs ++ [(k, σ.1.1 k)]) H1 locs sl (cells + 1) (slots + w) ls (.inr (.inl (some (k, σ.1.1 k))) :: r) (qNew σ k w) := by
  subst hE
  rw [← qWs_new S.1] at hP hD
  refine ⟨qOK_new S.1 h0, hP, hD, hS, S.2.2.2.2.1.ag qAg_add S.2.2.2.2.2.1, fun v hv => (S.2.2.2.2.2.1 v hv).le qNew_le, q_cons (v := .inr (.inl (some (k, σ.1.1 k)))) ((qVa_new h0).mpr (Or.inr ⟨rfl, rfl⟩)) (fun v hv => (hr v hv).le qNew_le), ?_, ?_, S.2.2.2.2.2.2.2.2.2.tr (qNew_le (σ := σ) (k := k) (w := w)).1 qAg_add⟩
  · show σ.1.2.2.1 + 1 = c0 + (cells + 1)
    have := S.2.2.2.2.2.2.2.1
    omega
  · show σ.1.2.2.2.1 + w = z0.1 + (slots + w)
    have := S.2.2.2.2.2.2.2.2.1
    omega
theorem q_map_add {k q : Nat} {r : List qV} (hr : ∀ v ∈ r, qVo σ v) : r.map (qVl ad b) = r.map (qVl (qAdd ad k (σ.1.1 k) q) b) := qVl_map_ag qAg_add hr
theorem qAdd_self {k q : Nat} {n : Int} : qAdd ad k n q k n = q := by simp [qAdd]
end QR
