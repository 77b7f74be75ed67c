/-! ===== new, newarray, anewarray, Object's constructor ===== -/
section QR
variable {d : Nat} {p : Program} {l : Launch} {e : Env} {R : Room} {s : State} {m : MethodId} {args : Array Value} {below : List Frame} {meth : Method} {c : Code} {Q : State → Prop}
variable {D : va_G} {cA : Nat → ClassId} {b : Nat} {A : Nat → Prop} {own : String} {cc : ByteArray} {nL c0 rt : Nat} {z0 : qZ} {ini : Bool} {hh : List (Nat × Nat × Nat × Nat)}
variable {ad : qA} {objs : List (Nat × Int)} {H : Heap} {locs : List Loc} {sl : Array Slot} {cells slots pc : Nat} {ls st : List qV} {σ : qS} {o : qO}
theorem qNew_M {k w : Nat} {z : Int} : (qNew σ k w).2 k (σ.1.1 k) z = 0 := if_pos ⟨rfl, rfl⟩
theorem qNew_I {k w : Nat} {z : Int} : (qNew σ k w).1.2.1 k (σ.1.1 k) z = false := if_pos ⟨rfl, rfl⟩
theorem q_dflt {ad' : qA} {k a w : Nat} (ha : a < 11) : ∀ j, j < (qCn a).2.2 → defaultValue ((parseFieldDescriptor ((qCn a).2.1 j).2.2.1).getD .int) = vp_V (qFs ad' (qNew σ k w) k (σ.1.1 k) (qT0.2.getD a [])) j := by
  intro j hj
  have hlen := (qT_at ha hj).2
  have h1 : vp_V (qFs ad' (qNew σ k w) k (σ.1.1 k) (qT0.2.getD a [])) j = qFV ad' (qNew σ k w) k (σ.1.1 k) (qFd qT0 a j) j := by
    unfold vp_V
    rw [List.getD_eq_getElem?_getD, qFs_at (by rw [hlen]; exact hj)]
    rfl
  rw [h1]
  rcases hq : qFd qT0 a j with ⟨t, y, z⟩
  rcases q_put_mode ha hj with ⟨h0, h, -⟩ | ⟨h0, h, -⟩ | ⟨h0, -, -, ty, h, hr⟩ | ⟨h0, -, ty, h, hr⟩ <;> rw [hq] at h0 <;> simp only at h0 <;> subst h0 <;> rw [h]
  · simp only [qFV, qNew_M]; rfl
  · simp only [qFV, qNew_M]; rfl
  · simp only [qFV, qNew_I]
    rcases hr with ⟨n, rfl⟩ | ⟨n, rfl⟩ <;> rfl
  · simp only [qFV, qNew_M]
    rcases hr with ⟨n, rfl⟩ | ⟨n, rfl⟩ <;> rfl
theorem qFs_new {ad' : qA} {k w : Nat} {fs : List qFT} : qFs ad' (qNew σ k w) k (σ.1.1 k) fs = qFs ad (qNew σ k w) k (σ.1.1 k) fs := by
  unfold qFs
  apply List.map_congr_left
  intro z _
  rcases fs.getD z (9, 0, 0) with ⟨t, y, x⟩
  match t with
  | 0 => rfl
  | 1 => rfl
  | 2 => simp only [qFV, qNew_I]; rfl
  | 3 => simp only [qFV, qNew_M]; rfl
  | t + 4 => rfl
theorem qr_new {k x : Nat} (hk : k < 11) (hkd : qKd qT0 k = (0, (k : Int), 0, 0, 0)) (hw : Cond.classLink own x (qCn k).1 ∈ qW) (X : qCx d p l R s m args meth c D cA A own cc nL ini hh) (S : qSI D cA b A s nL c0 z0 ad objs H locs sl cells slots ls st σ) (hdg : decode cc pc = .ok (.new x, 3)) (h0 : 0 ≤ σ.1.1 k) (hR : cells + 1 ≤ R.cells ∧ slots + qLen qT0 k ≤ R.slots) (hK : qKn p l e R s m args below meth c Q D cA b A own cc nL c0 z0 rt (.inl (pc + 3, ls, .inr (.inl (some (k, σ.1.1 k))) :: st, qNew σ k (qLen qT0 k)))) :
    W p l e R s m args below meth c H locs cells slots Q (F0 m pc sl (st.map (qVl ad b))) := by
  obtain ⟨hx, hb, hml, hown, hts, -, -, -, -, hks, -, hA, -⟩ := id X
  have hcp := qCp_ok k hk
  simp only [Bool.and_eq_true] at hcp
  have hN : qLen qT0 k = (qCn k).2.2 := by
    have h1 := qTs_ok k hk
    unfold qOkTs at h1
    simp only [Bool.and_eq_true, Nat.beq_eq] at h1
    exact h1.1.symm
  rw [hN] at hR hK
  have hpt : ∀ j, j < (qCn k).2.2 → parseFieldDescriptor ((qCn k).2.1 j).2.2.1 = some ((parseFieldDescriptor ((qCn k).2.1 j).2.2.1).getD .int) := by
    intro j hj
    rcases q_put_mode hk hj with ⟨-, h, -⟩ | ⟨-, h, -⟩ | ⟨-, -, -, ty, h, -⟩ | ⟨-, -, ty, h, -⟩ <;> rw [h] <;> rfl
  refine va_new (fs := qFs ad (qNew σ k (qCn k).2.2) k (σ.1.1 k) (qT0.2.getD k [])) hx hb hts (qU_in hk) _ hpt hown (hts _ hw) (hts _ (qLwB_in hcp.2 rfl)) (hts _ (qLwB_in hcp.1 rfl)) hks.1 S.2.1 S.2.2.1 S.2.2.2.1 hA (qCls_at hk) (q_dflt hk) hR.1 hR.2 hdg fun q H1 hP hD hS => ?_
  have hE : qEnt qT0 cA (qAdd ad k (σ.1.1 k) q) (qNew σ k (qCn k).2.2) k (σ.1.1 k) = .inr (k, qFs ad (qNew σ k (qCn k).2.2) k (σ.1.1 k) (qT0.2.getD k [])) := by
    rw [qEnt_0 (a := k) (by rw [hkd]) (by rw [hkd]), qFs_new]
  have K := hK _ _ H1 locs sl (cells + 1) (slots + (qCn k).2.2) (S.new h0 hP hD hS hE S.2.2.2.2.2.2.1)
  rw [q_map_add (ad := ad) (q := q) S.2.2.2.2.2.2.1]
  have e : qVl (qAdd ad k (σ.1.1 k) q) b (.inr (.inl (some (k, σ.1.1 k)))) = .ref q := by show Value.ref (qAdd ad k (σ.1.1 k) q k (σ.1.1 k)) = _; rw [qAdd_self]
  rw [List.map_cons, e] at K
  exact K
/-- the class of int[] and the like is the one that the state knows -/
theorem q_arrcls {ty : FieldType} {t : Nat} {cy : ClassId} (hks : qKs D cA s) (ht : (qTy cA)[t]? = some (cA t, ty)) (h : va_K D qCls (qTy cA ++ [(cy, ty)]) s) : cy = cA t := by
  have h1 := (h.2 8 (cy, ty) rfl).2
  have h2 := (hks.1.2 t _ ht).2
  cases ty with
  | object C =>
    obtain ⟨kA, comp, -, -, -, g4⟩ := h1
    obtain ⟨kA2, comp2, -, -, -, g5⟩ := h2
    exact Option.some.inj (g4.symm.trans g5)
  | _ => exact Option.some.inj (Eq.trans (Eq.symm h1) h2)
theorem q_tyN {t : Nat} (h : t = 1 ∨ t = 2 ∨ t = 3) : t - 1 < 3 ∧ t - 1 + 1 = t := by omega
theorem qr_newarray {k : Nat} {x : Int} {ty : ArrayType} {r : List qV} (hty : ty = qTyN (qKd qT0 k).1) (hx1 : 0 ≤ (qKd qT0 k).2.1) (hx2 : (qKd qT0 k).2.1 ≤ 30000) (hxx : x = (qKd qT0 k).2.1) (ht : (qKd qT0 k).1 = 1 ∨ (qKd qT0 k).1 = 2 ∨ (qKd qT0 k).1 = 3) (X : qCx d p l R s m args meth c D cA A own cc nL ini hh) (S : qSI D cA b A s nL c0 z0 ad objs H locs sl cells slots ls (.inl x :: r) σ) (hdg : decode cc pc = .ok (.newarray ty, 2)) (h0 : 0 ≤ σ.1.1 k) (hR : cells + 1 ≤ R.cells ∧ slots + x.toNat ≤ R.slots) (hK : qKn p l e R s m args below meth c Q D cA b A own cc nL c0 z0 rt (.inl (pc + 2, ls, .inr (.inl (some (k, σ.1.1 k))) :: r, qNew σ k x.toNat))) :
    W p l e R s m args below meth c H locs cells slots Q (F0 m pc sl (((.inl x : qV) :: r).map (qVl ad b))) := by
  obtain ⟨h1, h2⟩ := q_top S.2.2.2.2.2.2.1
  obtain ⟨hx, hb, hml, hown, hts, -, -, -, -, hks, -, hA, -⟩ := id X
  have hin : qIn x := h1
  have x0 : 0 ≤ x := by rw [hxx]; exact hx1
  have x1 : x ≤ 30000 := by rw [hxx]; exact hx2
  have n0 : ¬ Int32.ofInt x < 0 := by
    rw [Int32.lt_iff_toInt_lt, qi_int hin]
    show ¬ x < 0
    omega
  have n1 : (Int32.ofInt x).toNatClampNeg = x.toNat := qi_nat hin x0
  -- what is left behind the making
  have fin : ∀ (t : Nat) (fty : FieldType) (a0 : vp_A), (qTy cA)[t]? = some (cA t, fty) → (∀ q, qEnt qT0 cA (qAdd ad k (σ.1.1 k) q) (qNew σ k x.toNat) k (σ.1.1 k) = .inl (cA t, a0)) → ∀ (q : Nat) (cy : ClassId) (H1 : Heap), va_K D qCls (qTy cA ++ [(cy, fty)]) s → va_P D qCls (qWs qT0 cA ad σ objs ++ [(q, .inl (cy, a0))]) H1 → va_D A (qWs qT0 cA ad σ objs ++ [(q, .inl (cy, a0))]) → va_S A s.heap H1 locs →
      W p l e R s m args below meth c H1 locs (cells + 1) (slots + x.toNat) Q (F0 m (pc + 2) sl (.ref q :: r.map (qVl ad b))) := by
    intro t fty a0 h3 hE q cy H1 hK9 hP hD hS
    cases q_arrcls hks h3 hK9
    have K := hK _ _ H1 locs sl (cells + 1) (slots + x.toNat) (S.new h0 hP hD hS (hE q) h2)
    rw [q_map_add (ad := ad) (q := q) h2]
    have e : qVl (qAdd ad k (σ.1.1 k) q) b (.inr (.inl (some (k, σ.1.1 k)))) = .ref q := by show Value.ref (qAdd ad k (σ.1.1 k) q k (σ.1.1 k)) = _; rw [qAdd_self]
    rw [List.map_cons, e] at K
    exact K
  have harr : (Cond.arrayClass (newarray.typeOf ty)).before args s = true := by
    have h3 := hks.2.2.2.2.2 ((qKd qT0 k).1 - 1) (q_tyN ht).1
    rw [(q_tyN ht).2, ← hty] at h3
    exact word_at (State.WarmedH.refl s) (Or.inr ⟨_, rfl⟩) h3
  rcases hk : qKd qT0 k with ⟨t, len, y⟩
  rw [hk] at hty hxx ht
  simp only at hty hxx ht
  subst hxx
  rcases ht with rfl | rfl | rfl
  · refine va_newa (ty := .int) (a0 := (x.toNat, .inl (fun _ => 0))) hx hb harr (by rw [hty]; rfl) hks.1 S.2.1 S.2.2.1 S.2.2.2.1 hA (fun _ => rfl) n0 n1 (by show x.toNat * 4 ≤ _; omega) hR.1 hR.2 hdg (fin 0 .int _ rfl (fun q => ?_))
    rw [qEnt_1 hk]
    simp only [qNew_M]; rfl
  · refine va_newa (ty := .boolean) (a0 := (x.toNat, .inl (fun _ => 0))) hx hb harr (by rw [hty]; rfl) hks.1 S.2.1 S.2.2.1 S.2.2.2.1 hA (fun _ => rfl) n0 n1 (by show x.toNat * 1 ≤ _; omega) hR.1 hR.2 hdg (fin 1 .boolean _ rfl (fun q => ?_))
    rw [qEnt_2 hk]
    simp only [qNew_M]; rfl
  · refine va_newa (ty := .long) (a0 := (x.toNat, .inr (.inl (fun _ => 0)))) hx hb harr (by rw [hty]; rfl) hks.1 S.2.1 S.2.2.1 S.2.2.2.1 hA (fun _ => rfl) n0 n1 (by show x.toNat * 8 ≤ _; omega) hR.1 hR.2 hdg (fin 2 .long _ rfl (fun q => ?_))
    rw [qEnt_3 hk]
    simp only [qNew_M]; rfl
theorem qr_anewarray {k k2 xi : Nat} {x pp qq : Int} {r : List qV} (hk : qKd qT0 k = (4, x, k2, pp, qq)) (hx1 : 0 ≤ x) (hx2 : x ≤ 30000) (h6 : qTi k2 ≤ 6) (hw : Cond.classLink own xi (qEl k2) ∈ qW) (X : qCx d p l R s m args meth c D cA A own cc nL ini hh) (S : qSI D cA b A s nL c0 z0 ad objs H locs sl cells slots ls (.inl x :: r) σ) (hdg : decode cc pc = .ok (.anewarray xi, 3)) (h0 : 0 ≤ σ.1.1 k) (hR : cells + 1 ≤ R.cells ∧ slots + x.toNat ≤ R.slots) (hK : qKn p l e R s m args below meth c Q D cA b A own cc nL c0 z0 rt (.inl (pc + 3, ls, .inr (.inl (some (k, σ.1.1 k))) :: r, qNew σ k x.toNat))) :
    W p l e R s m args below meth c H locs cells slots Q (F0 m pc sl (((.inl x : qV) :: r).map (qVl ad b))) := by
  obtain ⟨h1, h2⟩ := q_top S.2.2.2.2.2.2.1
  obtain ⟨hx, hb, hml, hown, hts, -, -, -, -, hks, -, hA, -⟩ := id X
  have hin : qIn x := h1
  have n0 : ¬ Int32.ofInt x < 0 := by
    rw [Int32.lt_iff_toInt_lt, qi_int hin]
    show ¬ x < 0
    omega
  have n1 : (Int32.ofInt x).toNatClampNeg = x.toNat := qi_nat hin hx1
  have hel : k2 = 1 ∨ k2 = 5 ∨ k2 = 8 ∨ k2 = 9 := by
    unfold qTi at h6
    split at h6
    · exact Or.inl (by assumption)
    · split at h6
      · exact Or.inr (Or.inl (by assumption))
      · split at h6
        · exact Or.inr (Or.inr (Or.inl (by assumption)))
        · split at h6
          · exact Or.inr (Or.inr (Or.inr (by assumption)))
          · omega
  refine va_newq hx hb hown (hts _ hw) (hks.2.2.2.1 k2 hel) hks.1 S.2.1 S.2.2.1 S.2.2.2.1 hA n0 n1 (by omega) hR.1 hR.2 hdg fun q cy H1 hK9 hP hD hS => ?_
  cases q_arrcls hks (qTy_obj h6) hK9
  have hE : qEnt qT0 cA (qAdd ad k (σ.1.1 k) q) (qNew σ k x.toNat) k (σ.1.1 k) = .inl (cA (qTi k2), x.toNat, .inr (.inr (.inr (.inr (fun _ => none))))) := by
    rw [qEnt_4 hk]
    have e : qRf (qAdd ad k (σ.1.1 k) q) (qNew σ k x.toNat) k (σ.1.1 k) x k2 pp qq = fun _ => none := by
      funext j
      unfold qRf
      rw [qNew_I, if_neg (by simp)]
    rw [e]
  have K := hK _ _ H1 locs sl (cells + 1) (slots + x.toNat) (S.new h0 hP hD hS hE h2)
  have e : qVl (qAdd ad k (σ.1.1 k) q) b (.inr (.inl (some (k, σ.1.1 k)))) = .ref q := by show Value.ref (qAdd ad k (σ.1.1 k) q k (σ.1.1 k)) = _; rw [qAdd_self]
  rw [List.map_cons, e, ← q_map_add (ad := ad) (q := q) h2] at K
  exact K
theorem q_catsum {st : List qV} : (st.map fun v => (qVl ad b v).category).sum ≤ qCat st := by
  induction st with
  | nil => exact Nat.le_refl _
  | cons v r ih =>
    rw [List.map_cons, List.sum_cons]
    match v with
    | .inl _ => show 1 + _ ≤ qCat r + 1; omega
    | .inr (.inl none) => show 1 + _ ≤ qCat r + 1; omega
    | .inr (.inl (some _)) => show 1 + _ ≤ qCat r + 1; omega
    | .inr (.inr (.inl _)) => show 2 + _ ≤ qCat r + 2; omega
    | .inr (.inr (.inr true)) => show 1 + _ ≤ qCat r + 1; omega
    | .inr (.inr (.inr false)) => show 1 + _ ≤ qCat r + 1; omega
theorem qr_obj {k x : Nat} {n : Int} {r : List qV} (hc : qCat r ≤ 8) (hw : Cond.methodLink own x Lib.objectInit ∈ qW) (X : qCx d p l R s m args meth c D cA A own cc nL ini hh) (S : qSI D cA b A s nL c0 z0 ad objs H locs sl cells slots ls (.inr (.inl (some (k, n))) :: r) σ) (hdg : decode cc pc = .ok (.invokespecial x, 3)) (hK : qKn p l e R s m args below meth c Q D cA b A own cc nL c0 z0 rt (.inl (pc + 3, ls, r, σ))) :
    W p l e R s m args below meth c H locs cells slots Q (F0 m pc sl (((.inr (.inl (some (k, n))) : qV) :: r).map (qVl ad b))) := by
  obtain ⟨h1, h2⟩ := q_top S.2.2.2.2.2.2.1
  obtain ⟨hx, hb, hml, hown, hts, -, -, -, -, hks, -, hA, hf, hl⟩ := id X
  have ho := qOi_ok
  simp only [Bool.and_eq_true] at ho
  have hsum := q_catsum (ad := ad) (b := b) (st := r)
  refine W.objInit hx hb hown (hts _ hw) (hts _ (qLwB_in ho.1 rfl)) (hts _ (qLwB_in ho.2 rfl)) rfl (by rw [hml]; exact S.2.2.2.2.1.1) (a := ad k n) (rest := r.map (qVl ad b)) rfl hdg (by omega) ?_ (hK ad objs H locs sl cells slots (S.stk h2))
  show 2 * 0 + _ + 12 ≤ _
  rw [List.map_map]
  have e : ((fun v : Value => v.category) ∘ qVl ad b) = fun v => (qVl ad b v).category := rfl
  rw [e]
  omega
end QR
