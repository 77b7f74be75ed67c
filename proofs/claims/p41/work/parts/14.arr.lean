/-! ===== arrays, comparisons of references, switches ===== -/
section QR
variable {d : Nat} {p : Program} {l : Launch} {e : Env} {R : Room} {s : State} {m : MethodId} {args : Array Value} {below : List Frame} {meth : Method} {c : Code} {Q : State → Prop}
variable {D : va_G} {cA : Nat → ClassId} {b : Nat} {A : Nat → Prop} {own : String} {cc : ByteArray} {nL c0 rt : Nat} {z0 : qZ} {ini : Bool} {hh : List (Nat × Nat × Nat × Nat)}
variable {ad : qA} {objs : List (Nat × Int)} {H : Heap} {locs : List Loc} {sl : Array Slot} {cells slots pc : Nat} {ls st : List qV} {σ : qS} {o : qO}
theorem qEnt_1 {k : Nat} {n len : Int} {x : Nat × Int × Int} (h : qKd qT0 k = (1, len, x)) : qEnt qT0 cA ad σ k n = .inl (cA 0, len.toNat, .inl (fun j => Int32.ofInt (σ.2 k n j))) := by
  obtain ⟨x1, x2, x3⟩ := x
  unfold qEnt; rw [h]; rfl
theorem qEnt_2 {k : Nat} {n len : Int} {x : Nat × Int × Int} (h : qKd qT0 k = (2, len, x)) : qEnt qT0 cA ad σ k n = .inl (cA 1, len.toNat, .inl (fun j => Int32.ofInt (σ.2 k n j))) := by
  obtain ⟨x1, x2, x3⟩ := x
  unfold qEnt; rw [h]; rfl
theorem qEnt_3 {k : Nat} {n len : Int} {x : Nat × Int × Int} (h : qKd qT0 k = (3, len, x)) : qEnt qT0 cA ad σ k n = .inl (cA 2, len.toNat, .inr (.inl (fun j => Int64.ofInt (σ.2 k n j)))) := by
  obtain ⟨x1, x2, x3⟩ := x
  unfold qEnt; rw [h]; rfl
theorem qEnt_4 {k k2 : Nat} {n len p q : Int} (h : qKd qT0 k = (4, len, k2, p, q)) : qEnt qT0 cA ad σ k n = .inl (cA (qTi k2), len.toNat, .inr (.inr (.inr (.inr (qRf ad σ k n len k2 p q))))) := by
  unfold qEnt; rw [h]; rfl
theorem qr_iald {k : Nat} {n i len : Int} {x : Nat × Int × Int} {r : List qV} (hk : qKd qT0 k = (1, len, x)) (X : qCx d p l R s m args meth c D cA A own cc nL ini hh) (S : qSI D cA b A s nL c0 z0 ad objs H locs sl cells slots ls (.inl i :: .inr (.inl (some (k, n))) :: r) σ) (hdg : decode cc pc = .ok (.iaload, 1)) (h : qChk (0 ≤ i ∧ i < len) (qNx (pc + 1) ls (.inl (σ.2 k n i) :: r) σ) = some o) (hK : qKn p l e R s m args below meth c Q D cA b A own cc nL c0 z0 rt o) :
    W p l e R s m args below meth c H locs cells slots Q (F0 m pc sl (((.inl i : qV) :: .inr (.inl (some (k, n))) :: r).map (qVl ad b))) := by
  obtain ⟨⟨g1, g2⟩, h⟩ := qChk_s h
  cases qNx_s h
  obtain ⟨h1, h2⟩ := q_top S.2.2.2.2.2.2.1
  obtain ⟨h3, h4⟩ := q_top h2
  obtain ⟨q0, hq, he⟩ := q_obj (cA := cA) (ad := ad) S.1 (show qVa σ k n from h3)
  rw [qEnt_1 hk] at he
  have K := hK ad objs H locs sl cells slots (S.stk (q_cons (v := .inl (σ.2 k n i)) ((S.1.2.1 k n i).1 (by rw [hk]; show (1 : Nat) ≠ 3; decide)) h4))
  obtain ⟨hx, hb, hml, hown, hts, -, -, -, -, hks, -⟩ := id X
  refine va_iald hx hb hks.1 S.2.1 q0 0 he rfl (qi_vp h1 g1 g2) hdg ?_
  have e1 : ((Int32.ofInt i).toNatClampNeg : Int) = i := by rw [qi_nat h1 g1]; omega
  rw [e1]
  exact K
theorem qr_bald {k : Nat} {n i len : Int} {x : Nat × Int × Int} {r : List qV} (hk : qKd qT0 k = (2, len, x)) (X : qCx d p l R s m args meth c D cA A own cc nL ini hh) (S : qSI D cA b A s nL c0 z0 ad objs H locs sl cells slots ls (.inl i :: .inr (.inl (some (k, n))) :: r) σ) (hdg : decode cc pc = .ok (.baload, 1)) (h : qChk (0 ≤ i ∧ i < len) (qNx (pc + 1) ls (.inl (σ.2 k n i) :: r) σ) = some o) (hK : qKn p l e R s m args below meth c Q D cA b A own cc nL c0 z0 rt o) :
    W p l e R s m args below meth c H locs cells slots Q (F0 m pc sl (((.inl i : qV) :: .inr (.inl (some (k, n))) :: r).map (qVl ad b))) := by
  obtain ⟨⟨g1, g2⟩, h⟩ := qChk_s h
  cases qNx_s h
  obtain ⟨h1, h2⟩ := q_top S.2.2.2.2.2.2.1
  obtain ⟨h3, h4⟩ := q_top h2
  obtain ⟨q0, hq, he⟩ := q_obj (cA := cA) (ad := ad) S.1 (show qVa σ k n from h3)
  rw [qEnt_2 hk] at he
  have K := hK ad objs H locs sl cells slots (S.stk (q_cons (v := .inl (σ.2 k n i)) ((S.1.2.1 k n i).1 (by rw [hk]; show (2 : Nat) ≠ 3; decide)) h4))
  obtain ⟨hx, hb, hml, hown, hts, -, -, -, -, hks, -⟩ := id X
  refine va_zald hx hb hks.1 S.2.1 q0 1 he rfl (qi_vp h1 g1 g2) hdg ?_
  have e1 : ((Int32.ofInt i).toNatClampNeg : Int) = i := by rw [qi_nat h1 g1]; omega
  rw [e1]
  exact K
theorem qr_lald {k : Nat} {n i len : Int} {x : Nat × Int × Int} {r : List qV} (hk : qKd qT0 k = (3, len, x)) (X : qCx d p l R s m args meth c D cA A own cc nL ini hh) (S : qSI D cA b A s nL c0 z0 ad objs H locs sl cells slots ls (.inl i :: .inr (.inl (some (k, n))) :: r) σ) (hdg : decode cc pc = .ok (.laload, 1)) (h : qChk (0 ≤ i ∧ i < len) (qNx (pc + 1) ls (.inr (.inr (.inl (σ.2 k n i))) :: r) σ) = some o) (hK : qKn p l e R s m args below meth c Q D cA b A own cc nL c0 z0 rt o) :
    W p l e R s m args below meth c H locs cells slots Q (F0 m pc sl (((.inl i : qV) :: .inr (.inl (some (k, n))) :: r).map (qVl ad b))) := by
  obtain ⟨⟨g1, g2⟩, h⟩ := qChk_s h
  cases qNx_s h
  obtain ⟨h1, h2⟩ := q_top S.2.2.2.2.2.2.1
  obtain ⟨h3, h4⟩ := q_top h2
  obtain ⟨q0, hq, he⟩ := q_obj (cA := cA) (ad := ad) S.1 (show qVa σ k n from h3)
  rw [qEnt_3 hk] at he
  have K := hK ad objs H locs sl cells slots (S.stk (q_cons (v := .inr (.inr (.inl (σ.2 k n i)))) (S.1.2.1 k n i).2 h4))
  obtain ⟨hx, hb, hml, hown, hts, -, -, -, -, hks, -⟩ := id X
  refine va_lald hx hb hks.1 S.2.1 q0 2 he rfl (qi_vp h1 g1 g2) hdg ?_
  have e1 : ((Int32.ofInt i).toNatClampNeg : Int) = i := by rw [qi_nat h1 g1]; omega
  rw [e1]
  exact K
/-- the type of the arrays of references of a kind -/
theorem qTy_obj {k2 : Nat} (h : qTi k2 ≤ 6) : (qTy cA)[qTi k2]? = some (cA (qTi k2), .object (qEl k2)) := by
  unfold qTi at h ⊢
  unfold qEl
  by_cases h1 : k2 = 1
  · rw [if_pos h1, if_pos h1]; rfl
  · rw [if_neg h1] at h ⊢
    rw [if_neg h1]
    by_cases h5 : k2 = 5
    · rw [if_pos h5, if_pos h5]; rfl
    · rw [if_neg h5] at h ⊢
      rw [if_neg h5]
      by_cases h8 : k2 = 8
      · rw [if_pos h8, if_pos h8]; rfl
      · rw [if_neg h8] at h ⊢
        rw [if_neg h8]
        by_cases h9 : k2 = 9
        · rw [if_pos h9]; rfl
        · rw [if_neg h9] at h
          omega
theorem qTy_arr {k2 : Nat} (h : ¬ qTi k2 ≤ 6) : (qTy cA)[qTi k2]? = some (cA (qTi k2), .array .int) := by
  unfold qTi at h ⊢
  split at h
  · omega
  · split at h
    · omega
    · split at h
      · omega
      · split at h
        · omega
        · rename_i h1 h5 h8 h9
          rw [if_neg h1, if_neg h5, if_neg h8, if_neg h9]
          rfl
/-- an element of an array of references, of objects or of arrays -/
theorem qr_aald {k k2 : Nat} {n i len pp qq : Int} {r : List qV} (hk : qKd qT0 k = (4, len, k2, pp, qq)) (X : qCx d p l R s m args meth c D cA A own cc nL ini hh) (S : qSI D cA b A s nL c0 z0 ad objs H locs sl cells slots ls (.inl i :: .inr (.inl (some (k, n))) :: r) σ) (hdg : decode cc pc = .ok (.aaload, 1)) (h : qChk (0 ≤ i ∧ i < len ∧ σ.1.2.1 k n i = true) (qNx (pc + 1) ls (.inr (.inl (some (k2, pp + qq * n + i))) :: r) σ) = some o) (hK : qKn p l e R s m args below meth c Q D cA b A own cc nL c0 z0 rt o) :
    W p l e R s m args below meth c H locs cells slots Q (F0 m pc sl (((.inl i : qV) :: .inr (.inl (some (k, n))) :: r).map (qVl ad b))) := by
  obtain ⟨⟨g1, g2, g3⟩, h⟩ := qChk_s h
  cases qNx_s h
  obtain ⟨h1, h2⟩ := q_top S.2.2.2.2.2.2.1
  obtain ⟨h3, h4⟩ := q_top h2
  obtain ⟨q0, hq, he⟩ := q_obj (cA := cA) (ad := ad) S.1 (show qVa σ k n from h3)
  rw [qEnt_4 hk] at he
  have hvo : qVa σ k2 (pp + qq * n + i) := S.1.2.2.2.2 k n len k2 pp qq i h3 hk g1 g2 g3
  have K := hK ad objs H locs sl cells slots (S.stk (q_cons (v := .inr (.inl (some (k2, pp + qq * n + i)))) hvo h4))
  obtain ⟨hx, hb, hml, hown, hts, -, -, -, -, hks, -⟩ := id X
  have e1 : ((Int32.ofInt i).toNatClampNeg : Int) = i := by rw [qi_nat h1 g1]; omega
  have e2 : va_rf (qRf ad σ k n len k2 pp qq (Int32.ofInt i).toNatClampNeg) = qVl ad b (.inr (.inl (some (k2, pp + qq * n + i)))) := by
    unfold qRf
    rw [e1, if_pos ⟨g2, g3⟩]
    rfl
  by_cases ht : qTi k2 ≤ 6
  · refine va_aldq hx hb hks.1 S.2.1 q0 (qTi k2) he (qTy_obj ht) (qi_vp h1 g1 g2) hdg ?_
    rw [e2]
    exact K
  · have hlt : (Int32.ofInt i).toNatClampNeg < len.toNat := by rw [qi_nat h1 g1]; omega
    refine W.aald (v := va_rf (qRf ad σ k n len k2 pp qq (Int32.ofInt i).toNatClampNeg)) (ty := .array .int) hx hb (S.2.1 q0 _ he) ((hks.1.2 (qTi k2) _ (qTy_arr ht)).1 len.toNat (fun j => va_rf (qRf ad σ k n len k2 pp qq j))) rfl (fun q => by cases q) (by show ¬ (Int32.ofInt i < 0 ∨ (arrV _ _ _).slots.size ≤ _); rw [arrV_size]; exact qi_vp h1 g1 g2) (by show (arrV _ _ _).slots[_]? = _; rw [arrV_read _ _ hlt]) rfl rfl hdg ?_
    rw [e2]
    exact K
theorem qr_sald {i L : Int} {xs : Int → Int} {zs : Nat → Int32} {N : Nat} {r : List qV} (hX : va_X b N zs s s.heap) (hbl : b < s.heap.size) (hbA : ¬ A b) (hL : L = N) (hxs : ∀ j : Nat, j < N → xs j = (zs j).toInt) (X : qCx d p l R s m args meth c D cA A own cc nL ini hh) (S : qSI D cA b A s nL c0 z0 ad objs H locs sl cells slots ls (.inl i :: .inr (.inr (.inr true)) :: r) σ) (hdg : decode cc pc = .ok (.iaload, 1)) (h : qChk (0 ≤ i ∧ i < L) (qNx (pc + 1) ls (.inl (xs i) :: r) σ) = some o) (hK : qKn p l e R s m args below meth c Q D cA b A own cc nL c0 z0 rt o) :
    W p l e R s m args below meth c H locs cells slots Q (F0 m pc sl (((.inl i : qV) :: .inr (.inr (.inr true)) :: r).map (qVl ad b))) := by
  obtain ⟨⟨g1, g2⟩, h⟩ := qChk_s h
  cases qNx_s h
  obtain ⟨h1, h2⟩ := q_top S.2.2.2.2.2.2.1
  obtain ⟨h3, h4⟩ := q_top h2
  obtain ⟨j, rfl⟩ := Int.eq_ofNat_of_zero_le g1
  have hj : j < N := by omega
  have e1 : (Int32.ofInt (j : Int)).toNatClampNeg = j := by rw [qi_nat h1 g1]; omega
  have e2 : Int32.ofInt (xs j) = zs j := qi_eq (hxs j hj).symm
  have K := hK ad objs H locs sl cells slots (S.stk (q_cons (v := .inl (xs j)) (by show qIn _; rw [hxs j hj]; exact qi_in _) h4))
  refine va_sld X.1 X.2.1 hX hbl hbA S.2.2.2.1 (by have := qi_vp (len := (N : Int)) h1 g1 (by omega); rwa [Int.toNat_natCast] at this) hdg ?_
  rw [e1, ← e2]
  exact K
theorem qr_slen {L : Int} {zs : Nat → Int32} {N : Nat} {r : List qV} (hX : va_X b N zs s s.heap) (hbl : b < s.heap.size) (hbA : ¬ A b) (hL : L = N) (hLn : qIn L) (X : qCx d p l R s m args meth c D cA A own cc nL ini hh) (S : qSI D cA b A s nL c0 z0 ad objs H locs sl cells slots ls (.inr (.inr (.inr true)) :: r) σ) (hdg : decode cc pc = .ok (.arraylength, 1)) (hK : qKn p l e R s m args below meth c Q D cA b A own cc nL c0 z0 rt (.inl (pc + 1, ls, .inl L :: r, σ))) :
    W p l e R s m args below meth c H locs cells slots Q (F0 m pc sl (((.inr (.inr (.inr true)) : qV) :: r).map (qVl ad b))) := by
  obtain ⟨h1, h2⟩ := q_top S.2.2.2.2.2.2.1
  have K := hK ad objs H locs sl cells slots (S.stk (q_cons (v := .inl L) hLn h2))
  refine va_slen X.1 X.2.1 hX hbl hbA S.2.2.2.1 hdg ?_
  subst hL
  exact K
theorem qr_alen {k : Nat} {n len : Int} {x : Nat × Int × Int} {r : List qV} (hk : qKd qT0 k = (1, len, x)) (hlen : 0 ≤ len ∧ qIn len) (X : qCx d p l R s m args meth c D cA A own cc nL ini hh) (S : qSI D cA b A s nL c0 z0 ad objs H locs sl cells slots ls (.inr (.inl (some (k, n))) :: r) σ) (hdg : decode cc pc = .ok (.arraylength, 1)) (hK : qKn p l e R s m args below meth c Q D cA b A own cc nL c0 z0 rt (.inl (pc + 1, ls, .inl len :: r, σ))) :
    W p l e R s m args below meth c H locs cells slots Q (F0 m pc sl (((.inr (.inl (some (k, n))) : qV) :: r).map (qVl ad b))) := by
  obtain ⟨h3, h4⟩ := q_top S.2.2.2.2.2.2.1
  obtain ⟨q0, hq, he⟩ := q_obj (cA := cA) (ad := ad) S.1 (show qVa σ k n from h3)
  rw [qEnt_1 hk] at he
  have K := hK ad objs H locs sl cells slots (S.stk (q_cons (v := .inl len) hlen.2 h4))
  exact va_alen X.1 X.2.1 X.2.2.2.2.2.2.2.2.2.1.1 S.2.1 q0 0 he rfl (v := Int32.ofInt len) (by rw [qi_nI hlen.1]; rfl) hdg K
/-! writes -/
theorem qOK_arr {k : Nat} {n i x : Int} (hO : qOK qT0 σ objs) (h0 : (qKd qT0 k).1 ≠ 0) (hx : qIk qT0 k x) : qOK qT0 (qSetI σ k n i x) objs := qOK_setI hO hx (fun _ _ _ h _ _ _ _ => absurd h h0)
theorem q_updI {k : Nat} {n i x : Int} {j : Nat} (hj : (j : Int) = i) : upd (fun z : Nat => Int32.ofInt (σ.2 k n z)) j (Int32.ofInt x) = fun z : Nat => Int32.ofInt ((qSetI σ k n i x).2 k n z) := by
  funext z
  by_cases hz : z = j
  · subst hz
    simp [upd, qSetI, qU, hj]
  · have h9 : ¬ (z : Int) = i := by omega
    simp [upd, qSetI, qU, hz, h9]
theorem qr_iast {k : Nat} {n i x len : Int} {y : Nat × Int × Int} {r : List qV} (hk : qKd qT0 k = (1, len, y)) (X : qCx d p l R s m args meth c D cA A own cc nL ini hh) (S : qSI D cA b A s nL c0 z0 ad objs H locs sl cells slots ls (.inl x :: .inl i :: .inr (.inl (some (k, n))) :: r) σ) (hdg : decode cc pc = .ok (.iastore, 1)) (h : qChk (0 ≤ i ∧ i < len) (qNx (pc + 1) ls r (qSetI σ k n i x)) = some o) (hK : qKn p l e R s m args below meth c Q D cA b A own cc nL c0 z0 rt o) :
    W p l e R s m args below meth c H locs cells slots Q (F0 m pc sl (((.inl x : qV) :: .inl i :: .inr (.inl (some (k, n))) :: r).map (qVl ad b))) := by
  obtain ⟨⟨g1, g2⟩, h⟩ := qChk_s h
  cases qNx_s h
  obtain ⟨h0, h9⟩ := q_top S.2.2.2.2.2.2.1
  obtain ⟨h1, h2⟩ := q_top h9
  obtain ⟨h3, h4⟩ := q_top h2
  obtain ⟨q0, hq, he⟩ := q_obj (cA := cA) (ad := ad) S.1 (show qVa σ k n from h3)
  rw [qEnt_1 hk] at he
  obtain ⟨hx, hb, hml, hown, hts, -, -, -, -, hks, -⟩ := id X
  have e1 : ((Int32.ofInt i).toNatClampNeg : Int) = i := by rw [qi_nat h1 g1]; omega
  refine va_iast hx hb hks.1 S.2.1 S.2.2.1 S.2.2.2.1 q0 0 he rfl (qi_vp h1 g1 g2) hdg fun H1 locs1 hP hD hS => ?_
  have hE : qEnt qT0 cA ad (qSetI σ k n i x) k n = .inl (cA 0, len.toNat, .inl (upd (fun z : Nat => Int32.ofInt (σ.2 k n z)) (Int32.ofInt i).toNatClampNeg (Int32.ofInt x))) := by
    rw [qEnt_1 hk, q_updI e1]
  rw [qWs_set S.2.2.1 hq hE (fun k2 n2 _ hne => qEnt_setI hne)] at hP hD
  exact hK ad objs H1 locs1 sl cells slots (S.mem rfl rfl (qOK_arr S.1 (by rw [hk]; simp) ⟨fun _ => h0, qi_il h0⟩) hP hD hS h4)
theorem qr_bast {k : Nat} {n i x len : Int} {y : Nat × Int × Int} {r : List qV} (hk : qKd qT0 k = (2, len, y)) (X : qCx d p l R s m args meth c D cA A own cc nL ini hh) (S : qSI D cA b A s nL c0 z0 ad objs H locs sl cells slots ls (.inl x :: .inl i :: .inr (.inl (some (k, n))) :: r) σ) (hdg : decode cc pc = .ok (.bastore, 1)) (h : qChk (0 ≤ i ∧ i < len ∧ (x = 0 ∨ x = 1)) (qNx (pc + 1) ls r (qSetI σ k n i x)) = some o) (hK : qKn p l e R s m args below meth c Q D cA b A own cc nL c0 z0 rt o) :
    W p l e R s m args below meth c H locs cells slots Q (F0 m pc sl (((.inl x : qV) :: .inl i :: .inr (.inl (some (k, n))) :: r).map (qVl ad b))) := by
  obtain ⟨⟨g1, g2, g3⟩, h⟩ := qChk_s h
  cases qNx_s h
  obtain ⟨h0, h9⟩ := q_top S.2.2.2.2.2.2.1
  obtain ⟨h1, h2⟩ := q_top h9
  obtain ⟨h3, h4⟩ := q_top h2
  obtain ⟨q0, hq, he⟩ := q_obj (cA := cA) (ad := ad) S.1 (show qVa σ k n from h3)
  rw [qEnt_2 hk] at he
  obtain ⟨hx, hb, hml, hown, hts, -, -, -, -, hks, -⟩ := id X
  have e1 : ((Int32.ofInt i).toNatClampNeg : Int) = i := by rw [qi_nat h1 g1]; omega
  have e3 : vp_nar .boolean (Int32.ofInt x) = Int32.ofInt x := by rcases g3 with rfl | rfl <;> decide +kernel
  refine va_zast hx hb hks.1 S.2.1 S.2.2.1 S.2.2.2.1 q0 1 he rfl (qi_vp h1 g1 g2) hdg fun H1 locs1 hP hD hS => ?_
  rw [e3] at hP hD
  have hE : qEnt qT0 cA ad (qSetI σ k n i x) k n = .inl (cA 1, len.toNat, .inl (upd (fun z : Nat => Int32.ofInt (σ.2 k n z)) (Int32.ofInt i).toNatClampNeg (Int32.ofInt x))) := by
    rw [qEnt_2 hk, q_updI e1]
  rw [qWs_set S.2.2.1 hq hE (fun k2 n2 _ hne => qEnt_setI hne)] at hP hD
  exact hK ad objs H1 locs1 sl cells slots (S.mem rfl rfl (qOK_arr S.1 (by rw [hk]; simp) ⟨fun _ => h0, qi_il h0⟩) hP hD hS h4)
theorem qr_last {k : Nat} {n i x len : Int} {y : Nat × Int × Int} {r : List qV} (hk : qKd qT0 k = (3, len, y)) (X : qCx d p l R s m args meth c D cA A own cc nL ini hh) (S : qSI D cA b A s nL c0 z0 ad objs H locs sl cells slots ls (.inr (.inr (.inl x)) :: .inl i :: .inr (.inl (some (k, n))) :: r) σ) (hdg : decode cc pc = .ok (.lastore, 1)) (h : qChk (0 ≤ i ∧ i < len) (qNx (pc + 1) ls r (qSetI σ k n i x)) = some o) (hK : qKn p l e R s m args below meth c Q D cA b A own cc nL c0 z0 rt o) :
    W p l e R s m args below meth c H locs cells slots Q (F0 m pc sl (((.inr (.inr (.inl x)) : qV) :: .inl i :: .inr (.inl (some (k, n))) :: r).map (qVl ad b))) := by
  obtain ⟨⟨g1, g2⟩, h⟩ := qChk_s h
  cases qNx_s h
  obtain ⟨h0, h9⟩ := q_top S.2.2.2.2.2.2.1
  obtain ⟨h1, h2⟩ := q_top h9
  obtain ⟨h3, h4⟩ := q_top h2
  obtain ⟨q0, hq, he⟩ := q_obj (cA := cA) (ad := ad) S.1 (show qVa σ k n from h3)
  rw [qEnt_3 hk] at he
  obtain ⟨hx, hb, hml, hown, hts, -, -, -, -, hks, -⟩ := id X
  have e1 : ((Int32.ofInt i).toNatClampNeg : Int) = i := by rw [qi_nat h1 g1]; omega
  refine va_last hx hb hks.1 S.2.1 S.2.2.1 S.2.2.2.1 q0 2 he rfl (qi_vp h1 g1 g2) hdg fun H1 locs1 hP hD hS => ?_
  have e2 : vp_updL (fun z : Nat => Int64.ofInt (σ.2 k n z)) (Int32.ofInt i).toNatClampNeg (Int64.ofInt x) = fun z : Nat => Int64.ofInt ((qSetI σ k n i x).2 k n z) := by
    funext z
    by_cases hz : z = (Int32.ofInt i).toNatClampNeg
    · subst hz
      simp [vp_updL, qSetI, qU, e1]
    · have h9 : ¬ (z : Int) = i := by omega
      simp [vp_updL, qSetI, qU, hz, h9]
  have hE : qEnt qT0 cA ad (qSetI σ k n i x) k n = .inl (cA 2, len.toNat, .inr (.inl (vp_updL (fun z : Nat => Int64.ofInt (σ.2 k n z)) (Int32.ofInt i).toNatClampNeg (Int64.ofInt x)))) := by
    rw [qEnt_3 hk, e2]
  rw [qWs_set S.2.2.1 hq hE (fun k2 n2 _ hne => qEnt_setI hne)] at hP hD
  exact hK ad objs H1 locs1 sl cells slots (S.mem rfl rfl (qOK_arr S.1 (by rw [hk]; simp) ⟨fun q => absurd (by rw [hk]) q, h0⟩) hP hD hS h4)
/-- a reference into an array: of objects alone -/
theorem qr_aast {k k2 : Nat} {n i len pp qq : Int} {r : List qV} (hk : qKd qT0 k = (4, len, k2, pp, qq)) (h6 : qTi k2 ≤ 6) (h12 : k2 < 11) (hk2 : qKd qT0 k2 = (0, (k2 : Int), 0, 0, 0)) (hel : qEl k2 = (qCn k2).1) (X : qCx d p l R s m args meth c D cA A own cc nL ini hh) (S : qSI D cA b A s nL c0 z0 ad objs H locs sl cells slots ls (.inr (.inl (some (k2, pp + qq * n + i))) :: .inl i :: .inr (.inl (some (k, n))) :: r) σ) (hdg : decode cc pc = .ok (.aastore, 1)) (g1 : 0 ≤ i) (g2 : i < len) (hK : qKn p l e R s m args below meth c Q D cA b A own cc nL c0 z0 rt (.inl (pc + 1, ls, r, qSetR σ k n i))) :
    W p l e R s m args below meth c H locs cells slots Q (F0 m pc sl (((.inr (.inl (some (k2, pp + qq * n + i))) : qV) :: .inl i :: .inr (.inl (some (k, n))) :: r).map (qVl ad b))) := by
  obtain ⟨h0, h9⟩ := q_top S.2.2.2.2.2.2.1
  obtain ⟨h1, h2⟩ := q_top h9
  obtain ⟨h3, h4⟩ := q_top h2
  obtain ⟨q0, hq, he⟩ := q_obj (cA := cA) (ad := ad) S.1 (show qVa σ k n from h3)
  rw [qEnt_4 hk] at he
  obtain ⟨q1, hq1, he1⟩ := q_obj (cA := cA) (ad := ad) S.1 (show qVa σ k2 (pp + qq * n + i) from h0)
  rw [qEnt_0 (a := k2) (by rw [hk2]) (by rw [hk2])] at he1
  obtain ⟨hx, hb, hml, hown, hts, -, -, -, -, hks, -⟩ := id X
  have e1 : ((Int32.ofInt i).toNatClampNeg : Int) = i := by rw [qi_nat h1 g1]; omega
  refine va_astq hx hb hks.1 S.2.1 S.2.2.1 S.2.2.2.1 q0 (qTi k2) q1 k2 he (by rw [qTy_obj h6, hel]) he1 (qCls_at h12) (qi_vp h1 g1 g2) hdg fun H1 locs1 hP hD hS => ?_
  have e2 : va_up (qRf ad σ k n len k2 pp qq) (Int32.ofInt i).toNatClampNeg (some (ad k2 (pp + qq * n + i))) = qRf ad (qSetR σ k n i) k n len k2 pp qq := by
    funext z
    by_cases hz : z = (Int32.ofInt i).toNatClampNeg
    · subst hz
      rw [va_up_self]
      unfold qRf
      rw [e1, if_pos ⟨g2, by simp [qSetR, qUB]⟩]
    · rw [show va_up (qRf ad σ k n len k2 pp qq) (Int32.ofInt i).toNatClampNeg (some (ad k2 (pp + qq * n + i))) z = qRf ad σ k n len k2 pp qq z from if_neg hz]
      unfold qRf
      have e3 : (qSetR σ k n i).1.2.1 k n z = σ.1.2.1 k n z := by
        have h9 : ¬ (z : Int) = i := by omega
        simp [qSetR, qUB, h9]
      rw [e3]
  have hE : qEnt qT0 cA ad (qSetR σ k n i) k n = .inl (cA (qTi k2), len.toNat, .inr (.inr (.inr (.inr (va_up (qRf ad σ k n len k2 pp qq) (Int32.ofInt i).toNatClampNeg (some (ad k2 (pp + qq * n + i)))))))) := by
    rw [qEnt_4 hk, e2]
  rw [qWs_set S.2.2.1 hq hE (fun k2 n2 _ hne => qEnt_setR hne)] at hP hD
  refine hK ad objs H1 locs1 sl cells slots (S.mem rfl rfl (qOK_setR S.1 (fun _ _ _ h _ _ => ?_) (fun len' k' p' q' hk' => ?_)) hP hD hS h4)
  · rw [hk] at h; cases h
  · rw [hk] at hk'
    cases hk'
    exact h0
end QR
