/-! ===== a method of the program ===== -/
section QF
variable {l : Launch} {y : MethodName} {ws ws' : List Cond} {rm : Room} {Pc : Array Value → State → Prop} {Qc : Array Value → State → Outcome → State → Prop} {XC : String → State → State → Prop} {mc ms : Nat} {free : Addr → Prop} {cc : ByteArray} {maxL : Nat} {ret : Option FieldType} {hh : List (Nat × Nat × Nat × Nat)}
/-- a body without handlers, also of a class of the JDK whose method has no row of its own -/
theorem q_ofW (hy : plainFor y = true) (hw : ws = Cond.code y cc maxL ret :: ws')
    (body : ∀ p e s m args below meth c s₁, BodyLoose p l y (headSpec ws rm) cc maxL ret e s m args below meth c s₁ → c.maxLocals = maxL → (∀ x ∈ c.exceptionTable.toList, False) → Pc args s →
      W p l e (headSpec ws rm).room s m args below meth c s.heap [] 0 0 (vx_MQ below Qc XC args s mc ms free) (entryFrame m args maxL)) : vx_Met l y ws rm Pc Qc XC mc ms free := by
  refine MetFree.of_bodySF (code := cc) (maxLocals := maxL) (ret := ret) hy ?_ ?_
  · intro args s m h hn
    obtain ⟨meth, c, h1, h2, h3, h4, h5, h6, -, -⟩ := Cond.code_spec hn (atoms_spec (ws := ws) h _ (by rw [hw]; exact List.mem_cons_self))
    exact ⟨meth, c, h1, h2, h3, h4, h5, h6⟩
  · intro p e s m args below meth c s₁ B hml hP _
    have hh0 : s₁.heap = s.heap := by rw [B.state]; rfl
    have ht : ∀ x ∈ c.exceptionTable.toList, False := by
      obtain ⟨meth9, c9, h1, h2, -, -, -, -, h7, -⟩ := Cond.code_spec B.named (atoms_spec (ws := ws) B.pre _ (by rw [hw]; exact List.mem_cons_self))
      cases Option.some.inj (h1.symm.trans B.method)
      cases Option.some.inj (h2.symm.trans (Stand.of_body B).code)
      intro x hx
      rw [Array.isEmpty_iff.mp h7] at hx
      cases hx
    obtain ⟨t, a1, o, b1, b2, b3⟩ := body p e s m args below meth c s₁ B hml ht hP s₁ hh0 (Stand.of_body B)
    exact ⟨t, o, a1, b1, b2, b3⟩
theorem q_ofWH (hy : plainFor y = true) (hw : ws = Cond.codeWith y cc maxL ret hh :: ws')
    (body : ∀ p e s m args below meth c s₁, BodyLoose p l y (headSpec ws rm) cc maxL ret e s m args below meth c s₁ → c.maxLocals = maxL → Pc args s →
      W p l e (headSpec ws rm).room s m args below meth c s.heap [] 0 0 (vx_MQ below Qc XC args s mc ms free) (entryFrame m args maxL)) : vx_Met l y ws rm Pc Qc XC mc ms free := by
  refine MetFree.of_bodySF (code := cc) (maxLocals := maxL) (ret := ret) hy ?_ ?_
  · intro args s m h hn
    obtain ⟨m9, meth, c, hn9, h1, h2, h3, h4, -, h5, h6, -⟩ := Cond.codeWith_spec (atoms_spec (ws := ws) h _ (by rw [hw]; exact List.mem_cons_self))
    cases hn.symm.trans hn9
    exact ⟨meth, c, h1, h2, h3, h4, h5, h6⟩
  · intro p e s m args below meth c s₁ B hml hP _
    have hh0 : s₁.heap = s.heap := by rw [B.state]; rfl
    obtain ⟨t, a1, o, b1, b2, b3⟩ := body p e s m args below meth c s₁ B hml hP s₁ hh0 (Stand.of_body B)
    exact ⟨t, o, a1, b1, b2, b3⟩
end QF
theorem qFl_i {x : Int} {l : List qV} : qFl (.inl x :: l) = .inl x :: qFl l := rfl
theorem q_lg {ad : qA} {as : List qV} (h : as.all qAr = true) : (lg_sl (as.map (qVl ad 0))).length = (qFl as).length ∧ ∀ (i : Nat) (v : qV), (qFl as)[i]? = some v → (qLd v = true ∨ qLg v = true) → (lg_sl (as.map (qVl ad 0)))[i]? = some (.val (qVl ad 0 v)) := by
  induction as with
  | nil => exact ⟨rfl, fun i v h => by cases i <;> cases h⟩
  | cons u r ih =>
    have h2 := q_and (x := qAr u) (y := r.all qAr) h
    have ih := ih h2.2
    have one : (qVl ad 0 u).category = 1 → qFl (u :: r) = u :: qFl r → (lg_sl ((u :: r).map (qVl ad 0))).length = (qFl (u :: r)).length ∧ ∀ (i : Nat) (v : qV), (qFl (u :: r))[i]? = some v → (qLd v = true ∨ qLg v = true) → (lg_sl ((u :: r).map (qVl ad 0)))[i]? = some (.val (qVl ad 0 v)) := by
      intro hc he
      have e : lg_sl ((u :: r).map (qVl ad 0)) = Slot.val (qVl ad 0 u) :: lg_sl (r.map (qVl ad 0)) := by
        unfold lg_sl
        rw [List.map_cons, List.flatMap_cons, hc]
        rfl
      rw [e, he]
      refine ⟨by rw [List.length_cons, List.length_cons, ih.1], fun i v hi hv => ?_⟩
      match i, hi with
      | 0, hi =>
        cases hi
        rfl
      | i + 1, hi =>
        rw [List.getElem?_cons_succ] at hi ⊢
        exact ih.2 i v hi hv
    match u, h2.1, one with
    | .inl x, _, one => exact one rfl rfl
    | .inr (.inl none), _, one => exact one rfl rfl
    | .inr (.inl (some (k, n))), _, one => exact one rfl rfl
    | .inr (.inr (.inl x)), _, _ =>
      have e : lg_sl (((.inr (.inr (.inl x)) : qV) :: r).map (qVl ad 0)) = Slot.val (.long (Int64.ofInt x)) :: Slot.second :: lg_sl (r.map (qVl ad 0)) := by
        unfold lg_sl
        rw [List.map_cons, List.flatMap_cons]
        rfl
      have he : qFl ((.inr (.inr (.inl x)) : qV) :: r) = .inr (.inr (.inl x)) :: q_u :: qFl r := rfl
      rw [e, he]
      refine ⟨by simp only [List.length_cons, ih.1], fun i v hi hv => ?_⟩
      match i, hi with
      | 0, hi =>
        cases hi
        rfl
      | 1, hi =>
        cases hi
        rcases hv with hv | hv <;> cases hv
      | i + 2, hi =>
        rw [List.getElem?_cons_succ, List.getElem?_cons_succ] at hi ⊢
        exact ih.2 i v hi hv
theorem qArgs_at {n : Nat} {as : List qV} {i : Nat} {v : qV} (h : (qArgs n as)[i]? = some v) (hd : qLd v = true ∨ qLg v = true) : (qFl as)[i]? = some v := by
  unfold qArgs at h
  by_cases hi : i < (qFl as).length
  · rwa [List.getElem?_append_left hi] at h
  · rw [List.getElem?_append_right (Nat.le_of_not_lt hi)] at h
    have h2 := List.eq_of_mem_replicate (List.mem_of_getElem? h)
    subst h2
    rcases hd with hd | hd <;> cases hd
theorem qLk_o {ls : List qV} {i : Nat} {v : qV} (h : qLk ls i v = true) : qLd v = true ∨ qLg v = true := by
  rcases qLk_cases h with h | ⟨⟨x, rfl⟩, -⟩
  · exact Or.inl h
  · exact Or.inr rfl
theorem qFl_mem {as : List qV} {v : qV} (h : v ∈ qFl as) : v ∈ as ∨ v = q_u := by
  induction as with
  | nil => cases h
  | cons u r ih =>
    have go : v ∈ u :: qFl r → v ∈ u :: r ∨ v = q_u := fun h => by
      rcases List.mem_cons.mp h with h | h
      · exact Or.inl (List.mem_cons.mpr (Or.inl h))
      · rcases ih h with h | h
        · exact Or.inl (List.mem_cons_of_mem _ h)
        · exact Or.inr h
    match u, h, go with
    | .inl x, h, go => exact go h
    | .inr (.inl x), h, go => exact go h
    | .inr (.inr (.inr x)), h, go => exact go h
    | .inr (.inr (.inl x)), h, go =>
      have h : v ∈ (.inr (.inr (.inl x)) : qV) :: q_u :: qFl r := h
      rcases List.mem_cons.mp h with h | h
      · exact Or.inl (List.mem_cons.mpr (Or.inl h))
      · rcases List.mem_cons.mp h with h | h
        · exact Or.inr h
        · exact go (List.mem_cons_of_mem _ h)
theorem qArgs_vo {σ : qS} {n : Nat} {as : List qV} (h : ∀ v ∈ as, qVo σ v) : ∀ v ∈ qArgs n as, qVo σ v := by
  intro v hv
  rcases List.mem_append.mp hv with h1 | h1
  · rcases qFl_mem h1 with h1 | h1
    · exact h v h1
    · rw [h1]; trivial
  · rw [List.eq_of_mem_replicate h1]; trivial
theorem qBump_ent {cA : Nat → ClassId} {ad : qA} {σ : qS} {objs : List (Nat × Int)} {a b : Nat} : qWs qT0 cA ad (qBump σ a b) objs = qWs qT0 cA ad σ objs := rfl
section QM
variable {l : Launch} {D : va_G} {cA : Nat → ClassId} {ad : qA} {objs : List (Nat × Int)} {σ σ' : qS} {sz mc ms d m0 N : Nat} {as : List qV} {r : qR} {call : qCl}
variable {p : Program} {e : Env} {s : State} {m : MethodId} {args : Array Value} {below : List Frame} {meth : Method} {c : Code} {s₁ : State}
theorem q_body (hm : m0 < qNm) (hAll : ∀ m, m < qNm → qOkAll m = true) (hno : ∀ m, m < qNm → (qMe m).1.cls = "Facingleaf" → (qMe m).2.2.2.2 = []) (hfl : l.stackTraces = false)
    (hcall : ∀ m as σ r σ', m < qNm → call m as σ = some (r, σ') → qMetOK l d m as σ r σ' ∧ qLe σ σ' ∧ ∀ k, r = .inr k → k < 3) (hcl : qClLe call)
    (hrun : qRun qT0 call (-1, fun _ => 0) (qP m0) N 0 (qArgs (qP m0).2.2.2 as) [] σ = some (r, σ')) (hlen : (qFl as).length ≤ (qP m0).2.2.2)
    (hO : qOK qT0 σ objs) (hv : ∀ v ∈ as, qVo σ v) (ha : as.all qAr = true) (hmc : σ'.1.2.2.1 = σ.1.2.2.1 + mc) (hms : σ'.1.2.2.2.1 = σ.1.2.2.2.1 + ms)
    (B : BodyLoose p l (qMe m0).1 (headSpec (qCw (qMe m0) :: qW) (qRm (d + 1) mc ms)) (qMe m0).2.1 (qMe m0).2.2.1 (qMe m0).2.2.2.1 e s m args below meth c s₁) (hml : c.maxLocals = (qMe m0).2.2.1) (htab : c.exceptionTable.toList = tableOf (qMe m0).2.2.2.2)
    (hPc : va_Pc (as.map (qVl ad 0)) (qBf D cA ad objs σ sz) args s) :
    W p l e (qRm (d + 1) mc ms) s m args below meth c s.heap [] 0 0 (vx_MQ below (qQc D cA ad objs σ sz r σ') (qXC D cA ad objs σ sz r σ') args s mc ms (va_A (qWs qT0 cA ad σ objs) sz)) (entryFrame m args (qMe m0).2.2.1) := by
  obtain ⟨hargs, hsz, hP, hD, hks, hz⟩ := hPc
  have hok := q_and (hAll m0 hm)
  obtain ⟨w1, w2, w3, w4, w5, w6, w7, w8, w9, w10, w11, w13⟩ := qOkMt_s hok.1
  have hown : s.vm.findClass (qMe m0).1.cls = some m.cls := findClass_of_methodNamed B.named
  have hts : ∀ w ∈ qW, w.before args s = true := fun w hw => atoms_spec (ws := qCw (qMe m0) :: qW) B.pre w (List.mem_cons_of_mem _ hw)
  have X : qCx (d + 1) p l (qRm (d + 1) mc ms) s m args meth c D cA (va_A (qWs qT0 cA ad σ objs) sz) (qMe m0).1.cls (qMe m0).2.1 (qMe m0).2.2.1 (decide ((qMe m0).1.name = "<init>")) (qMe m0).2.2.2.2 :=
    ⟨B.exec, B.bytes, hml, hown, hts, B.notSynchronized, hfl, fun hi => (name_of_methodNamed B.named B.method).1.trans (of_decide_eq_true hi), htab, hks, hz, fun q hq => Or.inr (by rw [← hsz]; exact hq), Nat.le_refl _, Nat.le_refl _⟩
  have hD' : va_D (va_A (qWs qT0 cA ad σ objs) sz) (qWs qT0 cA ad σ objs) := ⟨hD.1, fun k q hk => Or.inl ⟨k, q.2, hk⟩⟩
  have hS0 : va_S (va_A (qWs qT0 cA ad σ objs) sz) s.heap s.heap [] := ⟨Nat.le_refl _, fun _ _ _ => rfl, fun _ h => nomatch h⟩
  have hargs' : args = (as.map (qVl ad 0)).toArray := hargs
  have hsllen : (lg_sl (as.map (qVl ad 0))).length = (qFl as).length := (q_lg ha).1
  have hlen' : (qFl as).length ≤ (qMe m0).2.2.1 := by rw [← w7]; exact hlen
  have hhas := lv_entry (as.map (qVl ad 0)) (n := (qMe m0).2.2.1) (by rw [hsllen]; exact hlen')
  have hLs : qLs ad 0 ((lg_sl (as.map (qVl ad 0)) ++ List.replicate ((qMe m0).2.2.1 - (lg_sl (as.map (qVl ad 0))).length) Slot.unset).toArray) (qMe m0).2.2.1 (qArgs (qP m0).2.2.2 as) := by
    refine ⟨hhas.1, hhas.2.1, ?_, fun i v hi hd => ?_⟩
    · unfold qArgs
      rw [List.length_append, List.length_replicate, ← w7]
      omega
    · have hi' := qArgs_at hi (qLk_o hd)
      have hlt : i < (qFl as).length := (List.getElem?_eq_some_iff.mp hi').1
      rw [List.getElem?_toArray, List.getElem?_append_left (by rw [hsllen]; exact hlt)]
      exact (q_lg ha).2 i v hi' (qLk_o hd)
  have S : qSI D cA 0 (va_A (qWs qT0 cA ad σ objs) sz) s (qMe m0).2.2.1 σ.1.2.2.1 (σ.1.2.2.2.1, σ, ad) ad objs s.heap [] _ 0 0 (qArgs (qP m0).2.2.2 as) [] σ :=
    ⟨hO, hP, hD', hS0, hLs, qArgs_vo hv, (fun _ h => nomatch h), rfl, rfl, fun _ => Int.le_refl _, fun _ _ _ => rfl⟩
  rw [hargs', lg_entry_eq]
  rw [← hargs']
  refine q_run (c0 := σ.1.2.2.1) (z0 := (σ.1.2.2.2.1, σ, ad)) (b := 0) hok.2 (fun m hm => (q_and (hAll m hm)).1) hcall w11 ?_ (fun h => absurd h (by decide)) (fun h _ => absurd h (by decide)) hcl X ⟨by rw [hmc]; exact Nat.le_refl _, by rw [hms]; exact Nat.le_refl _⟩ ?_ ?_ hrun S
  · intro h hh
    exact w13.1 h hh
  · -- the ends
    rcases r with v | k
    · intro ad' objs' H locs sl cells slots pc ls S' hE
      have e1 : cells = mc := by have := S'.2.2.2.2.2.2.2.1; omega
      have e2 : slots = ms := by have := S'.2.2.2.2.2.2.2.2.1; simp only at this; omega
      subst e1
      subst e2
      have hvo := S'.2.2.2.2.2.2.1
      have hf : ∀ q ∈ locs, va_A (qWs qT0 cA ad σ objs) sz q.base := S'.2.2.2.1.2.2
      have hQ : (∀ w, v = some w → qAr w = true) → ∀ t : State, t.heap = H → qQc D cA ad objs σ sz (.inl v) σ' args s (.returned (v.map (qVl ad' 0))) t := fun hw t ht => by
        refine ⟨⟨v, ad', objs', rfl, rfl, fun w hq => ⟨hw w hq, ?_⟩, S'.1, by rw [ht]; exact S'.2.1, S'.2.2.1, S'.2.2.2.2.2.2.2.2.2.2⟩, S'.2.2.2.1.F ht⟩
        subst hq
        exact hvo w List.mem_cons_self
      rcases hE with ⟨x, rfl, hx, hdg, hrt⟩ | ⟨x, rfl, hx, hdg, hrt⟩ | ⟨q, rfl, hdg, hrt⟩ | ⟨rfl, hdg, hrt⟩
      · have hQ' := hQ (fun w hw => by cases hw; rfl)
        rw [hrt] at w10
        have hret : (qMe m0).2.2.2.1 = some .long := by
          generalize (qMe m0).2.2.2.1 = ty at w10
          match ty, w10 with
          | some .long, _ => rfl
        exact vx_ret (W.lret B.exec B.bytes (B.returns.trans hret) (fun t ht _ => hQ' t ht) hf hdg B.notSynchronized)
      · have hQ' := hQ (fun w hw => by cases hw; rfl)
        rcases hrt with hrt | ⟨hrt, hx2⟩
        · rw [hrt] at w10
          have hret : (qMe m0).2.2.2.1 = some .int := by
            generalize (qMe m0).2.2.2.1 = ty at w10
            match ty, w10 with
            | some .int, _ => rfl
          exact vx_ret (W.iret B.exec B.bytes (B.returns.trans hret) (fun t ht _ => hQ' t ht) hf hdg B.notSynchronized)
        · rw [hrt] at w10
          have hret : (qMe m0).2.2.2.1 = some .boolean := by
            generalize (qMe m0).2.2.2.1 = ty at w10
            match ty, w10 with
            | some .boolean, _ => rfl
          refine vx_ret (W.zret B.exec B.bytes (B.returns.trans hret) ?_ (fun t ht _ => hQ' t ht) hf hdg B.notSynchronized)
          rcases hx2 with rfl | rfl
          · decide
          · decide
      · have hQ' := hQ (fun w hw => by cases hw; rfl)
        rw [hrt] at w10
        have hret : ∃ C, (qMe m0).2.2.2.1 = some (.object C) := by
          generalize (qMe m0).2.2.2.1 = ty at w10
          match ty, w10 with
          | some (.object C), _ => exact ⟨C, rfl⟩
        obtain ⟨C, hret⟩ := hret
        exact vx_ret (W.aret B.exec B.bytes (B.returns.trans hret) (Or.inl ⟨C, rfl⟩) (Or.inr ⟨_, rfl⟩) (fun t ht _ => hQ' t ht) hf hdg B.notSynchronized)
      · have hQ' := hQ (fun w hw => by cases hw)
        rw [hrt] at w10
        have hret : (qMe m0).2.2.2.1 = none := by
          generalize (qMe m0).2.2.2.1 = ty at w10
          match ty, w10 with
          | none, _ => rfl
        exact vx_ret (W.vret B.exec B.bytes (B.returns.trans hret) (fun t ht _ => hQ' t ht) hf hdg B.notSynchronized)
    · intro ad' objs' H locs sl cells slots pc rest q ce ls S' hce hcv hcl hk hpass
      have e1 : cells = mc := by have := S'.2.2.2.2.2.2.2.1; omega
      have e2 : slots = ms := by have := S'.2.2.2.2.2.2.2.2.1; simp only at this; omega
      exact vx_outP hown B.notSynchronized hpass hce hcv hcl (fun t ht _ => ⟨⟨k, ad', objs', rfl, hk, rfl, S'.1, by rw [ht]; exact S'.2.1, S'.2.2.1, S'.2.2.2.2.2.2.2.2.2.2⟩, S'.2.2.2.1.F ht⟩) S'.2.2.2.1.2.2 (by omega) (by omega)
  · -- a throw
    rcases r with v | k
    · trivial
    · intro ad' objs' H locs sl cells slots pc x w rest ls st σ1 S' ho hdg hth hsum
      have e0 : σ' = qBump σ1 1 6 := (Prod.mk.inj (Sum.inr.inj ho)).2
      subst e0
      have e1 : σ1.1.2.2.1 + 1 = σ.1.2.2.1 + mc := hmc
      have e2 : σ1.1.2.2.2.1 + 6 = σ.1.2.2.2.1 + ms := hms
      have e3 := S'.2.2.2.2.2.2.2.1
      have e4 := S'.2.2.2.2.2.2.2.2.1
      simp only at e4
      have hc1 : cells + 1 ≤ mc := by omega
      have hc2 : slots + 6 ≤ ms := by omega
      unfold qThrB at hth
      obtain ⟨hth, t1⟩ := q_and hth
      obtain ⟨hth, t2⟩ := q_and hth
      obtain ⟨hth, t3⟩ := q_and hth
      obtain ⟨t5, t4⟩ := q_and hth
      have hk : k < 3 := by simpa using t5
      have hcF : (qMe m0).1.cls = "Facingleaf" := of_decide_eq_true t4
      have hhe := hno m0 hm hcF
      have hcl := q_anyCl t1
      obtain ⟨qs, hqs, t3⟩ := List.any_eq_true.mp t3
      obtain ⟨t6, t3⟩ := q_and t3
      have t6 := of_decide_eq_true t6
      obtain ⟨sa, hsa⟩ := hks.2.1 qs hqs
      have hat := qAtB_in (qAt_ok k hk)
      have hini := qLwB_in (qXi_ok k hk) rfl
      have hempty : ∀ (j : Nat), ∀ y ∈ c.exceptionTable.toList, covers y j = false := by
        intro j y hy
        rw [htab, hhe] at hy
        cases hy
      have hfit : Bundle.fit (qX k) = true := by
        rcases (show k = 0 ∨ k = 1 ∨ k = 2 by omega) with rfl | rfl | rfl <;> decide
      have hx : ∀ t : State, s.vm.Alike t.vm → H.size ≤ t.heap.size → (∀ q : Nat, q < H.size → t.heap[q]? = H[q]?) → qXC D cA ad objs σ sz (.inr k) (qBump σ1 1 6) (qX k) s t := fun t _ ht1 ht2 => by
        refine ⟨⟨k, ad', objs', rfl, hk, rfl, S'.1, S'.2.1.kept (fun k9 x hx9 => ht2 x.1 ((S'.2.1 k9 x hx9).lt)), S'.2.2.1, S'.2.2.2.2.2.2.2.2.2.2⟩, ?_, fun q hq hn => ?_⟩
        · exact Nat.le_trans S'.2.2.2.1.1 ht1
        · rw [ht2 q (Nat.lt_of_lt_of_le hq S'.2.2.2.1.1)]
          exact S'.2.2.2.1.2.1 q hq hn
      have hgood : ∀ w ∈ Cond.classLink (qMe m0).1.cls x (qX k) :: Cond.initialized (qX k) :: vx_atS (qMe m0).1.cls (qXn.getD k ("", 0)).2 (qX k) qXs, vx_ot w = true := by
        intro w9 hw9
        rcases List.mem_cons.mp hw9 with rfl | hw9
        · rfl
        · rcases List.mem_cons.mp hw9 with rfl | hw9
          · rfl
          · rw [hcF] at hw9
            exact (hat w9 hw9).2
      have hat' : ∀ w ∈ vx_atS (qMe m0).1.cls (qXn.getD k ("", 0)).2 (qX k) qXs, w.before args s = true := by
        intro w9 hw9
        rw [hcF] at hw9
        exact hts _ (hat w9 hw9).1
      have hsl : sl.size = c.maxLocals := by rw [hml]; exact S'.2.2.2.2.1.1
      rw [t6] at hsa
      have hRl : (rest.map fun v => v.category).sum + (13 * (qXs.length + 1) + 43) ≤ (qRm (d + 1) mc ms).locals := by
        show _ + (13 * (2 + 1) + 43) ≤ 60 * (d + 1) + 100
        omega
      have hd3 := of_decide_eq_true t2
      match w, t3 with
      | 0, t3 =>
        obtain ⟨t3, t9⟩ := q_and t3
        obtain ⟨t7, t8⟩ := q_and t3
        exact vx_throwS B.exec B.bytes hfl (names := qXs) hown hfit (by decide) (hts _ hcl) (hts _ hini) hsa hat' hgood hz.1 hz.2 S'.2.2.2.1 hsl hdg hd3 (of_decide_eq_true t7) (of_decide_eq_true t8) (of_decide_eq_true t9) (hempty _) (by show 2 + 3 < d + 1 + 6; omega) hRl hc1 hc2 B.notSynchronized hx S'.2.2.2.1.2.2 hc1 hc2
      | w + 1, t3 =>
        obtain ⟨t3, t9⟩ := q_and t3
        obtain ⟨t7, t8⟩ := q_and t3
        exact vx_throwSW B.exec B.bytes hfl (names := qXs) hown hfit (by decide) (hts _ hcl) (hts _ hini) hsa hat' hgood hz.1 hz.2 S'.2.2.2.1 hsl hdg hd3 (of_decide_eq_true t7) (of_decide_eq_true t8) (of_decide_eq_true t9) (hempty _) (by show 2 + 3 < d + 1 + 6; omega) hRl hc1 hc2 B.notSynchronized hx S'.2.2.2.1.2.2 hc1 hc2
end QM
/-- every call that the small machine makes is a call of the program -/
theorem q_met {l : Launch} (hAll : ∀ m, m < qNm → qOkAll m = true) (hno : ∀ m, m < qNm → (qMe m).1.cls = "Facingleaf" → (qMe m).2.2.2.2 = []) (hfl : l.stackTraces = false) (N : Nat) :
    ∀ (d m : Nat) (as : List qV) (σ : qS) (r : qR) (σ' : qS), m < qNm → qCall qT0 qP d N m as σ = some (r, σ') → qMetOK l d m as σ r σ' ∧ qLe σ σ' ∧ ∀ k, r = .inr k → k < 3
  | 0, m, as, σ, r, σ', _, h => by cases h
  | d + 1, m, as, σ, r, σ', hm, h => by
    have hIH : ∀ m as σ r σ', m < qNm → qCall qT0 qP d N m as σ = some (r, σ') → qMetOK l d m as σ r σ' ∧ qLe σ σ' ∧ ∀ k, r = .inr k → k < 3 := fun m as σ r σ' hm h => q_met hAll hno hfl N d m as σ r σ' hm h
    have hle := qCall_le (T := qT0) (P := qP) (d + 1) N m as σ r σ' h
    have hcl := qCall_le (T := qT0) (P := qP) d N
    unfold qCall at h
    cases hb : Nat.ble (qFl as).length (qP m).2.2.2 with
    | false => rw [hb] at h; cases h
    | true =>
      rw [hb] at h
      simp only [cond_true] at h
      have hlen := Nat.le_of_ble_eq_true hb
      have hok := q_and (hAll m hm)
      obtain ⟨w1, w2, w3, w4, w5, w6, w7, w8, w9, w10, w11, w13⟩ := qOkMt_s hok.1
      refine ⟨?_, hle, qRun_i hok.2 (fun m as σ r σ' hm hq => (hIH m as σ r σ' hm hq).2.2) h⟩
      intro D cA ad objs sz mc ms hO hv ha hmc hms
      by_cases hhe : (qMe m).2.2.2.2 = []
      · refine q_ofW (cc := (qMe m).2.1) (maxL := (qMe m).2.2.1) (ret := (qMe m).2.2.2.1) (ws' := qW) w4 ?_ (fun p e s m9 args below meth c s₁ B hml hx hPc => ?_)
        · unfold qCw; rw [hhe]
        · refine q_body hm hAll hno hfl hIH hcl h hlen hO hv ha hmc hms B hml ?_ hPc
          rw [hhe]
          exact List.eq_nil_iff_forall_not_mem.mpr hx
      · have hcw : qCw (qMe m) = Cond.codeWith (qMe m).1 (qMe m).2.1 (qMe m).2.2.1 (qMe m).2.2.2.1 (qMe m).2.2.2.2 := by
          unfold qCw
          generalize (qMe m).2.2.2.2 = hh9 at hhe
          cases hh9 with
          | nil => exact absurd rfl hhe
          | cons _ _ => rfl
        refine q_ofWH (cc := (qMe m).2.1) (maxL := (qMe m).2.2.1) (ret := (qMe m).2.2.2.1) (hh := (qMe m).2.2.2.2) (ws' := qW) w4 (by rw [hcw]) (fun p e s m9 args below meth c s₁ B hml hPc => ?_)
        have hw1 : (Cond.codeWith (qMe m).1 (qMe m).2.1 (qMe m).2.2.1 (qMe m).2.2.2.1 (qMe m).2.2.2.2).before args s = true := by
          rw [← hcw]
          exact atoms_spec (ws := qCw (qMe m) :: qW) B.pre _ List.mem_cons_self
        exact q_body hm hAll hno hfl hIH hcl h hlen hO hv ha hmc hms B hml (vx_table (x := (qMe m).1) B hw1) hPc
