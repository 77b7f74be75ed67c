/-! ===== the contract of 'cell' ===== -/
theorem q_cellG {d : Nat} {sc : Int × (Int → Int)} {σ : qS} {k : Int} (hk : 0 ≤ k ∧ k ≤ 1000) (h0 : 0 ≤ sc.1) : qG d sc (qP 150) (fun r σ1 => r = .inl (some (.inl (qCell sc k))) ∧ σ1 = σ) 0 [.inr (.inr (.inr true)), .inl k] [] σ := by
  refine qWp_ok (cut := fun _ => false) (K := fun _ _ _ _ => False) (N := 40) (fun _ _ _ _ h => h.elim) ?_
  refine And.intro h0 (And.intro (fun q => And.intro ⟨hk.1, q⟩ ?_) (fun q => And.intro ⟨by omega, by omega⟩ ?_))
  · refine And.intro ?_ rfl
    unfold qCell
    rw [if_pos q]
  · refine And.intro ?_ rfl
    unfold qCell
    rw [if_neg q]
    rfl
theorem q7_150 : q7 (qP 150) = false := by decide +kernel
section QM
variable {l : Launch}
theorem q_cellMet (hAll : ∀ m, m < qNm → qOkAll m = true) (hno : ∀ m, m < qNm → (qMe m).1.cls = "Facingleaf" → (qMe m).2.2.2.2 = []) (hfl : l.stackTraces = false) : ∀ d, 1 ≤ d → qMetC l d := by
  intro d0 hd D cA ad objs σ sz b N zs sc k hO hk hN hz hzs
  obtain ⟨d, rfl⟩ : ∃ d, d0 = d + 1 := ⟨d0 - 1, by omega⟩
  have hok := q_and (hAll 150 (by decide))
  obtain ⟨w1, w2, w3, w4, w5, w6, w7, w8, w9, w10, w11, w13⟩ := qOkMt_s hok.1
  obtain ⟨F, r, σ', hrun, rfl, rfl⟩ := q_cellG (d := d) (sc := sc) (σ := σ) hk (by omega)
  refine q_ofW (cc := (qMe 150).2.1) (maxL := (qMe 150).2.2.1) (ret := (qMe 150).2.2.2.1) (ws' := qW) w4 rfl (fun p e s m args below meth c s₁ B hml hx hPc => ?_)
  obtain ⟨hargs, ⟨hsz, hP, hD, hks, hzz⟩, hX, hbs, hbA⟩ := hPc
  have hown : s.vm.findClass (qMe 150).1.cls = some m.cls := findClass_of_methodNamed B.named
  have hts : ∀ w ∈ qW, w.before args s = true := fun w hw => atoms_spec (ws := qCw (qMe 150) :: qW) B.pre w (List.mem_cons_of_mem _ hw)
  have X : qCx (d + 1) p l (qRm (d + 1) 0 0) s m args meth c D cA (va_A (qWs qT0 cA ad σ' objs) sz) (qMe 150).1.cls (qMe 150).2.1 (qMe 150).2.2.1 (decide ((qMe 150).1.name = "<init>")) (qMe 150).2.2.2.2 :=
    ⟨B.exec, B.bytes, hml, hown, hts, B.notSynchronized, hfl, fun hi => (name_of_methodNamed B.named B.method).1.trans (of_decide_eq_true hi), List.eq_nil_iff_forall_not_mem.mpr hx, hks, hzz, fun q hq => Or.inr (by rw [← hsz]; exact hq), Nat.le_refl _, Nat.le_refl _⟩
  have hD' : va_D (va_A (qWs qT0 cA ad σ' objs) sz) (qWs qT0 cA ad σ' objs) := ⟨hD.1, fun k q hk => Or.inl ⟨k, q.2, hk⟩⟩
  have hS0 : va_S (va_A (qWs qT0 cA ad σ' objs) sz) s.heap s.heap [] := ⟨Nat.le_refl _, fun _ _ _ => rfl, fun _ h => nomatch h⟩
  have hargs' : args = ([Value.ref b, Value.int (Int32.ofInt k)] : List Value).toArray := hargs
  have hsl : lg_sl [Value.ref b, Value.int (Int32.ofInt k)] = [.val (.ref b), .val (.int (Int32.ofInt k))] := rfl
  have hhas := lv_entry [Value.ref b, Value.int (Int32.ofInt k)] (n := 2) (by rw [hsl]; exact Nat.le_refl _)
  have hLs : qLs ad b ((lg_sl [Value.ref b, Value.int (Int32.ofInt k)] ++ List.replicate (2 - (lg_sl [Value.ref b, Value.int (Int32.ofInt k)]).length) Slot.unset).toArray) 2 [.inr (.inr (.inr true)), .inl k] := by
    refine ⟨hhas.1, hhas.2.1, rfl, fun i v hi hd => ?_⟩
    match i, hi with
    | 0, hi => cases hi; rfl
    | 1, hi => cases hi; rfl
  have hkv : qIn k := ⟨by omega, by omega⟩
  have S : qSI D cA b (va_A (qWs qT0 cA ad σ' objs) sz) s 2 σ'.1.2.2.1 (σ'.1.2.2.2.1, σ', ad) ad objs s.heap [] _ 0 0 [.inr (.inr (.inr true)), .inl k] [] σ' :=
    ⟨hO, hP, hD', hS0, hLs, (fun v hv => by
      rcases List.mem_cons.mp hv with rfl | hv
      · trivial
      · rw [List.mem_singleton] at hv; subst hv; exact hkv), (fun _ h => nomatch h), rfl, rfl, fun _ => Int.le_refl _, fun _ _ _ => rfl⟩
  show W p l e (qRm (d + 1) 0 0) s m args below meth c s.heap [] 0 0 _ (entryFrame m args 2)
  rw [hargs', lg_entry_eq]
  rw [← hargs']
  refine q_run (call := qCall qT0 qP d F) (sc := sc) (c0 := σ'.1.2.2.1) (z0 := (σ'.1.2.2.2.1, σ', ad)) (b := b) hok.2 (fun m hm => (q_and (hAll m hm)).1) (fun m as σ r σ' hm h => q_met hAll hno hfl F d m as σ r σ' hm h) w11 (fun _ h => (nomatch h)) (fun _ => ⟨zs, N, hX, by rw [hsz]; exact hbs, hbA, hN, hz, hzs⟩) (fun _ h => by rw [q7_150] at h; cases h) (qCall_le d F) X ⟨Nat.le_refl _, Nat.le_refl _⟩ ?_ ?_ hrun S
  · intro ad' objs' H locs sl cells slots pc ls S' hE
    have e1 : cells = 0 := by have := S'.2.2.2.2.2.2.2.1; omega
    have e2 : slots = 0 := by have := S'.2.2.2.2.2.2.2.2.1; simp only at this; omega
    subst e1
    subst e2
    have hvo := S'.2.2.2.2.2.2.1
    have hf : ∀ q ∈ locs, va_A (qWs qT0 cA ad σ' objs) sz q.base := S'.2.2.2.1.2.2
    have hQ : ∀ t : State, t.heap = H → qQc D cA ad objs σ' sz (.inl (some (.inl (qCell sc k)))) σ' args s (.returned ((some (.inl (qCell sc k) : qV)).map (qVl ad' 0))) t := fun t ht => by
      refine ⟨⟨_, ad', objs', rfl, rfl, fun w hq => ⟨by cases hq; rfl, ?_⟩, S'.1, by rw [ht]; exact S'.2.1, S'.2.2.1, S'.2.2.2.2.2.2.2.2.2.2⟩, S'.2.2.2.1.F ht⟩
      cases hq
      exact hvo _ List.mem_cons_self
    rcases hE with ⟨x, hx9, -⟩ | ⟨x, hx9, -, hdg, -⟩ | ⟨q, hx9, -⟩ | ⟨hx9, -⟩
    · cases hx9
    · cases hx9
      exact vx_ret (W.iret B.exec B.bytes B.returns (fun t ht _ => hQ t ht) hf hdg B.notSynchronized)
    · cases hx9
    · cases hx9
  · trivial
end QM
