/-! ===== a call, from the run to what follows ===== -/
section QR
variable {d : Nat} {p : Program} {l : Launch} {e : Env} {R : Room} {s : State} {m : MethodId} {args : Array Value} {below : List Frame} {meth : Method} {c : Code} {Q : State → Prop}
variable {D : va_G} {cA : Nat → ClassId} {b : Nat} {A : Nat → Prop} {own : String} {cc : ByteArray} {nL c0 rt : Nat} {z0 : qZ} {ini : Bool} {hh : List (Nat × Nat × Nat × Nat)}
variable {ad : qA} {objs : List (Nat × Int)} {H : Heap} {locs : List Loc} {sl : Array Slot} {cells slots pc : Nat} {ls st : List qV} {σ : qS} {o : qO}
/-- what the callee may change is ours -/
theorem q_sub (hA : ∀ q : Nat, s.heap.size ≤ q → A q) (S : qSI D cA b A s nL c0 z0 ad objs H locs sl cells slots ls st σ) : ∀ q, va_A (qWs qT0 cA ad σ objs) H.size q → A q := by
  intro q h
  rcases h with ⟨k, e, h⟩ | h
  · exact S.2.2.1.2 k (q, e) h
  · exact hA q (Nat.le_trans S.2.2.2.1.1 h)
theorem q_bf (X : qCx d p l R s m args meth c D cA A own cc nL ini hh) (S : qSI D cA b A s nL c0 z0 ad objs H locs sl cells slots ls st σ) : ∀ U : State, U.heap = H → s.WarmedH U.vm → qBf D cA ad objs σ H.size U := by
  intro U hU hW
  obtain ⟨-, -, -, -, -, -, -, -, -, hks, hz, hA, -⟩ := X
  have hsub := q_sub hA S
  refine ⟨by rw [hU], by rw [hU]; exact S.2.1, S.2.2.1.weaken (fun _ _ _ _ => trivial), qKs.warm hW hks, ?_⟩
  rw [hU]
  refine qZs.moved hW ?_
  exact ⟨(hz.1.kept S.2.2.2.1.2.1).narrow hsub, (hz.2.kept S.2.2.2.1.2.1).narrow hsub⟩
/-- the state behind a call -/
theorem qSI.back {st' : List qV} {ad' : qA} {objs' : List (Nat × Int)} {σ' : qS} {t : State} {H1 : Heap} {locs1 : List Loc} {mc ms : Nat} (hA : ∀ q : Nat, s.heap.size ≤ q → A q) (S : qSI D cA b A s nL c0 z0 ad objs H locs sl cells slots ls st σ) (hle : qLe σ σ') (ht : t.heap = H1) (h : qAf D cA ad objs σ H.size ad' objs' σ' t) (hS : va_S A s.heap H1 locs1) (hmc : σ'.1.2.2.1 = σ.1.2.2.1 + mc) (hms : σ'.1.2.2.2.1 = σ.1.2.2.2.1 + ms) (hst : ∀ v ∈ st', qVo σ' v) :
    qSI D cA b A s nL c0 z0 ad' objs' H1 locs1 sl (cells + mc) (slots + ms) ls st' σ' := by
  obtain ⟨h1, h2, h3, h4⟩ := h
  have hsub := q_sub hA S
  refine ⟨h1, by rw [← ht]; exact h2, h3.weaken (fun _ _ _ h => hsub _ h), hS, S.2.2.2.2.1.ag h4 S.2.2.2.2.2.1, fun v hv => (S.2.2.2.2.2.1 v hv).le hle, hst, ?_, ?_, S.2.2.2.2.2.2.2.2.2.tr hle.1 h4⟩
  · have := S.2.2.2.2.2.2.2.1; omega
  · have := S.2.2.2.2.2.2.2.2.1; omega
theorem qr_back {hs : List qHd} {a g : Nat} {as rest : List qV} {r : qR} {σ1 : qS} {mc ms : Nat} {st0 : List Value} (hHd : qHdB own cc hs hh = true) (hjs : ∀ h ∈ hs, h.2.2.2.2 < nL) (hX3 : ∀ k, r = .inr k → k < 3)
    (X : qCx d p l R s m args meth c D cA A own cc nL ini hh) (S : qSI D cA b A s nL c0 z0 ad objs H locs sl cells slots ls rest σ) (hle : qLe σ σ1) (hmc : σ1.1.2.2.1 = σ.1.2.2.1 + mc) (hms : σ1.1.2.2.2.1 = σ.1.2.2.2.1 + ms)
    (hr : vx_Run p l e R s m args below meth c H locs cells slots mc ms (F0 m pc sl st0) (rest.map (qVl ad b)) (qQc D cA ad objs σ H.size r σ1 #[]) (qXC D cA ad objs σ H.size r σ1) (va_A (qWs qT0 cA ad σ objs) H.size))
    (h : (match (r, σ1) with
      | (.inl none, σ1) => qNx (pc + 3) ls rest σ1
      | (.inl (some v), σ1) => qNx (pc + 3) ls (v :: rest) σ1
      | (.inr k, σ1) => (match qHand hs pc k with
        | none => some (.inr (.inr k, σ1))
        | some (g, j) => qNx g (qKl ls j q_u) [] σ1)) = some o) (hK : qKn p l e R s m args below meth c Q D cA b A own cc nL c0 z0 rt o) :
    W p l e R s m args below meth c H locs cells slots Q (F0 m pc sl st0) := by
  obtain ⟨hx, hb, hml, hown, hts, hlk, -, -, htab, hks, hz, hA, -⟩ := id X
  have hsub := q_sub hA S
  have hrest := S.2.2.2.2.2.2.1
  intro T hT XT
  rcases hr T hT XT with ⟨v, st₀, t, T', L, h0, X', hL, e1, e2, ⟨⟨v', ad', objs', rfl, hv, hvo, hAf⟩, hF⟩, stp⟩ | ⟨q, st₀, t, T', L, E, ce, h0, X', hL, e1, e2, ⟨⟨k, ad', objs', rfl, hk3, rfl, hAf⟩, hF⟩, hce, hcv, hcl, stp⟩
  · cases hv
    obtain ⟨k1, k2, k3⟩ := vx_keep h0 e1 S.2.2.2.1 (fun q _ h => hsub q h) hsub hL hF
    have hrm : rest.map (qVl ad b) = rest.map (qVl ad' b) := qVl_map_ag hAf.2.2.2 hrest
    cases v' with
    | none =>
      cases qNx_s h
      have S' := S.back hA hle e1.symm hAf k3 hmc hms (fun v hv => (hrest v hv).le hle)
      obtain ⟨t2, a1, b1⟩ := hK ad' objs' _ _ sl _ _ S' T' rfl X'
      refine ⟨t2, stp t2 ?_, b1⟩
      rw [hrm]
      exact a1
    | some w =>
      cases qNx_s h
      obtain ⟨hw1, hw2⟩ := hvo w rfl
      have S' := S.back hA hle e1.symm hAf k3 hmc hms (q_cons hw2 (fun v hv => (hrest v hv).le hle))
      obtain ⟨t2, a1, b1⟩ := hK ad' objs' _ _ sl _ _ S' T' rfl X'
      refine ⟨t2, stp t2 ?_, b1⟩
      rw [hrm]
      have e3 : qVl ad' 0 w = qVl ad' b w := qVl_b hw1
      show Steps _ _ _ (T'.setTop (F0 m (pc + 3) sl (qVl ad' 0 w :: _))) t2
      rw [e3]
      exact a1
  · obtain ⟨k1, k2, k3⟩ := vx_keep h0 e1 S.2.2.2.1 (fun q _ h => hsub q h) hsub hL hF
    have S' : qSI D cA b A s nL c0 z0 ad' objs' T'.heap (locs ++ L) sl (cells + mc) (slots + ms) ls [] σ1 := S.back hA hle e1.symm hAf k3 hmc hms (fun v hv => (nomatch hv))
    have hce' : T'.heap[q]? = some ce := by rw [e1]; exact hce
    have hwarm := X'.warmed
    have key : vx_W p l e R s m args below meth c T'.heap (locs ++ L) (cells + mc) (slots + ms) Q (F0 m pc sl (rest.map (qVl ad b))) q := by
      have hq := q_hand (pc := pc) (k := k) hHd
      have toPass : ∀ z, qPass own pc k z → covers z pc = false ∨ (z.catchType ≠ 0 ∧ ∃ nm : String, (Cond.classLink own z.catchType nm).before args s = true ∧ va_Nc (qX k) nm s) := by
        intro z hz
        rcases hz with hz | ⟨hz0, e', he3, hek, hw⟩
        · exact Or.inl hz
        · exact Or.inr ⟨hz0, qX e', hts _ hw, hks.2.2.1 k e' hk3 he3 (Ne.symm hek)⟩
      cases hqh : qHand hs pc k with
      | none =>
        simp only [hqh] at h
        cases h
        exact hK ad' objs' _ _ sl _ _ pc _ q ce ls S' hce' hcv hcl hk3 (fun z hz => toPass z (hq.2 hqh z (by rw [← htab]; exact hz)))
      | some gj =>
        obtain ⟨g, j⟩ := gj
        simp only [hqh] at h
        cases qNx_s h
        obtain ⟨pre, x, suf, e3, hpre, hcov, hct, hlink, hast, h9, hh9, hj9⟩ := hq.1 g j hqh
        have hj : j < nL := by rw [← hj9]; exact hjs h9 hh9
        refine vx_catch hown pre x suf (by rw [htab]; exact e3) (fun z hz => toPass z (hpre z hz)) hcov hct (hts _ hlink) (hts _ (qLwB_in (qXc_ok k hk3) rfl)) hce' hcv hcl ?_
        have KK : ∀ sl', lv_has sl' nL ((j, Value.ref q) :: (qLv ad' b ls).filter (fun q => !(q.1 == j) && !(q.1 + 1 == j && q.2.category == 2))) → W p l e R s m args below meth c T'.heap (locs ++ L) (cells + mc) (slots + ms) Q (F0 m g sl' []) := fun sl' h' => hK ad' objs' _ _ sl' _ _ (S'.setH h' (fun v hv => (nomatch hv)))
        rcases hast with ⟨kk, hd1, hd2, rfl⟩ | ⟨hd1, rfl⟩
        · exact lv_astore_n hx hb hd1 hd2 S'.2.2.2.2.1.has hj rfl KK
        · exact lv_astore hx hb hd1 S'.2.2.2.2.1.has hj rfl KK
    obtain ⟨t2, a1, b1⟩ := key T' rfl X'
    exact ⟨t2, stp.trans a1, b1⟩
end QR
