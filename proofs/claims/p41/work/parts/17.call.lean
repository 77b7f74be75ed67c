/-! ===== calls ===== -/
def qRm (d mc ms : Nat) : Room := { frames := d + 6, cells := mc, slots := ms, locals := 60 * d + 100 }
def qBf (D : va_G) (cA : Nat → ClassId) (ad : qA) (objs : List (Nat × Int)) (σ : qS) (sz : Nat) (U : State) : Prop :=
  U.heap.size = sz ∧ va_P D qCls (qWs qT0 cA ad σ objs) U.heap ∧ va_D (fun _ => True) (qWs qT0 cA ad σ objs) ∧ qKs D cA U ∧ qZs (va_A (qWs qT0 cA ad σ objs) sz) U U.heap
/-- behind a run that began with ad, objs, σ at a heap of size sz -/
def qAf (D : va_G) (cA : Nat → ClassId) (ad : qA) (objs : List (Nat × Int)) (σ : qS) (sz : Nat) (ad' : qA) (objs' : List (Nat × Int)) (σ' : qS) (t : State) : Prop :=
  qOK qT0 σ' objs' ∧ va_P D qCls (qWs qT0 cA ad' σ' objs') t.heap ∧ va_D (va_A (qWs qT0 cA ad σ objs) sz) (qWs qT0 cA ad' σ' objs') ∧ qAg σ ad ad'
def qQc (D : va_G) (cA : Nat → ClassId) (ad : qA) (objs : List (Nat × Int)) (σ : qS) (sz : Nat) (r : qR) (σ' : qS) : Array Value → State → Outcome → State → Prop := fun _ st oc t =>
  (∃ (v : Option qV) (ad' : qA) (objs' : List (Nat × Int)), r = .inl v ∧ oc = .returned (v.map (qVl ad' 0)) ∧ (∀ w, v = some w → qAr w = true ∧ qVo σ' w) ∧ qAf D cA ad objs σ sz ad' objs' σ' t) ∧ va_F (va_A (qWs qT0 cA ad σ objs) sz) st t
def qXC (D : va_G) (cA : Nat → ClassId) (ad : qA) (objs : List (Nat × Int)) (σ : qS) (sz : Nat) (r : qR) (σ' : qS) : String → State → State → Prop := fun E st t =>
  (∃ (k : Nat) (ad' : qA) (objs' : List (Nat × Int)), r = .inr k ∧ k < 3 ∧ E = qX k ∧ qAf D cA ad objs σ sz ad' objs' σ' t) ∧ va_F (va_A (qWs qT0 cA ad σ objs) sz) st t
/-- what a call of the small machine says of the machine's -/
def qMetOK (l : Launch) (d m : Nat) (as : List qV) (σ : qS) (r : qR) (σ' : qS) : Prop :=
  ∀ (D : va_G) (cA : Nat → ClassId) (ad : qA) (objs : List (Nat × Int)) (sz mc ms : Nat), qOK qT0 σ objs → (∀ v ∈ as, qVo σ v) → as.all qAr = true → σ'.1.2.2.1 = σ.1.2.2.1 + mc → σ'.1.2.2.2.1 = σ.1.2.2.2.1 + ms →
    vx_Met l (qMe m).1 (qCw (qMe m) :: qW) (qRm d mc ms) (va_Pc (as.map (qVl ad 0)) (qBf D cA ad objs σ sz)) (qQc D cA ad objs σ sz r σ') (qXC D cA ad objs σ sz r σ') mc ms (va_A (qWs qT0 cA ad σ objs) sz)
theorem qVl_b {ad : qA} {b : Nat} {v : qV} (h : qAr v = true) : qVl ad 0 v = qVl ad b v := by
  match v, h with
  | .inl _, _ => rfl
  | .inr (.inl none), _ => rfl
  | .inr (.inl (some (_, _))), _ => rfl
  | .inr (.inr (.inl _)), _ => rfl
theorem qVl_bs {ad : qA} {b : Nat} {as : List qV} (h : as.all qAr = true) : as.map (qVl ad 0) = as.map (qVl ad b) := List.map_congr_left fun v hv => qVl_b (List.all_eq_true.mp h v hv)
theorem qZs.moved {A : Nat → Prop} {u U : State} {H : Heap} (hW : u.WarmedH U.vm) (h : qZs A u H) : qZs A U H := ⟨vx_Zq.moved hW.alike h.1, vx_Zq.moved hW.alike h.2⟩
theorem qBf_blind {D : va_G} {cA : Nat → ClassId} {ad : qA} {objs : List (Nat × Int)} {σ : qS} {sz : Nat} {av : List Value} : FrameBlind (va_Pc av (qBf D cA ad objs σ sz)) := by
  intro a U g mk h
  obtain ⟨h1, h2, h3, h4, h5, h6⟩ := h
  have hW : U.WarmedH (U.calling g mk a).vm := State.WarmedH.refl U
  exact ⟨h1, h2, h3, h4, qKs.warm hW h5, qZs.moved hW h6⟩
/-! handlers -/
theorem q_anyCl {own : String} {ct : Nat} {n : String} (h : qExc.any (fun w => match w with | .classLink o x2 n' => Nat.beq x2 ct && decide (o = own) && decide (n' = n) | _ => false) = true) : Cond.classLink own ct n ∈ qW := by
  obtain ⟨w, hw, h⟩ := List.any_eq_true.mp h
  split at h
  · simp only [Bool.and_eq_true, Nat.beq_eq, decide_eq_true_eq] at h
    obtain ⟨⟨rfl, rfl⟩, rfl⟩ := h
    exact qExcB_in qExc_ok _ hw
  · cases h
def qPass (own : String) (pc k : Nat) (z : ExceptionTableEntry) : Prop := covers z pc = false ∨ (z.catchType ≠ 0 ∧ ∃ e, e < 3 ∧ e ≠ k ∧ Cond.classLink own z.catchType (qX e) ∈ qW)
theorem q_hand {own : String} {cc : ByteArray} {pc k : Nat} : ∀ {hs : List qHd} {hh : List (Nat × Nat × Nat × Nat)}, qHdB own cc hs hh = true →
    (∀ g j, qHand hs pc k = some (g, j) → ∃ pre x suf, tableOf hh = pre ++ x :: suf ∧ (∀ z ∈ pre, qPass own pc k z) ∧ covers x pc = true ∧ x.catchType ≠ 0 ∧ Cond.classLink own x.catchType (qX k) ∈ qW ∧ ((∃ kk : Fin 4, decode cc x.handlerPc = .ok (.astore_n kk, 1) ∧ kk.val = j ∧ g = x.handlerPc + 1) ∨ (decode cc x.handlerPc = .ok (.astore j, 2) ∧ g = x.handlerPc + 2)) ∧ ∃ h ∈ hs, h.2.2.2.2 = j) ∧
    (qHand hs pc k = none → ∀ z ∈ tableOf hh, qPass own pc k z)
  | [], [], _ => ⟨fun g j h => (nomatch h), fun _ z hz => (nomatch hz)⟩
  | [], _ :: _, h => by cases h
  | _ :: _, [], h => by cases h
  | (f, t, e, g0, j0) :: l, (f2, t2, h0, ct) :: l2, h => by
    simp only [qHdB, Bool.and_eq_true, Nat.beq_eq, Nat.blt_eq, Bool.not_eq_true'] at h
    obtain ⟨⟨⟨⟨⟨⟨rfl, rfl⟩, he⟩, hct⟩, hcl⟩, hst⟩, hrest⟩ := h
    have hct0 : ct ≠ 0 := fun q => by subst q; cases hct
    have hw := q_anyCl hcl
    have ih := q_hand (pc := pc) (k := k) hrest
    have hcov : covers ⟨f, t, h0, ct⟩ pc = (Nat.ble f pc && Nat.blt pc t) := by
      show (decide (f ≤ pc) && decide (pc < t)) = _
      congr 1
      · cases hb : Nat.ble f pc with
        | true => exact decide_eq_true (Nat.le_of_ble_eq_true hb)
        | false => exact decide_eq_false (fun q => by rw [Nat.ble_eq_true_of_le q] at hb; cases hb)
      · cases hb : Nat.blt pc t with
        | true => exact decide_eq_true (by simpa using hb)
        | false => exact decide_eq_false (fun q => by have : Nat.blt pc t = true := by simpa using q
                                                      rw [this] at hb; cases hb)
    have hst' : (∃ kk : Fin 4, decode cc h0 = .ok (.astore_n kk, 1) ∧ kk.val = j0 ∧ g0 = h0 + 1) ∨ (decode cc h0 = .ok (.astore j0, 2) ∧ g0 = h0 + 2) := by
      simp only [Bool.or_eq_true, Bool.and_eq_true, Nat.beq_eq, Nat.blt_eq, decide_eq_true_eq] at hst
      rcases hst with ⟨⟨h1, h2⟩, h3⟩ | ⟨h2, h3⟩
      · exact Or.inl ⟨_, h2, Nat.mod_eq_of_lt h1, h3⟩
      · exact Or.inr ⟨h2, h3⟩
    cases hb : (Nat.ble f pc && Nat.blt pc t) && Nat.beq e k with
    | true =>
      have hb2 : (Nat.ble f pc && Nat.blt pc t) = true ∧ Nat.beq e k = true := by simpa using hb
      have hek : e = k := Nat.eq_of_beq_eq_true hb2.2
      subst hek
      refine ⟨fun g j hq => ?_, fun hq => ?_⟩
      · unfold qHand at hq
        rw [hb] at hq
        simp only [cond_true] at hq
        cases hq
        exact ⟨[], ⟨f, t, h0, ct⟩, tableOf l2, rfl, fun z hz => (nomatch hz), by rw [hcov]; exact hb2.1, hct0, hw, hst', _, List.mem_cons_self, rfl⟩
      · unfold qHand at hq
        rw [hb] at hq
        cases hq
    | false =>
      have hp : qPass own pc k ⟨f, t, h0, ct⟩ := by
        cases h1 : (Nat.ble f pc && Nat.blt pc t) with
        | false => exact Or.inl (by rw [hcov]; exact h1)
        | true =>
          rw [h1] at hb
          refine Or.inr ⟨hct0, e, he, fun q => ?_, hw⟩
          subst q
          simp at hb
      refine ⟨fun g j hq => ?_, fun hq z hz => ?_⟩
      · unfold qHand at hq
        rw [hb] at hq
        simp only [cond_false] at hq
        obtain ⟨pre, x, suf, e1, e2, e3, e4, e5, e6, h9, h10, h11⟩ := ih.1 g j hq
        refine ⟨⟨f, t, h0, ct⟩ :: pre, x, suf, ?_, fun z hz => ?_, e3, e4, e5, e6, h9, List.mem_cons_of_mem _ h10, h11⟩
        · show _ :: tableOf l2 = _
          rw [e1]; rfl
        · rcases List.mem_cons.mp hz with rfl | hz
          · exact hp
          · exact e2 z hz
      · unfold qHand at hq
        rw [hb] at hq
        simp only [cond_false] at hq
        rcases List.mem_cons.mp hz with rfl | hz
        · exact hp
        · exact ih.2 hq z hz
