/-! ===== locals, numbers, the state that the walk keeps ===== -/
/-- a value that stands in one local -/
def qLd (v : qV) : Bool := match v with
  | .inl _ => true
  | .inr (.inl _) => true
  | .inr (.inr (.inl _)) => false
  | .inr (.inr (.inr z)) => z
/-- a value that a local may hold -/
def qLc (v : qV) : Bool := match v with
  | .inl _ => true
  | .inr (.inl _) => true
  | .inr (.inr (.inl _)) => true
  | .inr (.inr (.inr z)) => z
theorem qLd_cat {ad : qA} {b : Nat} {v : qV} (h : qLd v = true) : (qVl ad b v).category = 1 := by
  match v, h with
  | .inl _, _ => rfl
  | .inr (.inl none), _ => rfl
  | .inr (.inl (some (_, _))), _ => rfl
  | .inr (.inr (.inr true)), _ => rfl
/-- the locals -/
def qLs (ad : qA) (b : Nat) (sl : Array Slot) (nL : Nat) (ls : List qV) : Prop := sl.size = nL ∧ lv_wf sl ∧ ls.length = nL ∧ ∀ (i : Nat) (v : qV), ls[i]? = some v → qLc v = true → sl[i]? = some (.val (qVl ad b v))
def qLv (ad : qA) (b : Nat) (ls : List qV) : List (Nat × Value) := (List.range ls.length).filterMap (fun i => (ls[i]?).bind (fun v => if qLc v = true then some (i, qVl ad b v) else none))
theorem qLv_mem {ad : qA} {b : Nat} {ls : List qV} {q : Nat × Value} : q ∈ qLv ad b ls ↔ ∃ v, ls[q.1]? = some v ∧ qLc v = true ∧ q.2 = qVl ad b v := by
  unfold qLv
  rw [List.mem_filterMap]
  constructor
  · rintro ⟨i, hi, h⟩
    cases hv : ls[i]? with
    | none => rw [hv] at h; simp at h
    | some v =>
      rw [hv] at h
      simp only [Option.bind_some] at h
      by_cases hd : qLc v = true
      · rw [if_pos hd] at h
        cases h
        exact ⟨v, hv, hd, rfl⟩
      · rw [if_neg hd] at h
        cases h
  · rintro ⟨v, h1, h2, h3⟩
    refine ⟨q.1, List.mem_range.mpr (List.getElem?_eq_some_iff.mp h1).1, ?_⟩
    rw [h1]
    simp only [Option.bind_some]
    rw [if_pos h2, ← h3]
theorem qLs.has {ad : qA} {b : Nat} {sl : Array Slot} {nL : Nat} {ls : List qV} (h : qLs ad b sl nL ls) : lv_has sl nL (qLv ad b ls) := by
  refine ⟨h.1, h.2.1, fun q hq => ?_⟩
  obtain ⟨v, h1, h2, h3⟩ := qLv_mem.mp hq
  rw [h3]
  exact h.2.2.2 _ _ h1 h2
theorem qKl_len {ls : List qV} {j : Nat} {v : qV} : (qKl ls j v).length = ls.length := by
  unfold qKl
  split
  · exact List.length_set
  · split <;> simp [List.length_set]
theorem qKl_self {ls : List qV} {j : Nat} {v : qV} (h : j < ls.length) : (qKl ls j v)[j]? = some v := by
  unfold qKl
  split
  · exact List.getElem?_set_self h
  · split
    · exact List.getElem?_set_self (by rw [List.length_set]; exact h)
    · exact List.getElem?_set_self h
theorem qKl_at {ls : List qV} {i j : Nat} {v u : qV} (hne : i ≠ j) (h : (qKl ls j v)[i]? = some u) (hu : qLc u = true) : ls[i]? = some u ∧ (i + 1 = j → qLg u = false) := by
  unfold qKl at h
  split at h
  · rw [List.getElem?_set_ne (Ne.symm hne)] at h
    exact ⟨h, fun q => by omega⟩
  · rename_i j'
    split at h
    · rename_i x hx
      rw [List.getElem?_set_ne (Ne.symm hne)] at h
      by_cases e : i = j'
      · subst e
        have hl : i < ls.length := (List.getElem?_eq_some_iff.mp hx).1
        rw [List.getElem?_set_self hl] at h
        cases h
        cases hu
      · rw [List.getElem?_set_ne (Ne.symm e)] at h
        exact ⟨h, fun q => by omega⟩
    · rename_i hx
      rw [List.getElem?_set_ne (Ne.symm hne)] at h
      refine ⟨h, fun q => ?_⟩
      have e : i = j' := by omega
      subst e
      cases hq : qLg u with
      | false => rfl
      | true =>
        exfalso
        match u, hq with
        | .inr (.inr (.inl x)), _ => exact hx x h
theorem qKl_mem {ls : List qV} {j : Nat} {v u : qV} (h : u ∈ qKl ls j v) : u ∈ ls ∨ u = v ∨ u = q_u := by
  unfold qKl at h
  split at h
  · rcases List.mem_or_eq_of_mem_set h with h | h
    · exact Or.inl h
    · exact Or.inr (Or.inl h)
  · split at h
    · rcases List.mem_or_eq_of_mem_set h with h | h
      · rcases List.mem_or_eq_of_mem_set h with h | h
        · exact Or.inl h
        · exact Or.inr (Or.inr h)
      · exact Or.inr (Or.inl h)
    · rcases List.mem_or_eq_of_mem_set h with h | h
      · exact Or.inl h
      · exact Or.inr (Or.inl h)
theorem qLd_c {v : qV} (h : qLd v = true) : qLc v = true := by
  match v, h with
  | .inl _, _ => rfl
  | .inr (.inl _), _ => rfl
  | .inr (.inr (.inr true)), _ => rfl
theorem qLg_cat {ad : qA} {b : Nat} {u : qV} (hu : qLc u = true) (h : qLg u = false) : (qVl ad b u).category = 1 := by
  match u, hu, h with
  | .inl _, _, _ => rfl
  | .inr (.inl none), _, _ => rfl
  | .inr (.inl (some (_, _))), _, _ => rfl
  | .inr (.inr (.inr true)), _, _ => rfl
/-- behind a store of w at j; v: what the small machine has there -/
theorem qLs.store {ad : qA} {b : Nat} {sl sl' : Array Slot} {nL : Nat} {ls : List qV} (h : qLs ad b sl nL ls) {j : Nat} {w : Value} {v : qV} (h' : lv_has sl' nL ((j, w) :: (qLv ad b ls).filter (fun q => !(q.1 == j) && !(q.1 + 1 == j && q.2.category == 2)))) (hw : qLc v = true → w = qVl ad b v) : qLs ad b sl' nL (qKl ls j v) := by
  refine ⟨h'.1, h'.2.1, by rw [qKl_len]; exact h.2.2.1, fun i u hi hu => ?_⟩
  by_cases e : i = j
  · subst e
    have hl : i < ls.length := by
      have := (List.getElem?_eq_some_iff.mp hi).1
      rwa [qKl_len] at this
    rw [qKl_self hl] at hi
    cases hi
    rw [← hw hu]
    exact h'.2.2 (i, w) List.mem_cons_self
  · obtain ⟨hi, hg⟩ := qKl_at e hi hu
    refine h'.2.2 (i, qVl ad b u) (List.mem_cons_of_mem _ (List.mem_filter.mpr ⟨qLv_mem.mpr ⟨u, hi, hu, rfl⟩, ?_⟩))
    by_cases e2 : i + 1 = j
    · have hc := qLg_cat (ad := ad) (b := b) hu (hg e2)
      simp [e, hc]
    · simp [e, e2]
theorem qLs.storeL {ad : qA} {b : Nat} {sl sl' : Array Slot} {nL : Nat} {ls : List qV} (h : qLs ad b sl nL ls) {j : Nat} {x : Int} (h' : lv_has sl' nL ((j, Value.long (Int64.ofInt x)) :: (qLv ad b ls).filter (fun q => !(q.1 == j) && (!(q.1 == j + 1) && !(q.1 + 1 == j && q.2.category == 2))))) : qLs ad b sl' nL ((qKl ls j (.inr (.inr (.inl x)))).set (j + 1) q_u) := by
  refine ⟨h'.1, h'.2.1, by rw [List.length_set, qKl_len]; exact h.2.2.1, fun i u hi hu => ?_⟩
  have e1 : i ≠ j + 1 := fun q => by
    subst q
    have hl := (List.getElem?_eq_some_iff.mp hi).1
    rw [List.length_set] at hl
    rw [List.getElem?_set_self hl] at hi
    cases hi
    cases hu
  rw [List.getElem?_set_ne (Ne.symm e1)] at hi
  by_cases e : i = j
  · subst e
    have hl : i < ls.length := by
      have := (List.getElem?_eq_some_iff.mp hi).1
      rwa [qKl_len] at this
    rw [qKl_self hl] at hi
    cases hi
    exact h'.2.2 (i, Value.long (Int64.ofInt x)) List.mem_cons_self
  · obtain ⟨hi, hg⟩ := qKl_at e hi hu
    refine h'.2.2 (i, qVl ad b u) (List.mem_cons_of_mem _ (List.mem_filter.mpr ⟨qLv_mem.mpr ⟨u, hi, hu, rfl⟩, ?_⟩))
    by_cases e2 : i + 1 = j
    · have hc := qLg_cat (ad := ad) (b := b) hu (hg e2)
      simp [e, e1, hc]
    · simp [e, e1, e2]
theorem qVl_ag {σ : qS} {ad ad' : qA} {b : Nat} (hA : qAg σ ad ad') {v : qV} (hv : qVo σ v) : qVl ad b v = qVl ad' b v := by
  match v, hv with
  | .inl _, _ => rfl
  | .inr (.inl none), _ => rfl
  | .inr (.inl (some (k, n))), hv => simp only [qVl]; rw [hA k n hv]
  | .inr (.inr (.inl _)), _ => rfl
  | .inr (.inr (.inr true)), _ => rfl
  | .inr (.inr (.inr false)), _ => rfl
theorem qVl_map_ag {σ : qS} {ad ad' : qA} {b : Nat} (hA : qAg σ ad ad') {st : List qV} (hs : ∀ v ∈ st, qVo σ v) : st.map (qVl ad b) = st.map (qVl ad' b) := List.map_congr_left fun v hv => qVl_ag hA (hs v hv)
theorem qLs.ag {σ : qS} {ad ad' : qA} {b : Nat} {sl : Array Slot} {nL : Nat} {ls : List qV} (h : qLs ad b sl nL ls) (hA : qAg σ ad ad') (hs : ∀ v ∈ ls, qVo σ v) : qLs ad' b sl nL ls :=
  ⟨h.1, h.2.1, h.2.2.1, fun i v hi hd => by rw [← qVl_ag hA (hs v (List.mem_of_getElem? hi))]; exact h.2.2.2 i v hi hd⟩
/-- more objects, more cells -/
def qLe (σ σ' : qS) : Prop := (∀ k, σ.1.1 k ≤ σ'.1.1 k) ∧ σ.1.2.2.1 ≤ σ'.1.2.2.1 ∧ σ.1.2.2.2.1 ≤ σ'.1.2.2.2.1
theorem qLe.rf {σ : qS} : qLe σ σ := ⟨fun _ => Int.le_refl _, Nat.le_refl _, Nat.le_refl _⟩
theorem qLe.tr {σ σ' σ'' : qS} (h : qLe σ σ') (h2 : qLe σ' σ'') : qLe σ σ'' := ⟨fun k => Int.le_trans (h.1 k) (h2.1 k), Nat.le_trans h.2.1 h2.2.1, Nat.le_trans h.2.2 h2.2.2⟩
theorem qVa.le {σ σ' : qS} (h : qLe σ σ') {k : Nat} {n : Int} (hv : qVa σ k n) : qVa σ' k n := ⟨hv.1, Int.lt_of_lt_of_le hv.2 (h.1 k)⟩
theorem qVo.le {σ σ' : qS} (h : qLe σ σ') {v : qV} (hv : qVo σ v) : qVo σ' v := by
  match v, hv with
  | .inl _, hv => exact hv
  | .inr (.inl none), _ => trivial
  | .inr (.inl (some (_, _))), hv => exact qVa.le h hv
  | .inr (.inr (.inl _)), hv => exact hv
  | .inr (.inr (.inr _)), _ => trivial
def qOs (o : qO) : qS := match o with
  | .inl x => x.2.2.2
  | .inr x => x.2
theorem qNx_s {pc : Nat} {ls st : List qV} {σ : qS} {o : qO} (h : qNx pc ls st σ = some o) : o = .inl (pc, ls, st, σ) := (Option.some.inj h).symm
theorem qChk_s {c : Prop} [Decidable c] {x : Option qO} {o : qO} (h : qChk c x = some o) : c ∧ x = some o := by
  unfold qChk at h
  split at h
  · exact ⟨by assumption, h⟩
  · cases h
theorem qNew_le {σ : qS} {k w : Nat} : qLe σ (qNew σ k w) := by
  refine ⟨fun a => ?_, Nat.le_succ _, Nat.le_add_right _ _⟩
  simp only [qNew, qUN]
  split
  · rename_i e; subst e; omega
  · exact Int.le_refl _
theorem qNews_le {σ : qS} {k w : Nat} : ∀ n, qLe σ (qNews σ k w n)
  | 0 => qLe.rf
  | n + 1 => (qNews_le n).tr qNew_le
theorem qSetRs_le {σ : qS} {k : Nat} {m : Int} : ∀ n, qLe σ (qSetRs σ k m n)
  | 0 => qLe.rf
  | n + 1 => (qSetRs_le n).tr qLe.rf
theorem qPut_le {T : qT} {c s k : Nat} {n : Int} {v : qV} {σ σ' : qS} (h : qPut T c s k n v σ = some σ') : qLe σ σ' := by
  unfold qPut at h
  split at h
  · split at h <;> (try split at h) <;> (try split at h) <;> first | (cases h; exact qLe.rf) | cases h
  · cases h
theorem qIf_s {cd : Jvm.ClassFile.Cond} {x y : Int} {t f : Nat} {ls st : List qV} {σ : qS} {o : qO} (h : qIf cd x y t f ls st σ = some o) : qOs o = σ := by
  unfold qIf qBr at h
  split at h <;> split at h <;> (cases qNx_s h; rfl)
theorem qBr_s {c : Prop} [Decidable c] {t f : Nat} {ls st : List qV} {σ : qS} {o : qO} (h : qBr c t f ls st σ = some o) : qOs o = σ := by
  unfold qBr at h
  split at h <;> (cases qNx_s h; rfl)
theorem qSto_s {ls : List qV} {j pc : Nat} {v : qV} {st : List qV} {σ : qS} {o : qO} (h : qSto ls j pc v st σ = some o) : j < ls.length ∧ o = .inl (pc, qKl ls j v, st, σ) := by
  obtain ⟨h1, h2⟩ := qChk_s h
  exact ⟨h1, qNx_s h2⟩
theorem qLdI_s {ls : List qV} {j pc : Nat} {st : List qV} {σ : qS} {o : qO} (h : qLdI ls j pc st σ = some o) : ∃ x, ls[j]? = some (.inl x) ∧ o = .inl (pc, ls, .inl x :: st, σ) := by
  unfold qLdI at h
  split at h
  · rename_i x hx
    exact ⟨x, hx, qNx_s h⟩
  · cases h
theorem qLdL_s {ls : List qV} {j pc : Nat} {st : List qV} {σ : qS} {o : qO} (h : qLdL ls j pc st σ = some o) : ∃ x, ls[j]? = some (.inr (.inr (.inl x))) ∧ o = .inl (pc, ls, .inr (.inr (.inl x)) :: st, σ) := by
  unfold qLdL at h
  split at h
  · rename_i x hx
    exact ⟨x, hx, qNx_s h⟩
  · cases h
theorem qStoL_s {ls : List qV} {j pc : Nat} {x : Int} {st : List qV} {σ : qS} {o : qO} (h : qStoL ls j pc x st σ = some o) : j + 1 < ls.length ∧ o = .inl (pc, (qKl ls j (.inr (.inr (.inl x)))).set (j + 1) q_u, st, σ) := by
  obtain ⟨h1, h2⟩ := qChk_s h
  exact ⟨h1, qNx_s h2⟩
theorem qLdA_s {ls : List qV} {j pc : Nat} {st : List qV} {σ : qS} {o : qO} (h : qLdA ls j pc st σ = some o) : ∃ v, ls[j]? = some v ∧ qLd v = true ∧ (v = .inr (.inr (.inr true)) ∨ ∃ r, v = .inr (.inl r)) ∧ o = .inl (pc, ls, v :: st, σ) := by
  unfold qLdA at h
  split at h
  · rename_i r hr
    exact ⟨_, hr, rfl, Or.inr ⟨r, rfl⟩, qNx_s h⟩
  · rename_i hr
    exact ⟨_, hr, rfl, Or.inl rfl, qNx_s h⟩
  · cases h
/-- a call of the kind that the small machine knows: nothing is lost -/
def qClLe (call : qCl) : Prop := ∀ (m : Nat) (as : List qV) (σ : qS) (r : qR) (σ' : qS), call m as σ = some (r, σ') → qLe σ σ'
theorem qInv_le {T : qT} {call : qCl} (hc : qClLe call) {hs : List qHd} {pc n a b c : Nat} {ls st : List qV} {σ : qS} {o : qO} (h : qInv T call hs pc n a b c ls st σ = some o) : qLe σ (qOs o) := by
  unfold qInv at h
  cases hb : (Nat.ble b st.length && Nat.ble (qCat (st.drop b)) 8 && (st.take b).all qAr && qIsB T c (st.take b).reverse) with
  | false => rw [hb] at h; cases h
  | true =>
    rw [hb] at h
    simp only [cond_true] at h
    split at h
    · cases h
    · rename_i σ1 hr
      cases qNx_s h
      exact hc _ _ _ _ _ hr
    · rename_i v σ1 hr
      cases qNx_s h
      exact hc _ _ _ _ _ hr
    · rename_i k σ1 hr
      split at h
      · cases h
        exact hc _ _ _ _ _ hr
      · cases qNx_s h
        exact hc _ _ _ _ _ hr
theorem qEx_le {T : qT} {call : qCl} (hc : qClLe call) {sc : Int × (Int → Int)} {hs : List qHd} {rt pc : Nat} {i : Instr} {n a b c : Nat} {ls st : List qV} {σ : qS} {o : qO} (h : qEx T call sc hs rt pc i n a b c ls st σ = some o) : qLe σ (qOs o) := by
  cases i
  all_goals simp only [qEx] at h
  all_goals (first
    | (cases h; done)
    | (cases qNx_s h; exact qLe.rf)
    | (obtain ⟨x, -, rfl⟩ := qLdI_s h; exact qLe.rf)
    | (obtain ⟨x, -, rfl⟩ := qLdL_s h; exact qLe.rf)
    | (obtain ⟨x, -, -, -, rfl⟩ := qLdA_s h; exact qLe.rf)
    | exact qInv_le hc h
    | skip)
  all_goals repeat' split at h
  all_goals (first
    | (cases h; done)
    | (cases qNx_s h; exact qLe.rf)
    | (obtain ⟨-, rfl⟩ := qSto_s h; exact qLe.rf)
    | (obtain ⟨-, rfl⟩ := qStoL_s h; exact qLe.rf)
    | (obtain ⟨-, h⟩ := qChk_s h; cases qNx_s h; exact qLe.rf)
    | (obtain ⟨-, h⟩ := qChk_s h; obtain ⟨-, rfl⟩ := qSto_s h; exact qLe.rf)
    | (rw [qIf_s h]; exact qLe.rf)
    | (rw [qBr_s h]; exact qLe.rf)
    | (rename_i hp; cases qNx_s h; exact qPut_le hp)
    | (obtain ⟨-, h⟩ := qChk_s h; cases qNx_s h; exact qNew_le)
    | (obtain ⟨-, h⟩ := qChk_s h; cases qNx_s h; exact qNew_le.tr ((qNews_le _).tr (qSetRs_le _)))
    | (obtain ⟨-, h⟩ := qChk_s h; cases h; exact qLe.rf)
    | (cases h; exact ⟨fun _ => Int.le_refl _, Nat.le_add_right _ _, Nat.le_add_right _ _⟩)
    | (cases hb : c.beq 7 with
      | true => (rw [hb] at h; simp only [cond_true] at h; first | (obtain ⟨-, h⟩ := qChk_s h; cases qNx_s h; exact qLe.rf) | (cases h; done))
      | false => (rw [hb] at h; simp only [cond_false] at h; exact qInv_le hc h))
    | (cases hb : c.beq 6 with
      | true => (rw [hb] at h; simp only [cond_true] at h; first | (obtain ⟨-, h⟩ := qChk_s h; cases qNx_s h; exact qLe.rf) | (cases h; done))
      | false => (rw [hb] at h; simp only [cond_false] at h; exact qInv_le hc h))
    | (cases hb : rt.beq 1 with
      | true => (rw [hb] at h; simp only [cond_true] at h; cases h; exact qLe.rf)
      | false => (rw [hb] at h; simp only [cond_false] at h; obtain ⟨-, h⟩ := qChk_s h; cases h; exact qLe.rf)))

theorem qRun_le {T : qT} {call : qCl} (hc : qClLe call) {sc : Int × (Int → Int)} {C : qCd} : ∀ {N pc : Nat} {ls st : List qV} {σ : qS} {r : qR × qS}, qRun T call sc C N pc ls st σ = some r → qLe σ r.2
  | 0, _, _, _, _, _, h => by cases h
  | N + 1, pc, ls, st, σ, r, h => by
    unfold qRun at h
    split at h
    · cases h
    · rename_i r' hs
      cases h
      unfold qStep at hs
      split at hs
      · cases hs
      · exact qEx_le hc hs
    · rename_i pc' ls' st' σ' hs
      have h1 := qRun_le hc h
      unfold qStep at hs
      split at hs
      · cases hs
      · exact (qEx_le hc hs).tr h1
theorem qCall_le {T : qT} {P : Nat → qCd} : ∀ (d N : Nat), qClLe (qCall T P d N)
  | 0, N => fun m as σ r σ' h => by cases h
  | d + 1, N => fun m as σ r σ' h => by
    unfold qCall at h
    cases hb : Nat.ble (qFl as).length (P m).2.2.2 with
    | false => rw [hb] at h; cases h
    | true =>
      rw [hb] at h
      exact qRun_le (r := (r, σ')) (qCall_le d N) h
