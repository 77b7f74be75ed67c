/-! ===== locals, numbers, the state that the walk keeps ===== -/
/-- a value that stands in one local -/
def qLd (v : qV) : Bool := match v with
  | .inl _ => true
  | .inr (.inl _) => true
  | .inr (.inr (.inl _)) => false
  | .inr (.inr (.inr z)) => z
theorem qLd_cat {ad : qA} {b : Nat} {v : qV} (h : qLd v = true) : (qVl ad b v).category = 1 := by
  match v, h with
  | .inl _, _ => rfl
  | .inr (.inl none), _ => rfl
  | .inr (.inl (some (_, _))), _ => rfl
  | .inr (.inr (.inr true)), _ => rfl
/-- what the small machine says of local i -/
def qLk (ls : List qV) (i : Nat) (v : qV) : Bool := qLd v || (qLg v && (match ls[i + 1]? with
  | some (.inr (.inr (.inr false))) => true
  | _ => false))
/-- the locals -/
def qLs (ad : qA) (b : Nat) (sl : Array Slot) (nL : Nat) (ls : List qV) : Prop := sl.size = nL ∧ lv_wf sl ∧ ls.length = nL ∧ ∀ (i : Nat) (v : qV), ls[i]? = some v → qLk ls i v = true → sl[i]? = some (.val (qVl ad b v))
def qLv (ad : qA) (b : Nat) (ls : List qV) : List (Nat × Value) := (List.range ls.length).filterMap (fun i => (ls[i]?).bind (fun v => if qLk ls i v = true then some (i, qVl ad b v) else none))
theorem qLv_mem {ad : qA} {b : Nat} {ls : List qV} {q : Nat × Value} : q ∈ qLv ad b ls ↔ ∃ v, ls[q.1]? = some v ∧ qLk ls q.1 v = true ∧ q.2 = qVl ad b v := by
  unfold qLv
  rw [List.mem_filterMap]
  constructor
  · rintro ⟨i, hi, h⟩
    cases hv : ls[i]? with
    | none => rw [hv] at h; simp at h
    | some v =>
      rw [hv] at h
      simp only [Option.bind_some] at h
      by_cases hd : qLk ls i v = true
      · rw [if_pos hd] at h
        cases h
        exact ⟨v, hv, hd, rfl⟩
      · rw [if_neg hd] at h
        cases h
  · rintro ⟨v, h1, h2, h3⟩
    refine ⟨q.1, List.mem_range.mpr (List.getElem?_eq_some_iff.mp h1).1, ?_⟩
    rw [h1]
    simp only [Option.bind_some]
    rw [if_pos h2, ← h3]
theorem qLs.has {ad : qA} {b : Nat} {sl : Array Slot} {nL : Nat} {ls : List qV} (h : qLs ad b sl nL ls) : lv_has sl nL (qLv ad b ls) := by
  refine ⟨h.1, h.2.1, fun q hq => ?_⟩
  obtain ⟨v, h1, h2, h3⟩ := qLv_mem.mp hq
  rw [h3]
  exact h.2.2.2 _ _ h1 h2
theorem qLk_d {ls : List qV} {i : Nat} {v : qV} (h : qLd v = true) : qLk ls i v = true := by
  unfold qLk
  rw [h]; rfl
theorem qLk_cases {ls : List qV} {i : Nat} {v : qV} (h : qLk ls i v = true) : qLd v = true ∨ (∃ x, v = .inr (.inr (.inl x))) ∧ ls[i + 1]? = some q_u := by
  unfold qLk at h
  simp only [Bool.or_eq_true, Bool.and_eq_true] at h
  rcases h with h | ⟨h1, h2⟩
  · exact Or.inl h
  · refine Or.inr ⟨?_, ?_⟩
    · match v, h1 with
      | .inr (.inr (.inl x)), _ => exact ⟨x, rfl⟩
    · split at h2
      · rename_i he; exact he
      · cases h2
theorem qLk_l {ls : List qV} {i : Nat} {x : Int} (h : ls[i + 1]? = some q_u) : qLk ls i (.inr (.inr (.inl x))) = true := by
  unfold qLk
  rw [h]; rfl
/-- behind a store of w at j; v: what the small machine has there -/
theorem qLs.store {ad : qA} {b : Nat} {sl sl' : Array Slot} {nL : Nat} {ls : List qV} (h : qLs ad b sl nL ls) {j : Nat} {w : Value} {v : qV} (h' : lv_has sl' nL ((j, w) :: (qLv ad b ls).filter (fun q => !(q.1 == j) && !(q.1 + 1 == j && q.2.category == 2)))) (hv : qLd v = true) (hw : w = qVl ad b v) : qLs ad b sl' nL (ls.set j v) := by
  refine ⟨h'.1, h'.2.1, by rw [List.length_set]; exact h.2.2.1, fun i u hi hu => ?_⟩
  by_cases e : i = j
  · subst e
    have hl : i < ls.length := by
      have := (List.getElem?_eq_some_iff.mp hi).1
      rwa [List.length_set] at this
    rw [List.getElem?_set_self hl] at hi
    cases hi
    rw [← hw]
    exact h'.2.2 (i, w) List.mem_cons_self
  · rw [List.getElem?_set_ne (Ne.symm e)] at hi
    rcases qLk_cases hu with hu | ⟨⟨x, rfl⟩, hn⟩
    · refine h'.2.2 (i, qVl ad b u) (List.mem_cons_of_mem _ (List.mem_filter.mpr ⟨qLv_mem.mpr ⟨u, hi, qLk_d hu, rfl⟩, ?_⟩))
      have hc := qLd_cat (ad := ad) (b := b) hu
      simp [e, hc]
    · have e2 : i + 1 ≠ j := fun q => by
        subst q
        have hl : i + 1 < ls.length := by
          have := (List.getElem?_eq_some_iff.mp hn).1
          rwa [List.length_set] at this
        rw [List.getElem?_set_self hl] at hn
        cases hn
        cases hv
      rw [List.getElem?_set_ne (Ne.symm e2)] at hn
      refine h'.2.2 (i, qVl ad b (.inr (.inr (.inl x)))) (List.mem_cons_of_mem _ (List.mem_filter.mpr ⟨qLv_mem.mpr ⟨_, hi, qLk_l hn, rfl⟩, ?_⟩))
      simp [e, e2]
theorem qKl_len {ls : List qV} {j : Nat} {v : qV} : (qKl ls j v).length = ls.length := by
  unfold qKl
  cases ls.any qLg <;> simp [List.length_set]
/-- behind a handler's store -/
theorem qLs.storeH {ad : qA} {b : Nat} {sl sl' : Array Slot} {nL : Nat} {ls : List qV} (h : qLs ad b sl nL ls) {j : Nat} {w : Value} (h' : lv_has sl' nL ((j, w) :: (qLv ad b ls).filter (fun q => !(q.1 == j) && !(q.1 + 1 == j && q.2.category == 2)))) : qLs ad b sl' nL (qKl ls j q_u) := by
  refine ⟨h'.1, h'.2.1, by rw [qKl_len]; exact h.2.2.1, fun i u hi hu => ?_⟩
  unfold qKl at hi hu
  cases ha : ls.any qLg with
  | true =>
    rw [ha] at hi
    simp only [cond_true] at hi
    have := List.eq_of_mem_replicate (List.mem_of_getElem? hi)
    subst this
    rcases qLk_cases hu with hu | ⟨⟨x, hx⟩, -⟩
    · cases hu
    · cases hx
  | false =>
    rw [ha] at hi hu
    simp only [cond_false] at hi hu
    by_cases e : i = j
    · subst e
      have hl : i < ls.length := by
        have := (List.getElem?_eq_some_iff.mp hi).1
        rwa [List.length_set] at this
      rw [List.getElem?_set_self hl] at hi
      cases hi
      rcases qLk_cases hu with hu | ⟨⟨x, hx⟩, -⟩
      · cases hu
      · cases hx
    · rw [List.getElem?_set_ne (Ne.symm e)] at hi
      rcases qLk_cases hu with hu | ⟨⟨x, rfl⟩, hn⟩
      · refine h'.2.2 (i, qVl ad b u) (List.mem_cons_of_mem _ (List.mem_filter.mpr ⟨qLv_mem.mpr ⟨u, hi, qLk_d hu, rfl⟩, ?_⟩))
        have hc := qLd_cat (ad := ad) (b := b) hu
        simp [e, hc]
      · exfalso
        have := List.any_eq_false.mp ha _ (List.mem_of_getElem? hi)
        exact this rfl
theorem qLs.storeL {ad : qA} {b : Nat} {sl sl' : Array Slot} {nL : Nat} {ls : List qV} (h : qLs ad b sl nL ls) {j : Nat} {x : Int} (h' : lv_has sl' nL ((j, Value.long (Int64.ofInt x)) :: (qLv ad b ls).filter (fun q => !(q.1 == j) && (!(q.1 == j + 1) && !(q.1 + 1 == j && q.2.category == 2))))) : qLs ad b sl' nL ((ls.set j (.inr (.inr (.inl x)))).set (j + 1) q_u) := by
  refine ⟨h'.1, h'.2.1, by rw [List.length_set, List.length_set]; exact h.2.2.1, fun i u hi hu => ?_⟩
  have e1 : i ≠ j + 1 := fun q => by
    subst q
    have hl := (List.getElem?_eq_some_iff.mp hi).1
    rw [List.length_set] at hl
    rw [List.getElem?_set_self hl] at hi
    cases hi
    rcases qLk_cases hu with hu | ⟨⟨x, hx⟩, -⟩
    · cases hu
    · cases hx
  rw [List.getElem?_set_ne (Ne.symm e1)] at hi
  by_cases e : i = j
  · subst e
    have hl : i < ls.length := by
      have := (List.getElem?_eq_some_iff.mp hi).1
      rwa [List.length_set] at this
    rw [List.getElem?_set_self hl] at hi
    cases hi
    exact h'.2.2 (i, Value.long (Int64.ofInt x)) List.mem_cons_self
  · rw [List.getElem?_set_ne (Ne.symm e)] at hi
    rcases qLk_cases hu with hu | ⟨⟨y, rfl⟩, hn⟩
    · refine h'.2.2 (i, qVl ad b u) (List.mem_cons_of_mem _ (List.mem_filter.mpr ⟨qLv_mem.mpr ⟨u, hi, qLk_d hu, rfl⟩, ?_⟩))
      have hc := qLd_cat (ad := ad) (b := b) hu
      simp [e, e1, hc]
    · rw [List.getElem?_set_ne (by omega)] at hn
      have e2 : i + 1 ≠ j := fun q => by
        subst q
        have hl : i + 1 < ls.length := by
          have := (List.getElem?_eq_some_iff.mp hn).1
          rwa [List.length_set] at this
        rw [List.getElem?_set_self hl] at hn
        cases hn
      rw [List.getElem?_set_ne (Ne.symm e2)] at hn
      refine h'.2.2 (i, qVl ad b (.inr (.inr (.inl y)))) (List.mem_cons_of_mem _ (List.mem_filter.mpr ⟨qLv_mem.mpr ⟨_, hi, qLk_l hn, rfl⟩, ?_⟩))
      simp [e, e1, e2]
theorem qVl_ag {σ : qS} {ad ad' : qA} {b : Nat} (hA : qAg σ ad ad') {v : qV} (hv : qVo σ v) : qVl ad b v = qVl ad' b v := by
  match v, hv with
  | .inl _, _ => rfl
  | .inr (.inl none), _ => rfl
  | .inr (.inl (some (k, n))), hv => simp only [qVl]; rw [hA k n hv]
  | .inr (.inr (.inl _)), _ => rfl
  | .inr (.inr (.inr true)), _ => rfl
  | .inr (.inr (.inr false)), _ => rfl
theorem qVl_map_ag {σ : qS} {ad ad' : qA} {b : Nat} (hA : qAg σ ad ad') {st : List qV} (hs : ∀ v ∈ st, qVo σ v) : st.map (qVl ad b) = st.map (qVl ad' b) := List.map_congr_left fun v hv => qVl_ag hA (hs v hv)
theorem qLs.ag {σ : qS} {ad ad' : qA} {b : Nat} {sl : Array Slot} {nL : Nat} {ls : List qV} (h : qLs ad b sl nL ls) (hA : qAg σ ad ad') (hs : ∀ v ∈ ls, qVo σ v) : qLs ad' b sl nL ls :=
  ⟨h.1, h.2.1, h.2.2.1, fun i v hi hd => by rw [← qVl_ag hA (hs v (List.mem_of_getElem? hi))]; exact h.2.2.2 i v hi hd⟩
/-- more objects, more cells -/
def qLe (σ σ' : qS) : Prop := (∀ k, σ.1.1 k ≤ σ'.1.1 k) ∧ σ.1.2.2.1 ≤ σ'.1.2.2.1 ∧ σ.1.2.2.2.1 ≤ σ'.1.2.2.2.1
theorem qLe.rf {σ : qS} : qLe σ σ := ⟨fun _ => Int.le_refl _, Nat.le_refl _, Nat.le_refl _⟩
theorem qLe.tr {σ σ' σ'' : qS} (h : qLe σ σ') (h2 : qLe σ' σ'') : qLe σ σ'' := ⟨fun k => Int.le_trans (h.1 k) (h2.1 k), Nat.le_trans h.2.1 h2.2.1, Nat.le_trans h.2.2 h2.2.2⟩
theorem qVa.le {σ σ' : qS} (h : qLe σ σ') {k : Nat} {n : Int} (hv : qVa σ k n) : qVa σ' k n := ⟨hv.1, Int.lt_of_lt_of_le hv.2 (h.1 k)⟩
theorem qVo.le {σ σ' : qS} (h : qLe σ σ') {v : qV} (hv : qVo σ v) : qVo σ' v := by
  match v, hv with
  | .inl _, hv => exact hv
  | .inr (.inl none), _ => trivial
  | .inr (.inl (some (_, _))), hv => exact qVa.le h hv
  | .inr (.inr (.inl _)), hv => exact hv
  | .inr (.inr (.inr _)), _ => trivial
def qOs (o : qO) : qS := match o with
  | .inl x => x.2.2.2
  | .inr x => x.2
theorem qNx_s {pc : Nat} {ls st : List qV} {σ : qS} {o : qO} (h : qNx pc ls st σ = some o) : o = .inl (pc, ls, st, σ) := (Option.some.inj h).symm
theorem qChk_s {c : Prop} [Decidable c] {x : Option qO} {o : qO} (h : qChk c x = some o) : c ∧ x = some o := by
  unfold qChk at h
  split at h
  · exact ⟨by assumption, h⟩
  · cases h
theorem qNew_le {σ : qS} {k w : Nat} : qLe σ (qNew σ k w) := by
  refine ⟨fun a => ?_, Nat.le_succ _, Nat.le_add_right _ _⟩
  simp only [qNew, qUN]
  split
  · rename_i e; subst e; omega
  · exact Int.le_refl _
theorem qNews_le {σ : qS} {k w : Nat} : ∀ n, qLe σ (qNews σ k w n)
  | 0 => qLe.rf
  | n + 1 => (qNews_le n).tr qNew_le
theorem qSetRs_le {σ : qS} {k : Nat} {m : Int} : ∀ n, qLe σ (qSetRs σ k m n)
  | 0 => qLe.rf
  | n + 1 => (qSetRs_le n).tr qLe.rf
theorem qPut_le {T : qT} {c s k : Nat} {n : Int} {v : qV} {σ σ' : qS} (h : qPut T c s k n v σ = some σ') : qLe σ σ' := by
  unfold qPut at h
  split at h
  · split at h <;> (try split at h) <;> (try split at h) <;> first | (cases h; exact qLe.rf) | cases h
  · cases h
theorem qIf_s {cd : Jvm.ClassFile.Cond} {x y : Int} {t f : Nat} {ls st : List qV} {σ : qS} {o : qO} (h : qIf cd x y t f ls st σ = some o) : qOs o = σ := by
  unfold qIf qBr at h
  split at h <;> split at h <;> (cases qNx_s h; rfl)
theorem qBr_s {c : Prop} [Decidable c] {t f : Nat} {ls st : List qV} {σ : qS} {o : qO} (h : qBr c t f ls st σ = some o) : qOs o = σ := by
  unfold qBr at h
  split at h <;> (cases qNx_s h; rfl)
theorem qSto_s {ls : List qV} {j pc : Nat} {v : qV} {st : List qV} {σ : qS} {o : qO} (h : qSto ls j pc v st σ = some o) : j < ls.length ∧ o = .inl (pc, ls.set j v, st, σ) := by
  obtain ⟨h1, h2⟩ := qChk_s h
  exact ⟨h1, qNx_s h2⟩
theorem qLdI_s {ls : List qV} {j pc : Nat} {st : List qV} {σ : qS} {o : qO} (h : qLdI ls j pc st σ = some o) : ∃ x, ls[j]? = some (.inl x) ∧ o = .inl (pc, ls, .inl x :: st, σ) := by
  unfold qLdI at h
  split at h
  · rename_i x hx
    exact ⟨x, hx, qNx_s h⟩
  · cases h
theorem qLdL_s {ls : List qV} {j pc : Nat} {st : List qV} {σ : qS} {o : qO} (h : qLdL ls j pc st σ = some o) : ∃ x, (ls[j]? = some (.inr (.inr (.inl x))) ∧ ls[j + 1]? = some q_u) ∧ o = .inl (pc, ls, .inr (.inr (.inl x)) :: st, σ) := by
  unfold qLdL at h
  split at h
  · rename_i x hx hn
    exact ⟨x, ⟨hx, hn⟩, qNx_s h⟩
  · cases h
theorem qStoL_s {ls : List qV} {j pc : Nat} {x : Int} {st : List qV} {σ : qS} {o : qO} (h : qStoL ls j pc x st σ = some o) : j + 1 < ls.length ∧ o = .inl (pc, (ls.set j (.inr (.inr (.inl x)))).set (j + 1) q_u, st, σ) := by
  obtain ⟨h1, h2⟩ := qChk_s h
  exact ⟨h1, qNx_s h2⟩
theorem qLdA_s {ls : List qV} {j pc : Nat} {st : List qV} {σ : qS} {o : qO} (h : qLdA ls j pc st σ = some o) : ∃ v, ls[j]? = some v ∧ qLd v = true ∧ (v = .inr (.inr (.inr true)) ∨ ∃ r, v = .inr (.inl r)) ∧ o = .inl (pc, ls, v :: st, σ) := by
  unfold qLdA at h
  split at h
  · rename_i r hr
    exact ⟨_, hr, rfl, Or.inr ⟨r, rfl⟩, qNx_s h⟩
  · rename_i hr
    exact ⟨_, hr, rfl, Or.inl rfl, qNx_s h⟩
  · cases h
/-- a call of the kind that the small machine knows: nothing is lost -/
def qClLe (call : qCl) : Prop := ∀ (m : Nat) (as : List qV) (σ : qS) (r : qR) (σ' : qS), call m as σ = some (r, σ') → qLe σ σ'
theorem qInv_le {T : qT} {call : qCl} (hc : qClLe call) {hs : List qHd} {pc n a b c : Nat} {ls st : List qV} {σ : qS} {o : qO} (h : qInv T call hs pc n a b c ls st σ = some o) : qLe σ (qOs o) := by
  unfold qInv at h
  cases hb : (Nat.ble b st.length && Nat.ble (qCat (st.drop b)) (qLw c) && (st.take b).all qAr && qIsB T c (st.take b).reverse) with
  | false => rw [hb] at h; cases h
  | true =>
    rw [hb] at h
    simp only [cond_true] at h
    split at h
    · cases h
    · rename_i σ1 hr
      cases qNx_s h
      exact hc _ _ _ _ _ hr
    · rename_i v σ1 hr
      cases qNx_s h
      exact hc _ _ _ _ _ hr
    · rename_i k σ1 hr
      split at h
      · cases h
        exact hc _ _ _ _ _ hr
      · cases qNx_s h
        exact hc _ _ _ _ _ hr
theorem qEx_le {T : qT} {call : qCl} (hc : qClLe call) {sc : Int × (Int → Int)} {hs : List qHd} {rt pc : Nat} {i : Instr} {n a b c : Nat} {ls st : List qV} {σ : qS} {o : qO} (h : qEx T call sc hs rt pc i n a b c ls st σ = some o) : qLe σ (qOs o) := by
  cases i
  all_goals simp only [qEx] at h
  all_goals (first
    | (cases h; done)
    | (cases qNx_s h; exact qLe.rf)
    | (obtain ⟨x, -, rfl⟩ := qLdI_s h; exact qLe.rf)
    | (obtain ⟨x, -, rfl⟩ := qLdL_s h; exact qLe.rf)
    | (obtain ⟨x, -, -, -, rfl⟩ := qLdA_s h; exact qLe.rf)
    | exact qInv_le hc h
    | skip)
  all_goals repeat' split at h
  all_goals (first
    | (cases h; done)
    | (cases qNx_s h; exact qLe.rf)
    | (obtain ⟨-, rfl⟩ := qSto_s h; exact qLe.rf)
    | (obtain ⟨-, rfl⟩ := qStoL_s h; exact qLe.rf)
    | (obtain ⟨-, h⟩ := qChk_s h; cases qNx_s h; exact qLe.rf)
    | (obtain ⟨-, h⟩ := qChk_s h; obtain ⟨-, rfl⟩ := qSto_s h; exact qLe.rf)
    | (rw [qIf_s h]; exact qLe.rf)
    | (rw [qBr_s h]; exact qLe.rf)
    | (rename_i hp; cases qNx_s h; exact qPut_le hp)
    | (obtain ⟨-, h⟩ := qChk_s h; cases qNx_s h; exact qNew_le)
    | (obtain ⟨-, h⟩ := qChk_s h; cases qNx_s h; exact qNew_le.tr ((qNews_le _).tr (qSetRs_le _)))
    | (obtain ⟨-, h⟩ := qChk_s h; cases h; exact qLe.rf)
    | (cases h; exact ⟨fun _ => Int.le_refl _, Nat.le_add_right _ _, Nat.le_add_right _ _⟩)
    | (cases hb : c.beq 7 with
      | true => (rw [hb] at h; simp only [cond_true] at h; first | (obtain ⟨-, h⟩ := qChk_s h; cases qNx_s h; exact qLe.rf) | (cases h; done))
      | false => (rw [hb] at h; simp only [cond_false] at h; exact qInv_le hc h))
    | (cases hb : c.beq 6 with
      | true => (rw [hb] at h; simp only [cond_true] at h; first | (obtain ⟨-, h⟩ := qChk_s h; cases qNx_s h; exact qLe.rf) | (cases h; done))
      | false => (rw [hb] at h; simp only [cond_false] at h; exact qInv_le hc h))
    | (cases hb : rt.beq 1 with
      | true => (rw [hb] at h; simp only [cond_true] at h; cases h; exact qLe.rf)
      | false => (rw [hb] at h; simp only [cond_false] at h; obtain ⟨-, h⟩ := qChk_s h; cases h; exact qLe.rf)))

theorem qRun_le {T : qT} {call : qCl} (hc : qClLe call) {sc : Int × (Int → Int)} {C : qCd} : ∀ {N pc : Nat} {ls st : List qV} {σ : qS} {r : qR × qS}, qRun T call sc C N pc ls st σ = some r → qLe σ r.2
  | 0, _, _, _, _, _, h => by cases h
  | N + 1, pc, ls, st, σ, r, h => by
    unfold qRun at h
    split at h
    · cases h
    · rename_i r' hs
      cases h
      unfold qStep at hs
      split at hs
      · cases hs
      · exact qEx_le hc hs
    · rename_i pc' ls' st' σ' hs
      have h1 := qRun_le hc h
      unfold qStep at hs
      split at hs
      · cases hs
      · exact (qEx_le hc hs).tr h1
theorem qCall_le {T : qT} {P : Nat → qCd} : ∀ (d N : Nat), qClLe (qCall T P d N)
  | 0, N => fun m as σ r σ' h => by cases h
  | d + 1, N => fun m as σ r σ' h => by
    unfold qCall at h
    cases hb : Nat.ble (qFl as).length (P m).2.2.2 with
    | false => rw [hb] at h; cases h
    | true =>
      rw [hb] at h
      exact qRun_le (r := (r, σ')) (qCall_le d N) h
