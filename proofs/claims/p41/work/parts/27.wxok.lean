/-! ===== what must hold is enough ===== -/
section QW
variable {d : Nat} {sc : Int × (Int → Int)} {hs : List qHd} {rt pc : Nat} {i : Instr} {n a b c : Nat} {ls st : List qV} {σ : qS} {k : qK} {Q : qRQ}
theorem qWx_ok (h : qWx qT0 (qJ d) sc hs rt pc i n a b c ls st σ k Q) : ∃ N0 o, qEx qT0 (qCall qT0 qP d N0) sc hs rt pc i n a b c ls st σ = some o ∧ qFin k Q o := by
  cases i
  case invokestatic x =>
    simp only [qWx] at h
    simp only [qEx]
    cases hb : Nat.beq c 7 with
    | true =>
      rw [hb] at h
      simp only [cond_true] at h ⊢
      split at h
      · exact ⟨0, qC_ok h (fun h => ⟨_, rfl, h⟩)⟩
      · exact h.elim
    | false =>
      rw [hb] at h
      exact qWinv_ok h
  case invokevirtual x => exact qWinv_ok h
  case invokespecial x =>
    simp only [qWx] at h
    simp only [qEx]
    cases hb : Nat.beq c 6 with
    | true =>
      rw [hb] at h
      simp only [cond_true] at h ⊢
      split at h
      · exact ⟨0, qC_ok h (fun h => ⟨_, rfl, h⟩)⟩
      · exact h.elim
    | false =>
      rw [hb] at h
      exact qWinv_ok h
  case ireturn =>
    refine ⟨0, ?_⟩
    simp only [qWx] at h
    simp only [qEx]
    split at h
    · cases hb : Nat.beq rt 1 with
      | true => rw [hb] at h; exact ⟨_, rfl, h⟩
      | false => rw [hb] at h; exact qC_ok h (fun h => ⟨_, rfl, h⟩)
    · exact h.elim
  case getfield x =>
    refine ⟨0, ?_⟩
    simp only [qWx] at h
    simp only [qEx]
    split at h
    · obtain ⟨v, h1, h2⟩ := qWg_ok h
      simp only [h1]
      exact ⟨_, rfl, h2⟩
    · exact h.elim
  case putfield x =>
    refine ⟨0, ?_⟩
    simp only [qWx] at h
    simp only [qEx]
    split at h
    · obtain ⟨v, h1, h2⟩ := qWf_ok h
      simp only [h1]
      exact ⟨_, rfl, h2⟩
    · exact h.elim
  case aaload =>
    refine ⟨0, ?_⟩
    simp only [qWx] at h
    simp only [qEx]
    split at h
    · split at h
      · rename_i len k2 p q heq
        simp only [heq]
        refine qC_ok h (fun h => ⟨_, rfl, ?_⟩)
        by_cases hp : p = 0
        · by_cases hq : q = 0
          · rw [decide_eq_true hp, decide_eq_true hq] at h
            subst hp
            subst hq
            rw [Int.zero_mul, Int.zero_add, Int.zero_add]
            exact h
          · rw [decide_eq_false hq, Bool.and_false] at h
            exact h
        · rw [decide_eq_false hp, Bool.false_and] at h
          exact h
      · exact h.elim
    · exact h.elim
  case tableswitch df lo hi offs =>
    refine ⟨0, ?_⟩
    simp only [qWx] at h
    simp only [qEx]
    split at h
    · rename_i x r
      refine ⟨_, rfl, ?_⟩
      show k (qSw pc df lo hi offs x) ls r σ
      unfold qSw
      by_cases hx : x < lo ∨ hi < x
      · rw [if_pos hx]; exact h.1 hx
      · rw [if_neg hx]; exact h.2 hx
    · exact h.elim
  case lcmp =>
    refine ⟨0, ?_⟩
    simp only [qWx] at h
    simp only [qEx]
    split at h
    · exact ⟨_, rfl, h⟩
    · exact h.elim
  case new x =>
    refine ⟨0, ?_⟩
    match a, h with
    | 0, h =>
      simp only [qWx] at h
      simp only [qEx]
      split at h
      · rename_i heq
        simp only [heq]
        exact qC_ok h (fun h => ⟨_, rfl, h⟩)
      · exact h.elim
    | a9 + 1, h =>
      match st, h with
      | [], h => exact ⟨_, rfl, h⟩
  case imul =>
    refine ⟨0, ?_⟩
    match a, st, h with
    | 0, .inl y :: .inl x :: r, h => exact qC_ok h (fun h => ⟨_, rfl, h⟩)
    | a9 + 1, .inl y :: .inl x :: r, h => exact ⟨_, rfl, h⟩
  case ishr =>
    refine ⟨0, ?_⟩
    match a, st, h with
    | 0, .inl y :: .inl x :: r, h => exact qC_ok h (fun h => ⟨_, rfl, h⟩)
    | a9 + 1, .inl y :: .inl x :: r, h => exact qC_ok h (fun h => ⟨_, rfl, h⟩)
  all_goals refine ⟨0, ?_⟩
  all_goals simp only [qWx] at h
  all_goals simp only [qEx]
  all_goals repeat' split at h
  all_goals first
    | exact h.elim
    | exact ⟨_, rfl, h⟩
    | exact qLI_ok h
    | exact qLA_ok h
    | exact qLL_ok h
    | exact qSt2_ok h
    | exact qSt3_ok h
    | exact qI2_ok h
    | exact qB_ok h
    | exact qC_ok h (fun h => ⟨_, rfl, h⟩)
    | (obtain ⟨len, x9, h1, h2⟩ := qWlen_ok h; simp only [h1]; exact qC_ok h2 (fun h => ⟨_, rfl, h⟩))
    | (obtain ⟨len, x9, h1, h2⟩ := qWlen_ok h; simp only [h1]; exact ⟨_, rfl, h2⟩)
    | (rename_i heq; simp only [heq]; exact ⟨_, rfl, h⟩)
    | (rename_i heq; simp only [heq]; exact qC_ok h (fun h => ⟨_, rfl, h⟩))
    | (rename_i heq; simp only [heq]; exact qC_ok h (fun h => qSt2_ok h))
theorem qWp_ok {C : qCd} {cut : Nat → Bool} {K : qK} (hK : ∀ pc ls st σ, K pc ls st σ → qG d sc C Q pc ls st σ) : ∀ {N pc : Nat} {ls st : List qV} {σ : qS}, qWp (qJ d) sc C cut K Q N pc ls st σ → qG d sc C Q pc ls st σ
  | 0, _, _, _, _, h => h.elim
  | N + 1, pc, ls, st, σ, h => by
    unfold qWp at h
    split at h
    · exact h.elim
    · rename_i hf
      obtain ⟨N0, o, h1, h2⟩ := qWx_ok h
      refine qG.step N0 o (by unfold qStep; rw [hf]; exact h1) ?_
      match o, h2 with
      | .inr (r, σ'), h2 => exact h2
      | .inl (pc', ls', st', σ'), h2 =>
        have h2 : (bif cut pc' then K pc' ls' st' σ' else qWp (qJ d) sc C cut K Q N pc' ls' st' σ') := h2
        show qG d sc C Q pc' ls' st' σ'
        cases hb : cut pc' with
        | true => rw [hb] at h2; exact hK _ _ _ _ h2
        | false => rw [hb] at h2; exact qWp_ok hK h2
end QW
