/-! ===== a run does not see how many cells were made by throws ===== -/
def qOb (x y : Nat) : qO → qO
  | .inl (pc, ls, st, σ) => .inl (pc, ls, st, qBump σ x y)
  | .inr (r, σ) => .inr (r, qBump σ x y)
section QBU
variable {x y : Nat} {T : qT} {sc : Int × (Int → Int)} {hs : List qHd} {rt pc : Nat} {i : Instr} {n a b c : Nat} {ls st : List qV} {σ : qS} {o o' : qO}
theorem qN_b (h : qNx pc ls st σ = some o) : qNx pc ls st (qBump σ x y) = some (qOb x y o) := by cases h; rfl
theorem qChk_b {p : Prop} [Decidable p] {X Y : Option qO} (h : qChk p X = some o) (k : X = some o → Y = some o') : qChk p Y = some o' := by
  unfold qChk at h ⊢
  split at h
  · rename_i hp; rw [if_pos hp]; exact k h
  · cases h
theorem qBr_b {p : Prop} [Decidable p] {t f : Nat} (h : qBr p t f ls st σ = some o) : qBr p t f ls st (qBump σ x y) = some (qOb x y o) := by
  unfold qBr at h ⊢
  split at h
  · rename_i hp; rw [if_pos hp]; exact qN_b h
  · rename_i hp; rw [if_neg hp]; exact qN_b h
theorem qIf_b {cd : Jvm.ClassFile.Cond} {u v : Int} {t f : Nat} (h : qIf cd u v t f ls st σ = some o) : qIf cd u v t f ls st (qBump σ x y) = some (qOb x y o) := by
  unfold qIf at h ⊢
  cases cd <;> exact qBr_b h
theorem qSto_b {j f : Nat} {v : qV} (h : qSto ls j f v st σ = some o) : qSto ls j f v st (qBump σ x y) = some (qOb x y o) := qChk_b h qN_b
theorem qLdI_b {j f : Nat} (h : qLdI ls j f st σ = some o) : qLdI ls j f st (qBump σ x y) = some (qOb x y o) := by
  unfold qLdI at h ⊢
  split at h
  · exact qN_b h
  · cases h
theorem qLdA_b {j f : Nat} (h : qLdA ls j f st σ = some o) : qLdA ls j f st (qBump σ x y) = some (qOb x y o) := by
  unfold qLdA at h ⊢
  split at h
  · exact qN_b h
  · exact qN_b h
  · cases h
theorem qNew_b {k w : Nat} : qNew (qBump σ x y) k w = qBump (qNew σ k w) x y := by
  have e1 : σ.1.2.2.1 + x + 1 = σ.1.2.2.1 + 1 + x := by omega
  have e2 : σ.1.2.2.2.1 + y + w = σ.1.2.2.2.1 + w + y := by omega
  show ((_, _, σ.1.2.2.1 + x + 1, σ.1.2.2.2.1 + y + w, false), _) = ((_, _, σ.1.2.2.1 + 1 + x, σ.1.2.2.2.1 + w + y, false), _)
  rw [e1, e2]
  rfl
theorem qBump_b {a b : Nat} : qBump (qBump σ x y) a b = qBump (qBump σ a b) x y := by
  have e1 : σ.1.2.2.1 + x + a = σ.1.2.2.1 + a + x := by omega
  have e2 : σ.1.2.2.2.1 + y + b = σ.1.2.2.2.1 + b + y := by omega
  show ((_, _, σ.1.2.2.1 + x + a, σ.1.2.2.2.1 + y + b, false), _) = ((_, _, σ.1.2.2.1 + a + x, σ.1.2.2.2.1 + b + y, false), _)
  rw [e1, e2]
  rfl
theorem qNews_b {k w : Nat} : ∀ {m : Nat}, qNews (qBump σ x y) k w m = qBump (qNews σ k w m) x y
  | 0 => rfl
  | m + 1 => by
    show qNew (qNews (qBump σ x y) k w m) k w = qBump (qNew (qNews σ k w m) k w) x y
    rw [qNews_b, qNew_b]
theorem qSetRs_b {k : Nat} {m : Int} : ∀ {j : Nat}, qSetRs (qBump σ x y) k m j = qBump (qSetRs σ k m j) x y
  | 0 => rfl
  | j + 1 => by
    show qSetR (qSetRs (qBump σ x y) k m j) k m j = qBump (qSetR (qSetRs σ k m j) k m j) x y
    rw [qSetRs_b]
    rfl
theorem qPut_b {c s k : Nat} {m : Int} {v : qV} {σ' : qS} (h : qPut T c s k m v σ = some σ') : qPut T c s k m v (qBump σ x y) = some (qBump σ' x y) := by
  unfold qPut at h ⊢
  repeat' split at h
  all_goals first
    | (cases h; done)
    | (cases h; simp_all [qSetI, qSetR, qBump])
theorem qInv_b {call : qCl} (hc : ∀ m as σ r σ', call m as σ = some (r, σ') → call m as (qBump σ x y) = some (r, qBump σ' x y)) (h : qInv T call hs pc n a b c ls st σ = some o) : qInv T call hs pc n a b c ls st (qBump σ x y) = some (qOb x y o) := by
  unfold qInv at h ⊢
  cases hb : (Nat.ble b st.length && Nat.ble (qCat (st.drop b)) 8 && (st.take b).all qAr && qIsB T c (st.take b).reverse) with
  | false => rw [hb] at h; cases h
  | true =>
    rw [hb] at h
    simp only [cond_true] at h ⊢
    cases hq : call a (st.take b).reverse σ with
    | none => rw [hq] at h; cases h
    | some q =>
      obtain ⟨r, σ1⟩ := q
      rw [hq] at h
      rw [hc _ _ _ _ _ hq]
      match r, h with
      | .inl none, h => exact qN_b h
      | .inl (some v), h => exact qN_b h
      | .inr k, h =>
        simp only at h ⊢
        split at h
        · cases h; rfl
        · exact qN_b h
theorem qEx_b {call : qCl} (hc : ∀ m as σ r σ', call m as σ = some (r, σ') → call m as (qBump σ x y) = some (r, qBump σ' x y)) (h : qEx T call sc hs rt pc i n a b c ls st σ = some o) : qEx T call sc hs rt pc i n a b c ls st (qBump σ x y) = some (qOb x y o) := by
  cases i
  case invokestatic x => exact qInv_b hc h
  case invokevirtual x => exact qInv_b hc h
  case invokespecial x =>
    simp only [qEx] at h ⊢
    cases hb : Nat.beq c 6 with
    | true =>
      rw [hb] at h
      simp only [cond_true] at h ⊢
      split at h
      · exact qChk_b h qN_b
      · cases h
    | false => rw [hb] at h; exact qInv_b hc h
  case getfield z =>
    simp only [qEx] at h ⊢
    split at h
    · split at h
      · rename_i heq
        simp only [show ∀ k m, qGet T a b k m (qBump σ x y) = qGet T a b k m σ from fun _ _ => rfl, heq]
        exact qN_b h
      · cases h
    · cases h
  case putfield z =>
    simp only [qEx] at h ⊢
    split at h
    · split at h
      · rename_i heq
        simp only [qPut_b heq]
        exact qN_b h
      · cases h
    · cases h
  case new z =>
    match a, h with
    | 0, h =>
      simp only [qEx] at h ⊢
      split at h
      · rename_i heq
        try simp only [heq]
        refine qChk_b h (fun h => ?_)
        rw [qNew_b]
        exact qN_b h
      · cases h
    | a9 + 1, h =>
      match st, h with
      | [], h =>
        cases h
        show some (Sum.inr (Sum.inr b, qBump (qBump σ x y) 1 6)) = some (Sum.inr (Sum.inr b, qBump (qBump σ 1 6) x y))
        rw [qBump_b]
  case newarray z =>
    simp only [qEx] at h ⊢
    split at h
    · refine qChk_b h (fun h => ?_)
      rw [qNew_b]
      exact qN_b h
    · cases h
  case anewarray z =>
    simp only [qEx] at h ⊢
    split at h
    · refine qChk_b h (fun h => ?_)
      rw [qNew_b]
      exact qN_b h
    · cases h
  case multianewarray z z2 =>
    simp only [qEx] at h ⊢
    split at h
    · split at h
      · rename_i heq
        try simp only [heq]
        refine qChk_b h (fun h => ?_)
        rw [qNew_b, qNews_b, show (qBump σ x y).1.1 = σ.1.1 from rfl, qSetRs_b]
        exact qN_b h
      · cases h
    · cases h
  case lcmp =>
    simp only [qEx] at h ⊢
    split at h
    · exact qN_b h
    · cases h
  case ireturn =>
    simp only [qEx] at h ⊢
    split at h
    · cases hb : Nat.beq rt 1 with
      | true => rw [hb] at h; cases h; rfl
      | false =>
        rw [hb] at h
        simp only [cond_false] at h ⊢
        exact qChk_b h (fun h => by cases h; rfl)
    · cases h
  all_goals simp only [qEx] at h ⊢
  all_goals repeat' split at h
  all_goals first
    | (cases h; done)
    | exact qN_b h
    | exact qLdI_b h
    | exact qLdA_b h
    | exact qSto_b h
    | exact qIf_b h
    | exact qBr_b h
    | exact qChk_b h qN_b
    | exact qChk_b h qSto_b
    | exact qChk_b h (fun h => by cases h; rfl)
    | (cases h; rfl)
    | (rename_i heq; simp only [heq]; exact qN_b h)
    | (rename_i heq; simp only [heq]; exact qChk_b h qN_b)
    | (rename_i heq; simp only [heq]; exact qChk_b h qSto_b)

end QBU
theorem qStep_b {x y : Nat} {T : qT} {call : qCl} {sc : Int × (Int → Int)} {C : qCd} {pc : Nat} {ls st : List qV} {σ : qS} {o : qO} (hc : ∀ m as σ r σ', call m as σ = some (r, σ') → call m as (qBump σ x y) = some (r, qBump σ' x y)) (h : qStep T call sc C pc ls st σ = some o) : qStep T call sc C pc ls st (qBump σ x y) = some (qOb x y o) := by
  unfold qStep at h ⊢
  split at h
  · cases h
  · exact qEx_b hc h
theorem qRun_b {x y : Nat} {T : qT} {call : qCl} {sc : Int × (Int → Int)} {C : qCd} (hc : ∀ m as σ r σ', call m as σ = some (r, σ') → call m as (qBump σ x y) = some (r, qBump σ' x y)) : ∀ {N pc : Nat} {ls st : List qV} {σ : qS} {r : qR} {σ' : qS}, qRun T call sc C N pc ls st σ = some (r, σ') → qRun T call sc C N pc ls st (qBump σ x y) = some (r, qBump σ' x y)
  | 0, _, _, _, _, _, _, h => by cases h
  | N + 1, pc, ls, st, σ, r, σ', h => by
    unfold qRun at h ⊢
    cases hs : qStep T call sc C pc ls st σ with
    | none => rw [hs] at h; cases h
    | some o =>
      rw [hs] at h
      rw [qStep_b hc hs]
      match o, h with
      | .inr (r', σ1), h => cases h; rfl
      | .inl (pc', ls', st', σ1), h => exact qRun_b hc h
theorem qCall_b {x y : Nat} {T : qT} {P : Nat → qCd} : ∀ {d N m : Nat} {as : List qV} {σ : qS} {r : qR} {σ' : qS}, qCall T P d N m as σ = some (r, σ') → qCall T P d N m as (qBump σ x y) = some (r, qBump σ' x y)
  | 0, _, _, _, _, _, _, h => by cases h
  | d + 1, N, m, as, σ, r, σ', h => by
    unfold qCall at h ⊢
    cases hb : Nat.ble as.length (P m).2.2.2 with
    | false => rw [hb] at h; cases h
    | true =>
      rw [hb] at h
      simp only [cond_true] at h ⊢
      exact qRun_b (fun m as σ r σ' h => qCall_b h) h
theorem qJ.bump {d m : Nat} {as : List qV} {σ : qS} {Q : qRQ} (x y : Nat) (h : qJ d m as σ Q) : qJ d m as (qBump σ x y) (fun r σ' => ∃ σ0, σ' = qBump σ0 x y ∧ Q r σ0) := by
  obtain ⟨N, r, σ', h1, h2⟩ := h
  exact ⟨N, r, qBump σ' x y, qCall_b h1, σ', rfl, h2⟩
