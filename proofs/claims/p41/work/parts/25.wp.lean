/-! ===== the small machine by itself: what must hold so that a run ends well ===== -/
abbrev qK : Type := Nat → List qV → List qV → qS → Prop
abbrev qRQ : Type := qR → qS → Prop
abbrev qHC : Type := Nat → List qV → qS → qRQ → Prop
/-- a call m(as) ends, with Q -/
def qJ (d : Nat) (m : Nat) (as : List qV) (σ : qS) (Q : qRQ) : Prop := ∃ (N : Nat) (r : qR) (σ' : qS), qCall qT0 qP d N m as σ = some (r, σ') ∧ Q r σ'
/-- a run from pc ends, with Q -/
def qG (d : Nat) (sc : Int × (Int → Int)) (C : qCd) (Q : qRQ) : qK := fun pc ls st σ => ∃ (N : Nat) (r : qR) (σ' : qS), qRun qT0 (qCall qT0 qP d N) sc C N pc ls st σ = some (r, σ') ∧ Q r σ'
/-- more fuel does no harm -/
def qSub (c1 c2 : qCl) : Prop := ∀ m as σ r, c1 m as σ = some r → c2 m as σ = some r
theorem qInv_mono {T : qT} {c1 c2 : qCl} (hc : qSub c1 c2) {hs : List qHd} {pc n a b c : Nat} {ls st : List qV} {σ : qS} {o : qO} (h : qInv T c1 hs pc n a b c ls st σ = some o) : qInv T c2 hs pc n a b c ls st σ = some o := by
  unfold qInv at h ⊢
  cases hb : (Nat.ble b st.length && Nat.ble (qCat (st.drop b)) (qLw c) && (st.take b).all qAr && qIsB T c (st.take b).reverse) with
  | false => rw [hb] at h; cases h
  | true =>
    rw [hb] at h
    simp only [cond_true] at h ⊢
    cases hq : c1 a (st.take b).reverse σ with
    | none => rw [hq] at h; cases h
    | some r => rw [hq] at h; rw [hc _ _ _ _ hq]; exact h
theorem qEx_mono {T : qT} {c1 c2 : qCl} (hc : qSub c1 c2) {sc : Int × (Int → Int)} {hs : List qHd} {rt pc : Nat} {i : Instr} {n a b c : Nat} {ls st : List qV} {σ : qS} {o : qO} (h : qEx T c1 sc hs rt pc i n a b c ls st σ = some o) : qEx T c2 sc hs rt pc i n a b c ls st σ = some o := by
  cases i
  case invokestatic x =>
    simp only [qEx] at h ⊢
    cases hb : Nat.beq c 7 with
    | true => rw [hb] at h; exact h
    | false => rw [hb] at h; exact qInv_mono hc h
  case invokevirtual x => exact qInv_mono hc h
  case invokespecial x =>
    simp only [qEx] at h ⊢
    cases hb : Nat.beq c 6 with
    | true => rw [hb] at h; exact h
    | false => rw [hb] at h; exact qInv_mono hc h
  all_goals exact h
theorem qStep_mono {T : qT} {c1 c2 : qCl} (hc : qSub c1 c2) {sc : Int × (Int → Int)} {C : qCd} {pc : Nat} {ls st : List qV} {σ : qS} {o : qO} (h : qStep T c1 sc C pc ls st σ = some o) : qStep T c2 sc C pc ls st σ = some o := by
  unfold qStep at h ⊢
  split at h
  · cases h
  · rename_i hf
    exact qEx_mono hc h
theorem qRun_mono {T : qT} {c1 c2 : qCl} (hc : qSub c1 c2) {sc : Int × (Int → Int)} {C : qCd} : ∀ {N N' pc : Nat} {ls st : List qV} {σ : qS} {r : qR × qS}, N ≤ N' → qRun T c1 sc C N pc ls st σ = some r → qRun T c2 sc C N' pc ls st σ = some r
  | 0, _, _, _, _, _, _, _, h => by cases h
  | N + 1, 0, _, _, _, _, _, hl, _ => absurd hl (Nat.not_succ_le_zero _)
  | N + 1, N' + 1, pc, ls, st, σ, r, hl, h => by
    unfold qRun at h ⊢
    cases hs : qStep T c1 sc C pc ls st σ with
    | none => rw [hs] at h; cases h
    | some o =>
      rw [hs] at h
      rw [qStep_mono hc hs]
      match o, h with
      | .inr r', h => exact h
      | .inl (pc', ls', st', σ'), h => exact qRun_mono hc (Nat.le_of_succ_le_succ hl) h
theorem qCall_mono {T : qT} {P : Nat → qCd} : ∀ {d d' N N' : Nat}, d ≤ d' → N ≤ N' → qSub (qCall T P d N) (qCall T P d' N')
  | 0, _, _, _, _, _ => fun m as σ r h => by cases h
  | d + 1, 0, _, _, hd, _ => absurd hd (Nat.not_succ_le_zero _)
  | d + 1, d' + 1, N, N', hd, hN => fun m as σ r h => by
    unfold qCall at h ⊢
    cases hb : Nat.ble (qFl as).length (P m).2.2.2 with
    | false => rw [hb] at h; cases h
    | true =>
      rw [hb] at h
      simp only [cond_true] at h ⊢
      exact qRun_mono (qCall_mono (Nat.le_of_succ_le_succ hd) hN) hN h
theorem qJ.deep {d d' m : Nat} {as : List qV} {σ : qS} {Q : qRQ} (hd : d ≤ d') (h : qJ d m as σ Q) : qJ d' m as σ Q := by
  obtain ⟨N, r, σ', h1, h2⟩ := h
  exact ⟨N, r, σ', qCall_mono hd (Nat.le_refl _) _ _ _ _ h1, h2⟩
theorem qJ.imp {d m : Nat} {as : List qV} {σ : qS} {Q Q' : qRQ} (h : qJ d m as σ Q) (hi : ∀ r σ', Q r σ' → Q' r σ') : qJ d m as σ Q' := by
  obtain ⟨N, r, σ', h1, h2⟩ := h
  exact ⟨N, r, σ', h1, hi _ _ h2⟩
theorem qJ.body {d m : Nat} {as : List qV} {σ : qS} {Q : qRQ} (hl : (qFl as).length ≤ (qP m).2.2.2) (h : qG d (-1, fun _ => 0) (qP m) Q 0 (qArgs (qP m).2.2.2 as) [] σ) : qJ (d + 1) m as σ Q := by
  obtain ⟨N, r, σ', h1, h2⟩ := h
  refine ⟨N, r, σ', ?_, h2⟩
  unfold qCall
  rw [Nat.ble_eq_true_of_le hl]
  exact h1
theorem qLaw_of {d L : Nat} {xs : Nat → Int32} (hd : 1 ≤ d ∧ d ≤ 1397) (h : qG d ((L : Int), fun j => (xs j.toNat).toInt) qc_L_law (fun r σ' => r = .inl (some (.inl 1)) ∧ σ'.1.2.2.1 ≤ 600000 ∧ σ'.1.2.2.2.1 ≤ 7300000) 0 (qArgs 35 [.inr (.inr (.inr true))]) [] qσ0) : qLawOK L xs := by
  obtain ⟨N, r, σ', h1, rfl, h3, h4⟩ := h
  exact ⟨d, N, σ', hd, h1, h3, h4⟩
/-- one step, and then -/
theorem qG.step {d : Nat} {sc : Int × (Int → Int)} {C : qCd} {Q : qRQ} {pc : Nat} {ls st : List qV} {σ : qS} (N0 : Nat) (o : qO) (h : qStep qT0 (qCall qT0 qP d N0) sc C pc ls st σ = some o) (k : match o with | .inl (pc', ls', st', σ') => qG d sc C Q pc' ls' st' σ' | .inr (r, σ') => Q r σ') : qG d sc C Q pc ls st σ := by
  match o, h, k with
  | .inr (r, σ'), h, k =>
    refine ⟨N0 + 1, r, σ', ?_, k⟩
    unfold qRun
    rw [qStep_mono (qCall_mono (Nat.le_refl _) (Nat.le_succ _)) h]
  | .inl (pc', ls', st', σ'), h, k =>
    obtain ⟨N, r, σ'', h1, h2⟩ := k
    refine ⟨max N0 N + 1, r, σ'', ?_, h2⟩
    unfold qRun
    rw [qStep_mono (qCall_mono (Nat.le_refl _) (by omega)) h]
    exact qRun_mono (qCall_mono (Nat.le_refl _) (by omega)) (by omega) h1
