/-! ===== one call, all that is true of it; what a call brings is so ===== -/
theorem qJ_all {ι : Type} (i0 : ι) {d m : Nat} {as : List qV} {σ : qS} {Q : ι → qRQ} (H : ∀ i, qJ d m as σ (Q i)) : qJ d m as σ (fun r σ' => ∀ i, Q i r σ') := by
  obtain ⟨N, r, σ', h, q⟩ := H i0
  refine ⟨N, r, σ', h, fun i => ?_⟩
  obtain ⟨N2, r2, σ2, h2, q2⟩ := H i
  have a := qCall_mono (T := qT0) (P := qP) (Nat.le_refl d) (Nat.le_max_left N N2) m as σ _ h
  have b := qCall_mono (T := qT0) (P := qP) (Nat.le_refl d) (Nat.le_max_right N N2) m as σ _ h2
  rw [a] at b
  injection b with e
  injection e with e1 e2
  rw [e1, e2]
  exact q2
theorem qJ_so {d m : Nat} {as : List qV} {σ : qS} {p : Prop} (h : qJ d m as σ (fun _ _ => p)) : p := by
  obtain ⟨_, _, _, _, q⟩ := h
  exact q
theorem L215_all {ι : Type} (i0 : ι) {D : Nat} {h : qH} {kp : Int} {M : qM} {f : ι → Int → qH → qM → Prop} (H : ∀ i, e215 D h kp M (f i)) : e215 D h kp M (fun v h' M' => ∀ i, f i v h' M') := by
  have a := qJ_all (Q := fun i => lXi (f i)) i0 H
  refine a.imp (fun r σ' q => ?_)
  obtain ⟨v, h', M', e1, e2, e3⟩ := q i0
  refine ⟨v, h', M', e1, e2, fun i => ?_⟩
  obtain ⟨v2, h2, M2, x1, x2, x3⟩ := q i
  rw [e1] at x1
  rw [e2] at x2
  injection x1 with x1
  injection x1 with x1
  injection x1 with x1
  injection x2 with y1 y2
  rw [x1, y1, y2]
  exact x3
