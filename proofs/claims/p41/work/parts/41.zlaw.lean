/-! ===== calls that change what there is (the law's), and those that answer a long ===== -/
def lRl (h : qH) (f : Int → qM → Prop) : qRQ := fun r σ => ∃ v M, r = .inl (some (.inr (.inr (.inl v)))) ∧ σ = (h, M) ∧ f v M
def lXi (f : Int → qH → qM → Prop) : qRQ := fun r σ => ∃ v h M, r = .inl (some (.inl v)) ∧ σ = (h, M) ∧ f v h M
def lXv (f : qH → qM → Prop) : qRQ := fun r σ => ∃ h M, r = .inl none ∧ σ = (h, M) ∧ f h M
/-- a new cell: what there is, the memory -/
def lNh (h : qH) (k w : Nat) : qH := (qUN h.1 k (h.1 k + 1), (fun a b c => if a = k ∧ b = h.1 k then false else h.2.1 a b c), h.2.2.1 + 1, h.2.2.2.1 + w, h.2.2.2.2)
def lNm (M : qM) (k : Nat) (n : Int) : qM := fun a b c => if a = k ∧ b = n then 0 else M a b c
/-- behind a throw -/
def lBh (h : qH) : qH := (h.1, h.2.1, h.2.2.1 + 1, h.2.2.2.1 + 6, false)
theorem lEl.go {d1 d2 m : Nat} {as : List qV} {h : qH} {M : qM} {f : Int → qM → Prop} {R : qRQ} (H : qJ d1 m as (h, M) (lRl h f)) (hd : d1 ≤ d2) (k : ∀ v M', f v M' → R (.inl (some (.inr (.inr (.inl v))))) (h, M')) : qJ d2 m as (h, M) R :=
  (H.deep hd).imp fun r σ hr => by obtain ⟨v, M', rfl, rfl, hf⟩ := hr; exact k v M' hf
theorem lXi.go {d1 d2 m : Nat} {as : List qV} {h : qH} {M : qM} {f : Int → qH → qM → Prop} {R : qRQ} (H : qJ d1 m as (h, M) (lXi f)) (hd : d1 ≤ d2) (k : ∀ v h' M', f v h' M' → R (.inl (some (.inl v))) (h', M')) : qJ d2 m as (h, M) R :=
  (H.deep hd).imp fun r σ hr => by obtain ⟨v, h', M', rfl, rfl, hf⟩ := hr; exact k v h' M' hf
theorem lXv.go {d1 d2 m : Nat} {as : List qV} {h : qH} {M : qM} {f : qH → qM → Prop} {R : qRQ} (H : qJ d1 m as (h, M) (lXv f)) (hd : d1 ≤ d2) (k : ∀ h' M', f h' M' → R (.inl none) (h', M')) : qJ d2 m as (h, M) R :=
  (H.deep hd).imp fun r σ hr => by obtain ⟨h', M', rfl, rfl, hf⟩ := hr; exact k h' M' hf
