/-! ===== calls over the memory alone; what the printed parts behind this one use ===== -/
/-- every reference that never changes is set -/
def qSe (h : qH) : Prop := (∀ (k : Nat) (n : Int) (s : Nat), qRl k s = true → h.2.1 k n s = true) ∧ ∀ (k : Nat) (n s : Int), Nat.beq (qKd qT0 k).1 4 = true → 0 ≤ s → s < (qKd qT0 k).2.1 → h.2.1 k n s = true
def qRv (h : qH) (f : qM → Prop) : qRQ := fun r σ => ∃ M, r = .inl none ∧ σ = (h, M) ∧ f M
def qRi (h : qH) (f : Int → qM → Prop) : qRQ := fun r σ => ∃ v M, r = .inl (some (.inl v)) ∧ σ = (h, M) ∧ f v M
def qRr (k : Nat) (h : qH) (f : Int → qM → Prop) : qRQ := fun r σ => ∃ v M, r = .inl (some (.inr (.inl (some (k, v))))) ∧ σ = (h, M) ∧ f v M
def qZv (h : qH) (f : qM → Prop) (g : Nat → qM → Prop) : qRQ := fun r σ => qRv h f r σ ∨ ∃ e M, r = .inr e ∧ σ = qBump (h, M) 1 6 ∧ g e M
def qZi (h : qH) (f : Int → qM → Prop) (g : Nat → qM → Prop) : qRQ := fun r σ => qRi h f r σ ∨ ∃ e M, r = .inr e ∧ σ = qBump (h, M) 1 6 ∧ g e M
def qZr (k : Nat) (h : qH) (f : Int → qM → Prop) (g : Nat → qM → Prop) : qRQ := fun r σ => qRr k h f r σ ∨ ∃ e M, r = .inr e ∧ σ = qBump (h, M) 1 6 ∧ g e M
def qEv (D m : Nat) (as : List qV) (h : qH) (M : qM) (f : qM → Prop) : Prop := qJ D m as (h, M) (qRv h f)
def qEi (D m : Nat) (as : List qV) (h : qH) (M : qM) (f : Int → qM → Prop) : Prop := qJ D m as (h, M) (qRi h f)
theorem qAn {A B C : Prop} (H : A ∧ B) (k : A → B → C) : C := k H.1 H.2
theorem qAn3 {A B D C : Prop} (H : A ∧ B ∧ D) (k : A → B → D → C) : C := k H.1 H.2.1 H.2.2
theorem qLq {a b : Nat} (d : Nat) (h : Nat.ble a b = true) : d + a ≤ d + b := Nat.add_le_add_left (Nat.le_of_ble_eq_true h) d
theorem qWq {d : Nat} {C : qCd} {Q : qRQ} (cut : Nat → Bool) (N : Nat) {pc : Nat} {ls st : List qV} {σ : qS} (h : qWp (qJ d) (-1, fun _ => 0) C cut (qG d (-1, fun _ => 0) C Q) Q N pc ls st σ) : qG d (-1, fun _ => 0) C Q pc ls st σ :=
  qWp_ok (fun _ _ _ _ h => h) h
theorem qEv.go {d1 d2 m : Nat} {as : List qV} {h : qH} {M : qM} {f : qM → Prop} {R : qRQ} (H : qJ d1 m as (h, M) (qRv h f)) (hd : d1 ≤ d2) (k : ∀ M', f M' → R (.inl none) (h, M')) : qJ d2 m as (h, M) R :=
  (H.deep hd).imp fun r σ hr => by obtain ⟨M', rfl, rfl, hf⟩ := hr; exact k M' hf
theorem qEi.go {d1 d2 m : Nat} {as : List qV} {h : qH} {M : qM} {f : Int → qM → Prop} {R : qRQ} (H : qJ d1 m as (h, M) (qRi h f)) (hd : d1 ≤ d2) (k : ∀ v M', f v M' → R (.inl (some (.inl v))) (h, M')) : qJ d2 m as (h, M) R :=
  (H.deep hd).imp fun r σ hr => by obtain ⟨v, M', rfl, rfl, hf⟩ := hr; exact k v M' hf
theorem qEr.go {d1 d2 m k0 : Nat} {as : List qV} {h : qH} {M : qM} {f : Int → qM → Prop} {R : qRQ} (H : qJ d1 m as (h, M) (qRr k0 h f)) (hd : d1 ≤ d2) (k : ∀ v M', f v M' → R (.inl (some (.inr (.inl (some (k0, v)))))) (h, M')) : qJ d2 m as (h, M) R :=
  (H.deep hd).imp fun r σ hr => by obtain ⟨v, M', rfl, rfl, hf⟩ := hr; exact k v M' hf
theorem qZv.go {d1 d2 m : Nat} {as : List qV} {h : qH} {M : qM} {f : qM → Prop} {g : Nat → qM → Prop} {R : qRQ} (H : qJ d1 m as (h, M) (qZv h f g)) (hd : d1 ≤ d2) (k : ∀ M', f M' → R (.inl none) (h, M')) (kg : ∀ e M', g e M' → R (.inr e) (qBump (h, M') 1 6)) : qJ d2 m as (h, M) R :=
  (H.deep hd).imp fun r σ hr => by
    rcases hr with ⟨M', rfl, rfl, hf⟩ | ⟨e, M', rfl, rfl, hg⟩
    · exact k M' hf
    · exact kg e M' hg
theorem qZi.go {d1 d2 m : Nat} {as : List qV} {h : qH} {M : qM} {f : Int → qM → Prop} {g : Nat → qM → Prop} {R : qRQ} (H : qJ d1 m as (h, M) (qZi h f g)) (hd : d1 ≤ d2) (k : ∀ v M', f v M' → R (.inl (some (.inl v))) (h, M')) (kg : ∀ e M', g e M' → R (.inr e) (qBump (h, M') 1 6)) : qJ d2 m as (h, M) R :=
  (H.deep hd).imp fun r σ hr => by
    rcases hr with ⟨v, M', rfl, rfl, hf⟩ | ⟨e, M', rfl, rfl, hg⟩
    · exact k v M' hf
    · exact kg e M' hg
theorem qZr.go {d1 d2 m k0 : Nat} {as : List qV} {h : qH} {M : qM} {f : Int → qM → Prop} {g : Nat → qM → Prop} {R : qRQ} (H : qJ d1 m as (h, M) (qZr k0 h f g)) (hd : d1 ≤ d2) (k : ∀ v M', f v M' → R (.inl (some (.inr (.inl (some (k0, v)))))) (h, M')) (kg : ∀ e M', g e M' → R (.inr e) (qBump (h, M') 1 6)) : qJ d2 m as (h, M) R :=
  (H.deep hd).imp fun r σ hr => by
    rcases hr with ⟨v, M', rfl, rfl, hf⟩ | ⟨e, M', rfl, rfl, hg⟩
    · exact k v M' hf
    · exact kg e M' hg
/-- what was shown of states, for the memory alone -/
theorem qSe.set {h : qH} (hS : qSe h) (M : qM) : qSet (h, M) := hS
theorem qU_s {M : qM} {k : Nat} {n s x : Int} : qU M k n s x k n s = x := if_pos ⟨rfl, rfl, rfl⟩
theorem qU_k {M : qM} {k k2 : Nat} {n s x n2 s2 : Int} (h : k2 ≠ k) : qU M k n s x k2 n2 s2 = M k2 n2 s2 := if_neg (fun q => h q.1)
theorem qU_n {M : qM} {k k2 : Nat} {n s x n2 s2 : Int} (h : n2 ≠ n) : qU M k n s x k2 n2 s2 = M k2 n2 s2 := if_neg (fun q => h q.2.1)
theorem qU_l {M : qM} {k k2 : Nat} {n s x n2 s2 : Int} (h : s2 ≠ s) : qU M k n s x k2 n2 s2 = M k2 n2 s2 := if_neg (fun q => h q.2.2)
