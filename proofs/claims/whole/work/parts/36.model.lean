/-! ===== FacingleafModel.isWord, idOf, words, wide, sumOfDraft ===== -/
/-- the model's counts are in their bounds -/
def qMc (σ : qS) : Prop := (∀ c : Int, 0 ≤ c → c < 3 → 0 ≤ σ.2 64 0 c ∧ σ.2 64 0 c ≤ 10) ∧ ∀ k : Int, 0 ≤ k → k < 30 → 0 ≤ σ.2 67 0 k ∧ σ.2 67 0 k ≤ 20
def qMit (σ : qS) (c i : Int) : Prop := (0 ≤ c ∧ c < 3) ∧ 0 ≤ i ∧ i < σ.2 64 0 c
def qMwd (σ : qS) (c i w : Int) : Prop := qMit σ c i ∧ 0 ≤ w ∧ w < σ.2 67 0 (10 * c + i)
theorem s_MisWord {d : Nat} {c i w : Int} {σ : qS} (hI : qSet σ) (hc : qMc σ) : qJ (d + 4) 157 [.inr (.inl (some (11, 0))), .inl c, .inl i, .inl w] σ (qYes (qMwd σ c i w) σ) := by
  refine qJ.flat 40 rfl (And.intro rfl ((s_MisItem hI hc.1).imp fun r σ' hr => ?_))
  obtain ⟨hr, rfl⟩ := hr
  rcases hr with ⟨h, rfl⟩ | ⟨h, rfl⟩
  · obtain ⟨g1, g2⟩ := hc.1 c h.1.1 h.1.2
    obtain ⟨g3, g4⟩ := hc.2 (10 * c + i) (by omega) (by omega)
    have hcc : 0 ≤ c ∧ c < 3 := h.1
    have hii := h.2
    refine And.intro (fun h1 => absurd h1 (by decide)) (fun _ => ?_)
    refine And.intro (hI.1 _ _ _ rfl) ?_
    refine And.intro (show qIn (10 * c) from ⟨by omega, by omega⟩) ?_
    refine And.intro (show qIn (10 * c + i) from ⟨by omega, by omega⟩) ?_
    refine And.intro (show 0 ≤ 10 * c + i ∧ 10 * c + i < 30 from ⟨by omega, by omega⟩) ?_
    refine And.intro (show qIn (σ'.2 67 0 (10 * c + i) - 1) from ⟨by omega, by omega⟩) ?_
    refine And.intro rfl (s_Min.imp fun r σ'' hr => ?_)
    obtain ⟨hr, rfl⟩ := hr
    rcases hr with ⟨h2, rfl⟩ | ⟨h2, rfl⟩
    · exact And.intro (fun h1 => absurd h1 (by decide)) (fun _ => And.intro ⟨rfl, Or.inr rfl⟩ ⟨Or.inl ⟨⟨h, by omega⟩, rfl⟩, rfl⟩)
    · exact And.intro (fun _ => And.intro ⟨rfl, Or.inl rfl⟩ ⟨Or.inr ⟨fun q => h2 (by have := q.2; omega), rfl⟩, rfl⟩) (fun h1 => absurd rfl h1)
  · exact And.intro (fun _ => And.intro ⟨rfl, Or.inl rfl⟩ ⟨Or.inr ⟨fun q => h q.1, rfl⟩, rfl⟩) (fun h1 => absurd rfl h1)
theorem s_MidOf {d : Nat} {c i w : Int} {σ : qS} (hc : 0 ≤ c ∧ c < 3) (hi : 0 ≤ i ∧ i < 10) (hw : -100 ≤ w ∧ w ≤ 100) : qJ (d + 1) 158 [.inl c, .inl i, .inl w] σ (fun r σ' => r = .inl (some (.inl (20 * (10 * c + i) + w))) ∧ σ' = σ) := by
  refine qJ.flat 40 rfl ?_
  refine And.intro (show qIn (10 * c) from ⟨by omega, by omega⟩) ?_
  refine And.intro (show qIn (10 * c + i) from ⟨by omega, by omega⟩) ?_
  refine And.intro (show qIn (20 * (10 * c + i)) from ⟨by omega, by omega⟩) ?_
  refine And.intro (show qIn (20 * (10 * c + i) + w) from ⟨by omega, by omega⟩) ?_
  exact ⟨rfl, rfl⟩
theorem s_Mwords {d : Nat} {c i : Int} {σ : qS} (hI : qSet σ) (hc : qMc σ) : qJ (d + 4) 223 [.inr (.inl (some (11, 0))), .inl c, .inl i] σ (qAns (qMit σ c i) (σ.2 67 0 (10 * c + i)) 1 σ) := by
  refine qJ.flat 40 rfl (And.intro rfl ((s_MisItem hI hc.1).imp fun r σ' hr => ?_))
  obtain ⟨hr, rfl⟩ := hr
  rcases hr with ⟨h, rfl⟩ | ⟨h, rfl⟩
  · obtain ⟨g1, g2⟩ := hc.1 c h.1.1 h.1.2
    have hcc : 0 ≤ c ∧ c < 3 := h.1
    have hii := h.2
    refine And.intro (fun h1 => absurd h1 (by decide)) (fun _ => ?_)
    refine And.intro (fun _ => ?_) (fun h1 => absurd (show (qSetI σ' 11 0 (0 : Nat) 0).2 11 0 (0 : Nat) ≤ 0 by rw [qM_same]; exact Int.le_refl 0) h1)
    refine And.intro (hI.1 _ _ _ rfl) ?_
    refine And.intro (show qIn (10 * c) from ⟨by omega, by omega⟩) ?_
    refine And.intro (show qIn (10 * c + i) from ⟨by omega, by omega⟩) ?_
    refine And.intro (show 0 ≤ 10 * c + i ∧ 10 * c + i < 30 from ⟨by omega, by omega⟩) ?_
    exact Or.inl ⟨h, rfl, rfl⟩
  · refine And.intro (fun _ => ?_) (fun h1 => absurd rfl h1)
    refine And.intro (fun h1 => ?_) (fun _ => Or.inr ⟨h, rfl, rfl⟩)
    exfalso
    have h2 : (qSetI σ' 11 0 (0 : Nat) 1).2 11 0 (0 : Nat) ≤ 0 := h1
    rw [qM_same] at h2
    omega
theorem s_Mwide {d : Nat} {k : Int} {σ : qS} (hI : qSet σ) (hk : 0 ≤ k ∧ k < 600) (hs : qIn (σ.2 69 0 k + σ.2 76 0 k)) : qJ (d + 1) 175 [.inr (.inl (some (11, 0))), .inl k] σ (fun r σ' => r = .inl (some (.inl (σ.2 69 0 k + σ.2 76 0 k))) ∧ σ' = σ) := by
  refine qJ.flat 40 rfl ?_
  refine And.intro (hI.1 _ _ _ rfl) ?_
  refine And.intro hk ?_
  refine And.intro (hI.1 _ _ _ rfl) ?_
  refine And.intro hk ?_
  refine And.intro hs ?_
  exact ⟨rfl, rfl⟩
def v_sumOfDraft (σ : qS) (c b : Int) : Nat → Int
  | 0 => 0
  | j + 1 => v_sumOfDraft σ c b j + (if c = -1 then 1 else if σ.2 73 0 (j : Int) = c then (if b = 0 then 1 else σ.2 74 0 (j : Int)) else 0)
theorem s_MsumOfDraft {d : Nat} {c b : Int} {σ : qS} (hI : qSet σ) (hc : 0 ≤ σ.2 11 0 (12 : Nat) ∧ σ.2 11 0 (12 : Nat) ≤ 20) (hs : ∀ j : Nat, j ≤ 20 → qIn (v_sumOfDraft σ c b j)) : qJ (d + 1) 167 [.inr (.inl (some (11, 0))), .inl c, .inl b] σ (fun r σ' => r = .inl (some (.inl (v_sumOfDraft σ c b (σ.2 11 0 (12 : Nat)).toNat))) ∧ σ' = σ) := by
  refine qJ.body (Nat.le_of_ble_eq_true rfl) (qG.walk (h := 5) (lsn := [.inr (.inl (some (11, 0))), .inl c, .inl b, .inl (v_sumOfDraft σ c b 0), .inl ((0 : Nat) : Int)]) (σn := σ) ?_ 20 ⟨rfl, rfl, rfl, rfl⟩)
  refine q_down (B := (σ.2 11 0 (12 : Nat)).toNat) (P := fun j => qG d (-1, fun _ => 0) (qP 167) _ 5 [.inr (.inl (some (11, 0))), .inl c, .inl b, .inl (v_sumOfDraft σ c b j), .inl (j : Int)] [] σ) ?_ (fun j hj hn => ?_)
  · refine qG.end 20 (And.intro (fun h1 => ?_) (fun h1 => ⟨rfl, rfl⟩))
    exfalso; omega
  · have hs1 := hs (j + 1) (by omega)
    have hj2 : 0 ≤ (j : Int) ∧ (j : Int) < 20 := ⟨by omega, by omega⟩
    have hj3 : qIn ((j : Int) + 1) := ⟨by omega, by omega⟩
    have hup : ∀ x : Int, v_sumOfDraft σ c b (j + 1) = v_sumOfDraft σ c b j + x → qIn (v_sumOfDraft σ c b j + x) := fun x e => by rw [← e]; exact hs1
    refine qG.walk hn 60 (And.intro (fun h1 => And.intro (fun h2 => ?_) (fun h2 => ?_)) (fun h1 => ?_))
    · have e0 : v_sumOfDraft σ c b (j + 1) = v_sumOfDraft σ c b j + 1 := congrArg _ (if_pos h2)
      refine And.intro (hup _ e0) (And.intro hj3 ⟨rfl, ?_, rfl, rfl⟩)
      rw [e0]; rfl
    · have e1 : v_sumOfDraft σ c b (j + 1) = v_sumOfDraft σ c b j + (if σ.2 73 0 (j : Int) = c then (if b = 0 then 1 else σ.2 74 0 (j : Int)) else 0) := congrArg _ (if_neg h2)
      refine And.intro (hI.1 _ _ _ rfl) (And.intro hj2 (And.intro (fun h3 => And.intro (fun h4 => ?_) (fun h4 => ?_)) (fun h3 => ?_)))
      · have e0 : v_sumOfDraft σ c b (j + 1) = v_sumOfDraft σ c b j + 1 := by rw [e1, if_pos h3, if_pos h4]
        refine And.intro (hup _ e0) (And.intro hj3 ⟨rfl, ?_, rfl, rfl⟩)
        rw [e0]; rfl
      · have e0 : v_sumOfDraft σ c b (j + 1) = v_sumOfDraft σ c b j + σ.2 74 0 (j : Int) := by rw [e1, if_pos h3, if_neg h4]
        refine And.intro (hI.1 _ _ _ rfl) (And.intro hj2 ?_)
        refine And.intro (hup _ e0) (And.intro hj3 ⟨rfl, ?_, rfl, rfl⟩)
        rw [e0]; rfl
      · have e0 : v_sumOfDraft σ c b (j + 1) = v_sumOfDraft σ c b j + 0 := by rw [e1, if_neg h3]
        refine And.intro (hup _ e0) (And.intro hj3 ⟨rfl, ?_, rfl, rfl⟩)
        rw [e0]; rfl
    · exfalso; omega
