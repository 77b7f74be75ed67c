/-! ===== seeAlso ===== -/
theorem t174 {d : Nat} {h : qH} (hS : qSe h) {t o : Int} {M : qM} {F : Int → qM → Prop} (H1 : (0 ≤ t ∧ t < 10) → (-1 ≤ o ∧ o ≤ 9) ∧ o ≠ t → ∀ N, (∀ (k : Nat) (m s : Int), ¬ (k = 11 ∧ m = 0 ∧ (s = 0 ∨ s = 22)) → ¬ (k = 75 ∧ m = 0 ∧ s = t) → N k m s = M k m s) → N 11 0 0 = 0 → N 75 0 t = o → N 11 0 22 = 0 → F (M 75 0 t) N) (H2 : ¬ (0 ≤ t ∧ t < 10) → ∀ N, N = qU M 11 0 0 1 → F 0 N) (H3 : (0 ≤ t ∧ t < 10) → ¬ ((-1 ≤ o ∧ o ≤ 9) ∧ o ≠ t) → ∀ N, N = qU M 11 0 0 2 → F 0 N) : e174 (d + 2) h t o M F := by
  refine w174 hS (t152 hS (fun qa => ⟨fun z => absurd z (by decide), fun _ => ?_⟩) (fun qa => ⟨fun _ N hN => ?_, fun z => absurd rfl z⟩))
  · have qa' : 0 ≤ t ∧ t < 10 := by omega
    have main : ∀ x N, N = qU M 11 0 0 x → (x = 0 → (-1 ≤ o ∧ o ≤ 9) ∧ o ≠ t) → (x ≠ 0 → x = 2 ∧ ¬ ((-1 ≤ o ∧ o ≤ 9) ∧ o ≠ t)) → (((N 11 0 0) ≤ 0 → ((0 ≤ t ∧ t < 10) ∧ ((0 ≤ t ∧ t < 10) ∧ ∀ M128, M128 = qU N 75 0 t o → (∀ M131, M131 = qU M128 11 0 22 0 → F (N 75 0 t) M131)))) ∧ (¬ ((N 11 0 0) ≤ 0) → F 0 N)) := fun x N hN x0 x1 => by
      have e : N 11 0 0 = x := by rw [hN, qU_s]
      rw [e]
      by_cases z : x = 0
      · refine ⟨fun _ => ⟨qa', qa', fun N1 f1 N2 f2 => ?_⟩, fun y => by omega⟩
        have e1 : N 75 0 t = M 75 0 t := by rw [hN, qU_k (by decide)]
        rw [e1]
        exact H1 qa' (x0 z) N2 (fun k m s q q2 => by rw [f2, f1, hN]; unfold qU; rw [if_neg (by omega), if_neg (by omega), if_neg (by omega)]) (by rw [f2, qU_l (by decide), f1, qU_k (by decide), hN, qU_s, z]) (by rw [f2, qU_k (by decide), f1, qU_s]) (by rw [f2, qU_s])
      · have := x1 z
        exact ⟨fun y => by omega, fun _ => H3 qa' this.2 N (by rw [hN, this.1])⟩
    refine t152 hS (fun qb x hx N hN => main x N hN (fun z => ?_) (fun z => ?_)) (fun qb x hx N hN => main x N hN (fun z => ?_) (fun z => ?_))
    · rw [if_neg (by decide)] at hx
      refine ⟨qb, fun y => ?_⟩
      rw [if_pos y] at hx
      omega
    · rw [if_neg (by decide)] at hx
      by_cases y : o = t
      · rw [if_pos y] at hx
        exact ⟨hx, fun w => w.2 y⟩
      · rw [if_neg y] at hx
        exact absurd hx z
    · rw [if_pos rfl] at hx; omega
    · rw [if_pos rfl] at hx
      exact ⟨hx, fun w => qb w.1⟩
  · have e : N 11 0 0 = 1 := by rw [hN, qU_s]
    rw [e]
    exact ⟨fun z => absurd z (by decide), fun _ => H2 (by omega) N hN⟩
theorem y103 {d d' : Nat} {h : qH} (hS : qSe h) {n t o : Int} {B : pT} {M : qM} (hn : n < 512) (hr : c_rl n B M) : e103 (d + 3) h t o M (p_ok (n + 1) (e174 (d' + 2) h t o)) (p_ex (n + 1) (e174 (d' + 2) h t o) 2 0 1) := by
  have ms := hr.2.1.2.2
  have mk := hr.2.1.2.1.2.2.2
  have al := hr.2.2.1.2.1
  have no : (0 ≤ t ∧ t < 10) → ¬ ((-1 ≤ o ∧ o ≤ 9) ∧ o ≠ t) → p_ex (n + 1) (e174 (d' + 2) h t o) 2 0 1 0 M := fun qa q => Or.inl ⟨rfl, by decide, p_exc hn hr (fun F H => t174 hS (fun _ z => absurd z q) (fun z => absurd qa z) (fun _ _ => H 0))⟩
  refine w103 hS (t136 hS (fun q => ⟨fun z => w103_21 hS (no q (by omega)), fun z1 => ⟨fun z2 => ⟨fun z => w103_21 hS (no q (by omega)), fun z3 => ⟨q, q, fun M1 f1 M2 f2 => ?_⟩⟩, fun z => w103_21 hS (no q (by omega))⟩⟩) (fun q => Or.inr (Or.inr ⟨rfl, by decide, p_exc hn hr (fun F H => t174 hS (fun z => absurd z q) (fun _ => H 0) (fun z => absurd z q))⟩)))
  intro M4 f4
  have O4 : ∀ (k : Nat) (m s : Int), ¬ (k = 10 ∧ m = 0 ∧ s = 13) → ¬ (k = 63 ∧ m = 0 ∧ s = t) → k ≠ 138 → M4 k m s = M k m s := fun k m s q q2 q3 => by rw [f4, f2, f1]; unfold qU; rw [if_neg (by omega), if_neg (by omega), if_neg (by omega)]
  refine t174 hS (fun _ q2 N O e0 e75 e22 => ⟨e0, ?_, ?_, c_s8 (B 8) B, c_rl_up hn ?_⟩) (fun z => absurd q z) (fun _ z => absurd ⟨by omega, z3⟩ z)
  · rw [O4 _ _ _ (by omega) (by omega) (by decide), (al t q.1 q.2).1]
  · rw [O _ _ _ (by omega) (by omega), f4, qU_s]
  · have O' : ∀ (k : Nat) (m s : Int), k ≠ 138 → k ≠ 63 → k ≠ 75 → ¬ (k = 10 ∧ m = 0 ∧ s = 13) → ¬ (k = 11 ∧ m = 0 ∧ (s = 0 ∨ s = 22)) → N k m s = M k m s := fun k m s a1 a2 a3 a4 a5 => by
      rw [O k m s a5 (fun z => a3 z.1), O4 k m s a4 (fun z => a2 z.1) a1]
    refine c_rl_un hr (fun k m s q q2 => O' k m s (fun z => q (Or.inl z)) (fun z => q2 (by unfold c_sc3; omega)) (fun z => q2 (by unfold c_sc3; omega)) (fun z => q2 (by unfold c_sc3; omega)) (fun z => by unfold c_scr c_sc3 at *; omega)) ⟨hr.1.2.1.2.2.2.2.2.2.1, hr.1.2.1.2.2.2.2.2.2.2.1, hr.1.2.1.2.2.2.2.2.2.2.2⟩ ?_ e22 ⟨⟨?_, ?_, ?_⟩, ?_, ?_, ?_⟩ (fun s s0 s1 => ?_)
    · rw [O _ _ _ (by omega) (by omega), f4, qU_k (by decide), f2, qU_s]
    · rw [O' _ _ _ (by decide) (by decide) (by decide) (by omega) (by omega)]; exact ms.1
    · rw [O' _ _ _ (by decide) (by decide) (by decide) (by omega) (by omega)]; exact ms.2.1
    · rw [O' _ _ _ (by decide) (by decide) (by decide) (by omega) (by omega)]; exact ms.2.2
    · rw [O' _ _ _ (by decide) (by decide) (by decide) (by omega) (by omega)]; exact mk.1
    · rw [O' _ _ _ (by decide) (by decide) (by decide) (by omega) (by omega)]; exact mk.2.1
    · rw [O' _ _ _ (by decide) (by decide) (by decide) (by omega) (by omega)]; exact mk.2.2
    · by_cases e : s = t
      · subst e
        rw [e75, O _ _ _ (by omega) (by omega), f4, qU_k (by decide), f2, qU_k (by decide), f1, qU_s]
        exact ⟨rfl, by omega, by omega⟩
      · rw [O _ _ _ (by omega) (by omega), O4 _ _ _ (by omega) (by omega) (by decide), O _ _ _ (by omega) (by omega), O4 _ _ _ (by omega) (by omega) (by decide)]
        exact al s s0 s1
