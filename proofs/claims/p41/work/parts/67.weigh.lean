/-! ===== Arrays.fill of a range, PageMaker.weighEnds, weighWay, weighPage ===== -/
theorem t266 {d : Nat} {h : qH} {n a b : Int} {M : qM} {f : qM → Prop} (hab : 0 ≤ a ∧ a ≤ b ∧ b ≤ n) (H : f M) : qJ (d + 1) 266 [.inl n, .inl a, .inl b] (h, M) (qRv h f) :=
  qJ.body (Nat.le_of_ble_eq_true rfl) (qWq (fun _ => false) 60 (And.intro (fun _ => And.intro (fun q => absurd hab.1 (Int.not_le.mpr q)) (fun _ => And.intro (fun _ => And.intro rfl ⟨M, rfl, rfl, H⟩) (fun q => absurd hab.2.2 q))) (fun q => absurd hab.2.1 q)))
theorem t268 {d : Nat} {h : qH} {a b v : Int} {M : qM} {f : qM → Prop} (hab : 0 ≤ a ∧ a ≤ b ∧ b ≤ 22720)
    (H : ∀ M', (∀ (k : Nat) (m s : Int), ¬ (k = 41 ∧ m = 0 ∧ a ≤ s ∧ s < b) → M' k m s = M k m s) → (∀ s, a ≤ s → s < b → M' 41 0 s = v) → f M') : qEv (d + 2) 268 [.inr (.inl (some (41, 0))), .inl a, .inl b, .inl v] h M f := by
  have loop : ∀ M', (∀ (k : Nat) (m s : Int), ¬ (k = 41 ∧ m = 0 ∧ a ≤ s ∧ s < b) → M' k m s = M k m s) → (∀ s, a ≤ s → s < a → M' 41 0 s = v) → qG (d + 1) (-1, fun _ => 0) (qP 268) (qRv h f) 10 [.inr (.inl (some (41, 0))), .inl a, .inl b, .inl v, .inl a] [] (h, M') := by
    refine q_upto (P := fun j => a ≤ j → ∀ M', (∀ (k : Nat) (m s : Int), ¬ (k = 41 ∧ m = 0 ∧ a ≤ s ∧ s < b) → M' k m s = M k m s) → (∀ s, a ≤ s → s < j → M' 41 0 s = v) → qG (d + 1) (-1, fun _ => 0) (qP 268) (qRv h f) 10 [.inr (.inl (some (41, 0))), .inl a, .inl b, .inl v, .inl j] [] (h, M')) (a := a) (b := b) hab.2.1 ?_ ?_ (Int.le_refl _)
    · intro _ M' f1 f2
      exact qWq (fun pc => Nat.beq pc 10) 60 (And.intro (fun q => absurd q (Int.lt_irrefl _)) (fun _ => And.intro rfl ⟨M', rfl, rfl, H M' f1 f2⟩))
    · intro j j0 j1 ih _ M' f1 f2
      have hb1 : 0 ≤ j ∧ j < 22720 := ⟨by omega, by omega⟩
      have hb2 : qIn (j + 1) := ⟨by omega, by omega⟩
      have nxt := ih (by omega) (qU M' 41 0 j v) (fun k m s q => by rw [← f1 k m s q]; unfold qU; rw [if_neg (by omega)]) (fun s s0 s1 => by
        by_cases hs : s = j
        · rw [hs, qU_s]
        · rw [qU_l hs]; exact f2 s s0 (by omega))
      exact qWq (fun pc => Nat.beq pc 10) 60 (And.intro (fun _ => And.intro hb1 (And.intro hb2 nxt)) (fun q => absurd j1 q))
  have l0 := loop M (fun _ _ _ _ => rfl) (fun s s0 s1 => by omega)
  exact qJ.body (Nat.le_of_ble_eq_true rfl) (qWq (fun pc => Nat.beq pc 10) 60 (And.intro rfl (qEv.go (t266 (d := d) (f := fun M2 => qG (d + 1) (-1, fun _ => 0) (qP 268) (qRv h f) 10 [.inr (.inl (some (41, 0))), .inl a, .inl b, .inl v, .inl a] [] (h, M2)) ⟨hab.1, hab.2.1, hab.2.2⟩ l0) (Nat.le_refl _) (fun M2 h2 => h2))))
theorem t267 {d k : Nat} {h : qH} {n v len : Int} {x : Nat × Int × Int} {M : qM} {f : qM → Prop} (hk : qKd qT0 k = (1, len, x)) (hlen : 0 ≤ len ∧ len ≤ 30000)
    (H : ∀ M', (∀ (k2 : Nat) (m s : Int), ¬ (k2 = k ∧ m = n ∧ 0 ≤ s ∧ s < len) → M' k2 m s = M k2 m s) → (∀ s, 0 ≤ s → s < len → M' k n s = v) → f M') : qEv (d + 1) 267 [.inr (.inl (some (k, n))), .inl v] h M f := by
  refine (s_fill (d := d) (n := n) (v := v) (σ := (h, M)) hk hlen).imp fun r σ' hr => ?_
  obtain ⟨rfl, rfl⟩ := hr
  have e : (qFill (h, M) k n v len.toNat) = (h, (qFill (h, M) k n v len.toNat).2) := by
    have := qFill_h (σ := (h, M)) (k := k) (n := n) (v := v) len.toNat
    exact Prod.ext this rfl
  refine ⟨(qFill (h, M) k n v len.toNat).2, rfl, e, H _ (fun k2 m s q => ?_) (fun s s0 s1 => ?_)⟩
  · rw [qFill_M, if_neg (fun z => q ⟨z.1, z.2.1, z.2.2.1, by have := z.2.2.2; omega⟩)]
  · rw [qFill_M, if_pos ⟨rfl, rfl, s0, by omega⟩]
theorem t74 {d : Nat} {h : qH} (hS : qSe h) {p v w : Int} {M : qM} {F : qM → Prop} (hp : 0 ≤ p ∧ p < 22720)
    (H1 : v < M 41 0 p → ∀ M', (∀ (k : Nat) (m s : Int), ¬ ((k = 41 ∨ k = 42) ∧ m = 0 ∧ s = p) → M' k m s = M k m s) → M' 41 0 p = v → M' 42 0 p = w → F M') (H0 : ¬ v < M 41 0 p → F M) : e74 (d + 1) h p v w M F := by
  refine w74 hS ⟨hp, fun k => ⟨hp, fun M1 f1 => ⟨hp, fun M2 f2 => H1 k M2 (fun k m s q => ?_) ?_ ?_⟩⟩, fun k => H0 k⟩
  · rw [f2, f1]; unfold qU; rw [if_neg (by omega), if_neg (by omega)]
  · rw [f2, qU_k (by decide), f1, qU_s]
  · rw [f2, qU_s]
/-- behind the last row -/
theorem t71 {d : Nat} {h : qH} (hS : qSe h) {T : pT} {r : Int} {M : qM} {F : qM → Prop} (hT : g_tab T) (hM : g_cM T r M)
    (H : ∀ M', (∀ (k : Nat) (m s : Int), ¬ (k = 7 ∧ m = 0 ∧ 10 ≤ s ∧ s ≤ 12) → ¬ (k = 41 ∧ m = 0 ∧ T 8 0 * 320 ≤ s) → M' k m s = M k m s) → (∀ s, M' 41 0 s = M 41 0 s ∨ (0 ≤ M' 41 0 s ∧ M' 41 0 s ≤ 80)) → (∀ f n x, g_at T (T 8 0) f n → 0 ≤ x → x ≤ 15 → M' 41 0 (g_place T (T 8 0) f n * 16 + x) = 5 * g_bN T f n) → F M') : e71 (d + 3) h M F := by
  have h70 := hT.1
  have hF := hT.2.2.1
  have hN := hT.2.2.2.1
  have tR := g_tab_at hT (a := T 8 0) ⟨h70.1, Int.le_refl _⟩
  obtain ⟨m3, m4, r0, c1, -⟩ := id hM
  have q1 : M 7 0 3 - 1 = r := by omega
  have eR := hT.2.2.2.2.2.1
  refine w71 hS ⟨fun q => by omega, fun _ => ?_, fun q => by omega⟩
  rw [q1, c1]
  refine ⟨⟨by omega, by omega⟩, ?_⟩
  have loop : ∀ (u2 u3 : qV) (M1 : qM), (∀ (k : Nat) (m s : Int), ¬ (k = 7 ∧ m = 0 ∧ 10 ≤ s ∧ s ≤ 12) → ¬ (k = 41 ∧ m = 0 ∧ T 8 0 * 320 ≤ s) → M1 k m s = M k m s) → (∀ s, M1 41 0 s = M 41 0 s ∨ (0 ≤ M1 41 0 s ∧ M1 41 0 s ≤ 80)) → (∀ f n x, g_at T (T 8 0) f n → g_place T (T 8 0) f n < T 8 0 * 20 → 0 ≤ x → x ≤ 15 → M1 41 0 (g_place T (T 8 0) f n * 16 + x) = 5 * g_bN T f n) → b71_11 d h F (T 8 0 * 20) u2 u3 M1 := by
    refine q_upto (P := fun p => T 8 0 * 20 ≤ p → ∀ (u2 u3 : qV) (M1 : qM), (∀ (k : Nat) (m s : Int), ¬ (k = 7 ∧ m = 0 ∧ 10 ≤ s ∧ s ≤ 12) → ¬ (k = 41 ∧ m = 0 ∧ T 8 0 * 320 ≤ s) → M1 k m s = M k m s) → (∀ s, M1 41 0 s = M 41 0 s ∨ (0 ≤ M1 41 0 s ∧ M1 41 0 s ≤ 80)) → (∀ f n x, g_at T (T 8 0) f n → g_place T (T 8 0) f n < p → 0 ≤ x → x ≤ 15 → M1 41 0 (g_place T (T 8 0) f n * 16 + x) = 5 * g_bN T f n) → b71_11 d h F p u2 u3 M1) (a := T 8 0 * 20) (b := T 8 0 * 20 + 20) (by omega) ?_ ?_ (Int.le_refl _)
    · intro _ u2 u3 M1 O1 z1 v1
      have hM1 := g_cM_fr hM (M' := M1) (fun k m s q => O1 k m s (by omega) (by omega))
      obtain ⟨m3', m4', -, c1', -⟩ := id hM1
      have q1' : M1 7 0 3 - 1 = r := by omega
      have fin : F M1 := H M1 O1 z1 (fun f n x hs x0 x1 => v1 f n x hs (by have := g_place_p hT hs; omega) x0 x1)
      refine w71_11 hS ⟨fun _ => ⟨fun q => by omega, fun _ => ?_, fun q => by omega⟩, fun _ => fin⟩
      rw [q1', c1']
      exact ⟨⟨by omega, by omega⟩, ⟨by omega, by omega⟩, fun q => by omega, fun _ => fin⟩
    · intro p p0 p1 ih hp0 u2 u3 M1 O1 z1 v1
      have hM1 := g_cM_fr hM (M' := M1) (fun k m s q => O1 k m s (by omega) (by omega))
      obtain ⟨m3', m4', -, c1', -⟩ := id hM1
      have q1' : M1 7 0 3 - 1 = r := by omega
      have p20 : p / 20 = T 8 0 := by omega
      refine w71_11 hS ⟨fun _ => ⟨fun q => by omega, fun _ => ?_, fun q => by omega⟩, fun q => by omega⟩
      rw [q1', c1']
      refine ⟨⟨by omega, by omega⟩, ⟨by omega, by omega⟩, fun _ => t63 hS hT hM1 ⟨by omega, by omega⟩ (t64 hS hT hM1 ⟨by omega, by omega⟩ ?_), fun q => by omega⟩
      rw [p20]
      -- nothing to write here
      have skip : (∀ f n, g_at T (T 8 0) f n → g_place T (T 8 0) f n ≠ p) → ∀ (u2 u3 : qV), b71_11 d h F (p + 1) u2 u3 M1 := fun hno u2 u3 => ih (by omega) u2 u3 M1 O1 z1 (fun f n x hs hlt x0 x1 => v1 f n x hs (by have := hno f n hs; omega) x0 x1)
      refine ⟨fun k => ⟨⟨by omega, by omega⟩, skip (fun f n hs e => by have := g_place_p hT hs; rw [e] at this; have := hs.2.1; omega) _ _⟩, fun k => ⟨fun k2 => ⟨⟨by omega, by omega⟩, skip (fun f n hs e => by have := g_place_p hT hs; rw [e] at this; have := hs.2.2; omega) _ _⟩, fun k2 => ⟨⟨by omega, by omega⟩, ⟨by omega, by omega⟩, ⟨by omega, by omega⟩, t66 hS hT hM1 ⟨by omega, by omega⟩ ⟨by omega, by omega⟩ (fun M2 O2 => ?_)⟩⟩⟩
      have bn := g_bN_s hT (f := T 1 (T 8 0) - p % 20 / 4) (n := T 2 (T 8 0) - p % 4) ⟨by omega, by omega⟩ ⟨by omega, by omega⟩
      refine ⟨⟨by omega, by omega⟩, t268 ⟨by omega, by omega, by omega⟩ (fun M3 O3 v3 => ⟨⟨by omega, by omega⟩, ih (by omega) _ _ M3 (fun k m s q1 q2 => ?_) (fun s => ?_) (fun f n x hs hlt x0 x1 => ?_)⟩)⟩
      · rw [O3 k m s (by omega), O2 k m s q1]; exact O1 k m s q1 q2
      · by_cases hin : p * 16 ≤ s ∧ s < (p + 1) * 16
        · rw [v3 s hin.1 hin.2]; right; omega
        · rw [O3 _ _ _ (by omega), O2 _ _ _ (by omega)]; exact z1 s
      · by_cases e : g_place T (T 8 0) f n = p
        · have pp := g_place_p hT hs
          rw [e] at pp ⊢
          rw [v3 _ (by omega) (by omega), pp.2.2.1, pp.2.2.2]
        · rw [O3 _ _ _ (by omega), O2 _ _ _ (by omega)]
          exact v1 f n x hs (by omega) x0 x1
  exact loop _ _ M (fun _ _ _ _ _ => rfl) (fun _ => Or.inl rfl) (fun f n x hs hlt _ _ => by have := g_place_p hT hs; omega)
