/-! ===== pairs that change the draft ===== -/
theorem y_add {n w k v c : Int} {B : pT} {M N : qM} (hr : c_rl n B M) (hc : M 5 0 2 = c) (c20 : c < 20) (cw : c_word w k v) (f : ∀ (kk : Nat) (m s : Int), ¬ c_scr kk s → ¬ (kk = 5 ∧ m = 0 ∧ s = 2) → ¬ (32 ≤ kk ∧ kk ≤ 34 ∧ m = 0 ∧ s = c) → ¬ (72 ≤ kk ∧ kk ≤ 74 ∧ m = 0 ∧ s = c) → ¬ (kk = 11 ∧ s = 12) → N kk m s = M kk m s) (v1 : N 5 0 2 = c + 1 ∧ N 11 0 12 = c + 1) (v2 : N 32 0 c = w ∧ N 33 0 c = k ∧ N 34 0 c = v) (v3 : N 72 0 c = w ∧ N 73 0 c = k ∧ N 74 0 c = v) : c_rl n B N := by
  obtain ⟨d1, d2, d3⟩ := hr.2.2.1.1
  have lm := hr.2.2.1.2.2.1.1
  refine c_rl_dr hr (fun kk m s q1 q2 q3 q4 q5 => f kk m s q1 q2 (fun z => q3 ⟨z.1, z.2.1, z.2.2.1⟩) (fun z => q4 ⟨z.1, z.2.1⟩) q5) ⟨by omega, by omega, fun x x0 x1 => ?_⟩ ⟨fun it i => ?_, fun it => ?_⟩
  · by_cases e : x = c
    · subst e
      rw [v2.1, v2.2.1, v2.2.2, v3.1, v3.2.1, v3.2.2]
      exact ⟨rfl, rfl, rfl, cw⟩
    · have o : ∀ kk : Nat, (32 ≤ kk ∧ kk ≤ 34) ∨ (72 ≤ kk ∧ kk ≤ 74) → N kk 0 x = M kk 0 x := fun kk q => f kk 0 x (by unfold c_scr; omega) (by omega) (by omega) (by omega) (by omega)
      rw [o 32 (by omega), o 33 (by omega), o 34 (by omega), o 72 (by omega), o 73 (by omega), o 74 (by omega)]
      exact d3 x x0 (by omega)
  · by_cases e : it = 0 ∧ i = c
    · rw [e.1, e.2, v2.1]; exact cw.1
    · rw [f 32 it i (by unfold c_scr; omega) (by omega) (by omega) (by omega) (by omega)]; exact lm.1 it i
  · by_cases e : it = 0
    · rw [e, v1.1]; omega
    · rw [f 5 it 2 (by unfold c_scr; omega) (by omega) (by omega) (by omega) (by omega)]; exact lm.2 it
/-- the class has put a word; the model puts it -/
theorem y_put {d : Nat} {h : qH} (hS : qSe h) {n w k v c : Int} {B : pT} {M M1 M2 M3 : qM} {F : Int → qM → Prop} (hr : c_rl n B M) (hc : M 5 0 2 = c) (c20 : c < 20) (cw : c_word w k v) (O1 : ∀ (kk : Nat) (m s : Int), ¬ (kk = 5 ∧ m = 0 ∧ s = 2) → ¬ (32 ≤ kk ∧ kk ≤ 34 ∧ m = 0 ∧ s = c) → M1 kk m s = M kk m s) (a5 : M1 5 0 2 = c + 1) (a2 : M1 32 0 c = w) (a3 : M1 33 0 c = k) (a4 : M1 34 0 c = v) (g2 : M2 = qU M1 138 0 0 (c + 1)) (g3 : M3 = qU M2 11 0 0 0) (H : ∀ N, c_rl n B N → N 11 0 0 = 0 → N 138 0 0 = c + 1 → F (c + 1) N) : e162 (d + 1) h w k v M3 F := by
  obtain ⟨d1, d2, d3⟩ := hr.2.2.1.1
  have O3 : ∀ (kk : Nat) (m s : Int), ¬ (kk = 138 ∧ m = 0 ∧ s = 0) → ¬ (kk = 11 ∧ m = 0 ∧ s = 0) → M3 kk m s = M1 kk m s := fun kk m s q q2 => by rw [g3, g2]; unfold qU; rw [if_neg (by omega), if_neg (by omega)]
  refine t162 hS (c := c) (by rw [O3 _ _ _ (by omega) (by omega), O1 _ _ _ (by omega) (by omega)]; omega) ⟨by omega, c20⟩ (fun N O b12 b72 b73 b74 => H N (y_add hr hc c20 cw (fun kk m s q1 q2 q3 q4 q5 => ?_) ⟨?_, b12⟩ ⟨?_, ?_, ?_⟩ ⟨b72, b73, b74⟩) ?_ ?_)
  · rw [O kk m s (fun z => q5 ⟨z.1, z.2.2⟩) q4, O3 kk m s (fun z => q1 (Or.inl z.1)) (fun z => q1 (by unfold c_scr; omega)), O1 kk m s q2 q3]
  · rw [O _ _ _ (by omega) (by omega), O3 _ _ _ (by omega) (by omega)]; exact a5
  · rw [O _ _ _ (by omega) (by omega), O3 _ _ _ (by omega) (by omega)]; exact a2
  · rw [O _ _ _ (by omega) (by omega), O3 _ _ _ (by omega) (by omega)]; exact a3
  · rw [O _ _ _ (by omega) (by omega), O3 _ _ _ (by omega) (by omega)]; exact a4
  · rw [O _ _ _ (by omega) (by omega), g3, qU_s]
  · rw [O _ _ _ (by omega) (by omega), g3, qU_k (by decide), g2, qU_s]
theorem t163 {d : Nat} {h : qH} (hS : qSe h) {w k v : Int} {M : qM} {F : Int → qM → Prop} (H1 : (1 ≤ w ∧ w ≤ 8) ∧ qVal k v → M 11 0 12 ≠ 20 → ∀ N, N = qU M 11 0 0 0 → e162 (d + 1) h w k v N F) (H2 : ¬ ((1 ≤ w ∧ w ≤ 8) ∧ qVal k v) → ∀ b N, N = qU M 11 0 0 1 → F b N) (H3 : (1 ≤ w ∧ w ≤ 8) ∧ qVal k v → M 11 0 12 = 20 → ∀ b N, N = qU M 11 0 0 2 → F b N) : e163 (d + 3) h w k v M F := by
  refine w163 hS (t152 hS (fun qa => ⟨fun z => absurd z (by decide), fun _ => t161 (fun qv x hx N hN => ?_) (fun qv x hx N hN => ?_)⟩) (fun qa => ⟨fun _ N hN => ?_, fun z => absurd rfl z⟩))
  · have e : N 11 0 0 = x := by rw [hN, qU_s]
    rw [e]
    rw [if_neg (by decide)] at hx
    by_cases m : M 11 0 12 = 20
    · rw [if_pos m] at hx
      exact ⟨fun z => by omega, fun _ => H3 ⟨qa, qv⟩ m 0 N (by rw [hN, hx])⟩
    · rw [if_neg m] at hx
      exact ⟨fun _ => H1 ⟨qa, qv⟩ m N (by rw [hN, hx]), fun z => by omega⟩
  · have e : N 11 0 0 = x := by rw [hN, qU_s]
    rw [e]
    rw [if_pos rfl] at hx
    exact ⟨fun z => by omega, fun _ => H2 (fun z => qv z.2) 0 N (by rw [hN, hx])⟩
  · have e : N 11 0 0 = 1 := by rw [hN, qU_s]
    rw [e]
    exact ⟨fun z => absurd z (by decide), fun _ => H2 (fun z => qa z.1) 0 N hN⟩
theorem t164 {d : Nat} {h : qH} (hS : qSe h) {v : Int} {M : qM} {F : Int → qM → Prop} (H1 : (0 ≤ v ∧ v < 10) → M 11 0 12 ≠ 20 → ∀ N, N = qU M 11 0 0 0 → e162 (d + 1) h 0 6 v N F) (H2 : ¬ (0 ≤ v ∧ v < 10) → ∀ b N, N = qU M 11 0 0 1 → F b N) (H3 : (0 ≤ v ∧ v < 10) → M 11 0 12 = 20 → ∀ b N, N = qU M 11 0 0 2 → F b N) : e164 (d + 2) h v M F := by
  refine w164 hS (t152 hS (fun qa x hx N hN => ?_) (fun qa x hx N hN => ?_))
  · have e : N 11 0 0 = x := by rw [hN, qU_s]
    rw [e]
    rw [if_neg (by decide)] at hx
    by_cases m : M 11 0 12 = 20
    · rw [if_pos m] at hx
      exact ⟨fun z => by omega, fun _ => H3 (by omega) m 0 N (by rw [hN, hx])⟩
    · rw [if_neg m] at hx
      exact ⟨fun _ => H1 (by omega) m N (by rw [hN, hx]), fun z => by omega⟩
  · have e : N 11 0 0 = x := by rw [hN, qU_s]
    rw [e]
    rw [if_pos rfl] at hx
    exact ⟨fun z => by omega, fun _ => H2 (by omega) 0 N (by rw [hN, hx])⟩
theorem y97 {d d' : Nat} {h : qH} (hS : qSe h) {n w k v : Int} {B : pT} {M : qM} (hn : n < 512) (hr : c_rl n B M) : e97 (d + 3) h w k v M (p_ok (n + 1) (e163 (d' + 3) h w k v)) (p_ex (n + 1) (e163 (d' + 3) h w k v) 1 2 0) := by
  obtain ⟨d1, d2, d3⟩ := hr.2.2.1.1
  have no : ¬ ((1 ≤ w ∧ w ≤ 8) ∧ qVal k v) → p_ex (n + 1) (e163 (d' + 3) h w k v) 1 2 0 0 M := fun q => Or.inl ⟨rfl, by decide, p_exc hn hr (fun F H => t163 hS (fun z => absurd z q) (fun _ => H) (fun z => absurd z q))⟩
  refine w97 hS ⟨fun z => w97_19 hS (no (by omega)), fun z1 => ⟨fun z2 => t146 (fun qv => ⟨fun z => absurd z (by decide), fun _ => w139 hS ⟨fun c20 => ?_, fun c20 => Or.inr (Or.inl ⟨rfl, by decide, p_exc hn hr (fun F H => t163 hS (fun _ z => absurd (show M 11 0 12 = 20 by omega) z) (fun z => absurd ⟨⟨by omega, z2⟩, qv⟩ z) (fun _ _ => H))⟩)⟩⟩) (fun qv => ⟨fun _ => w97_19 hS (no (fun z => qv z.2)), fun z => absurd rfl z⟩), fun z => w97_19 hS (no (by omega))⟩⟩
  refine t44 hS (c := M 5 0 2) rfl ⟨by omega, c20⟩ (fun M1 O1 a5 a2 a3 a4 => ?_)
  rw [a5]
  intro M2 g2
  have e12 : M2 11 0 12 = M 5 0 2 := by rw [g2, qU_k (by decide), O1 _ _ _ (by omega) (by omega)]; exact d2
  refine t163 hS (fun _ _ M3 g3 => y_put hS hr rfl c20 ?_ O1 a5 a2 a3 a4 g2 g3 (fun N hN n0 n1 => ⟨n0, rfl, n1, B, c_rl_up hn hN⟩)) (fun z => absurd ⟨⟨by omega, z2⟩, qv⟩ z) (fun _ z => by omega)
  unfold qVal at qv
  unfold c_word
  omega
theorem y98 {d d' : Nat} {h : qH} (hS : qSe h) {n v : Int} {B : pT} {M : qM} (hn : n < 512) (hr : c_rl n B M) : e98 (d + 3) h v M (p_ok (n + 1) (e164 (d' + 2) h v)) (p_ex (n + 1) (e164 (d' + 2) h v) 1 2 0) := by
  obtain ⟨d1, d2, d3⟩ := hr.2.2.1.1
  refine w98 hS (t145 hS (fun qv => ⟨fun z => absurd z (by decide), fun _ => w139 hS ⟨fun c20 => ?_, fun c20 => Or.inr (Or.inl ⟨rfl, by decide, p_exc hn hr (fun F H => t164 hS (fun _ z => absurd (show M 11 0 12 = 20 by omega) z) (fun z => absurd qv z) (fun _ _ => H))⟩)⟩⟩) (fun qv => ⟨fun _ => Or.inl ⟨rfl, by decide, p_exc hn hr (fun F H => t164 hS (fun z => absurd z qv) (fun _ => H) (fun z => absurd z qv))⟩, fun z => absurd rfl z⟩))
  refine t44 hS (c := M 5 0 2) rfl ⟨by omega, c20⟩ (fun M1 O1 a5 a2 a3 a4 => ?_)
  rw [a5]
  intro M2 g2
  have e12 : M2 11 0 12 = M 5 0 2 := by rw [g2, qU_k (by decide), O1 _ _ _ (by omega) (by omega)]; exact d2
  refine t164 hS (fun _ _ M3 g3 => y_put hS hr rfl c20 ?_ O1 a5 a2 a3 a4 g2 g3 (fun N hN n0 n1 => ⟨n0, rfl, n1, B, c_rl_up hn hN⟩)) (fun z => absurd qv z) (fun _ z => by omega)
  unfold c_word
  omega
theorem y99 {d d' : Nat} {h : qH} (hS : qSe h) {n : Int} {B : pT} {M : qM} (hn : n < 512) (hr : c_rl n B M) : e99 (d + 1) h M (p_eq (n + 1) (e165 (d' + 1) h)) := by
  obtain ⟨d1, d2, d3⟩ := hr.2.2.1.1
  have lm := hr.2.2.1.2.2.1.1
  refine w99 hS (fun M1 f1 => w165 hS (fun M2 f2 M3 f3 => ?_))
  have O : ∀ (k : Nat) (m s : Int), ¬ (k = 5 ∧ m = 0 ∧ s = 2) → ¬ (k = 11 ∧ m = 0 ∧ (s = 0 ∨ s = 12)) → M3 k m s = M k m s := fun k m s q q2 => by rw [f3, f2, f1]; unfold qU; rw [if_neg (by omega), if_neg (by omega), if_neg (by omega)]
  have e12 : M2 11 0 12 = M 5 0 2 := by rw [f2, qU_l (by decide), f1, qU_k (by decide)]; exact d2
  have v5 : M3 5 0 2 = 0 := by rw [f3, qU_k (by decide), f2, qU_k (by decide), f1, qU_s]
  rw [e12]
  refine ⟨rfl, B, c_rl_up hn (c_rl_dr hr (fun k m s q1 q2 q3 q4 q5 => O k m s q2 (fun z => by unfold c_scr at q1; omega)) ⟨by omega, ?_, fun w w0 w1 => by omega⟩ ⟨fun it i => ?_, fun it => ?_⟩)⟩
  · have v12 : M3 11 0 12 = 0 := by rw [f3, qU_s]
    omega
  · rw [O _ _ _ (by omega) (by omega)]; exact lm.1 it i
  · by_cases e : it = 0
    · rw [e, v5]; omega
    · rw [O _ _ _ (by omega) (by omega)]; exact lm.2 it
