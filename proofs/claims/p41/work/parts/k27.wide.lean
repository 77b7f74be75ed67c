/-! ===== the law's widest round; one round at the head ===== -/
theorem k_dg3 {x : Int} : 0 ≤ b_dg x ∧ b_dg x ≤ 3 := by
  unfold b_dg
  split
  · omega
  · split <;> omega
theorem k_W_q {B : pT} {Rq : Int → c_R} {t : Int} (hB2 : c_ok2 B) : k_W B (c_Wq B Rq t) := fun y y0 y1 th => by
  refine ⟨(c_Wq_b y).1, fun k6 => ?_⟩
  have eK : c_K B y = B 4 y := if_pos th
  have k6' : c_K B y ≠ 6 := by rw [eK]; exact k6
  unfold c_Wq
  by_cases q : t ≤ 0
  · rw [if_pos q]
    unfold c_W0 b_w0
    rw [if_neg k6']
    by_cases k2 : c_K B y = 2
    · rw [if_pos k2]
      split
      · exact k_dg3.2
      · decide
    · rw [if_neg k2]; decide
  · rw [if_neg q]
    unfold c_W1 b_w1
    rw [if_neg k6']
    by_cases k2 : c_K B y = 2
    · rw [if_pos k2]; exact k_dg3.2
    · rw [if_neg k2]; decide
theorem k_W_w {B : pT} {Rq : Int → c_R} {a n : Int} (hB2 : c_ok2 B) (han : a ≤ n) : k_W B (c_wide B Rq a n) := fun y y0 y1 th => by
  refine ⟨(c_wide_b han y).1, fun k6 => ?_⟩
  unfold c_wide
  exact (b_mx_b (by decide) han (fun r _ _ => ⟨(c_Wq_b y).1.1, (k_W_q (Rq := Rq) (t := r) hB2 y y0 y1 th).2 k6⟩)).2
section
variable {d : Nat} {h : qH} {f : Int → qH → qM → Prop} {B : pT} {kp t : Int} {M : qM}
/-- the widest of some rounds is taken -/
theorem k_377 {Rq : Int → c_R} {ring : Int} (hS : qSe h) (hB : c_ok B) (hB2 : c_ok2 B) (hl : k_lim B) (ho : k_off B M) (ht : 0 ≤ t ∧ t < 12) (hr : 0 ≤ ring ∧ ring ≤ t) (hh : ∀ s, 0 ≤ s → s < t + 1 → k_hist B (c_Wq B Rq s) s M) (u5 u19 u22 u23 : qV)
    (H : ∀ M', (∀ (k : Nat) (o s : Int), ¬ (k = 68 ∧ o = 0) → M' k o s = M k o s) → k_e 68 B (c_wide B Rq ring (t + 1)) M' → ∀ M2, M2 = qU M' 76 0 8 1 → e208 (d + 6) h kp M2 (fun v108 z111 M109 => ((¬ (v108 = 0) → qIn (t + 2)) ∧ (∀ x112 : Int, x112 = (if v108 = 0 then (-1) else (t + 2)) → f x112 z111 M109)))) : b215_377 d h f u5 kp t u19 ring 0 u22 u23 M := by
  have N48 := k_O_b hB hB2 hl 18 (by decide) (by decide)
  have nibv : ∀ i, 0 ≤ i → i < k_O B 18 → ∃ y, ∀ s, 0 ≤ s → s < t + 1 → k_nib M s i = c_Wq B Rq s y := fun i a b => by
    obtain ⟨it, w, p, q, e⟩ := k_O_ex hB ⟨a, b⟩
    exact ⟨k_y it w, fun s s0 s1 => by rw [e]; exact hh s s0 s1 it w p.1 p.2 q.1 q.2⟩
  refine q_upto (P := fun i => ∀ (M1 : qM) (u22 u23 : qV), 0 ≤ i → (∀ (k : Nat) (o s : Int), ¬ (k = 68 ∧ o = 0) → M1 k o s = M k o s) → (∀ j, 0 ≤ j → j < i → M1 68 0 j = b_mx (fun s => k_nib M s j) ring (t + 1)) → b215_377 d h f u5 kp t u19 ring i u22 u23 M1) (a := 0) (b := k_O B 18) N48.1 (fun M1 u22 u23 _ O1 v1 => ?_) (fun i i0 i1 ih M1 u22 u23 _ O1 v1 => ?_) M u22 u23 (Int.le_refl _) (fun _ _ _ _ => rfl) (fun j a b => by omega)
  · have e67 : M1 67 0 18 = k_O B 18 := by rw [O1 _ _ _ (by omega)]; exact ho 18 (by decide) (by decide)
    refine w215_377 hS ?_
    rw [e67]
    refine ⟨fun z => absurd z (Int.lt_irrefl _), fun _ M2 e2 => H M1 O1 (fun it w a b e g => ?_) M2 e2⟩
    have o1 := k_O_m hB a b
    have o0 := k_O_b hB hB2 hl it a (by omega)
    rw [v1 _ (by omega) (by omega)]
    unfold c_wide
    exact b_mx_cg (by omega) (fun s s0 s1 => hh s (by omega) s1 it w a b e g)
  · have e67 : M1 67 0 18 = k_O B 18 := by rw [O1 _ _ _ (by omega)]; exact ho 18 (by decide) (by decide)
    refine w215_377 hS ?_
    rw [e67]
    refine ⟨fun _ => ⟨⟨by omega, by omega⟩, fun M2 f2 => ?_⟩, fun z => absurd i1 z⟩
    have O2 : ∀ (k : Nat) (o s : Int), ¬ (k = 68 ∧ o = 0 ∧ s = i) → M2 k o s = M1 k o s := fun k o s z => by rw [f2]; unfold qU; rw [if_neg z]
    obtain ⟨y, hy⟩ := nibv i i0 i1
    have bnd : ∀ r, r ≤ t + 1 → ring ≤ r → 0 ≤ b_mx (fun s => k_nib M s i) ring r ∧ b_mx (fun s => k_nib M s i) ring r ≤ 8 := fun r r1 r0 => b_mx_b (by decide) r0 (fun s s0 s1 => by
      show 0 ≤ k_nib M s i ∧ k_nib M s i ≤ 8
      rw [hy s (by omega) (by omega)]; exact (c_Wq_b y).1)
    refine q_upto (P := fun r => ∀ (M3 : qM) (u23 : qV), ring ≤ r → (∀ (k : Nat) (o s : Int), ¬ (k = 68 ∧ o = 0 ∧ s = i) → M3 k o s = M1 k o s) → M3 68 0 i = b_mx (fun s => k_nib M s i) ring r → b215_396 d h f u5 kp t u19 ring i r u23 M3) (a := ring) (b := t + 1) (by omega) (fun M3 u23 _ O3 v3 => ?_) (fun r r0 r1 ihr M3 u23 _ O3 v3 => ?_) M2 u23 (Int.le_refl _) O2 (by rw [f2, qU_s, b_mx_0])
    · refine w215_396 hS ⟨fun z => absurd z (by omega), fun _ => ⟨⟨by omega, by omega⟩, ih M3 _ _ (by omega) (fun k o s z => by rw [O3 k o s (fun y => z ⟨y.1, y.2.1⟩)]; exact O1 k o s z) (fun j a b => ?_)⟩⟩
      by_cases e : j = i
      · subst e; exact v3
      · rw [O3 _ _ _ (by omega)]; exact v1 j a (by omega)
    · have en : M3 70 0 (4 * r + i / 16) / 2 ^ (4 * (i % 16)).toNat % 16 = k_nib M r i := by
        unfold k_nib
        rw [O3 _ _ _ (by omega), O1 _ _ _ (by omega)]
      have bn : 0 ≤ k_nib M r i ∧ k_nib M r i ≤ 8 := by rw [hy r (by omega) (by omega)]; exact (c_Wq_b y).1
      have bm := bnd r (by omega) r0
      refine w215_396 hS ⟨fun _ => ⟨⟨by omega, by omega⟩, i0, ⟨by omega, by omega⟩, ⟨by omega, by omega⟩, i0, ⟨by omega, by omega⟩, ⟨by omega, by omega⟩, ⟨by omega, by omega⟩, fun _ => ⟨by omega, by omega⟩, fun x hx => ⟨⟨by omega, by omega⟩, fun M4 f4 => ⟨⟨by omega, by omega⟩, ?_⟩⟩⟩, fun z => absurd (show r ≤ t by omega) z⟩
      rw [k_l15, en, k_wr ⟨by omega, by omega⟩, v3] at hx
      refine ihr M4 _ (by omega) (fun k o s z => by rw [f4]; unfold qU; rw [if_neg z]; exact O3 k o s z) ?_
      rw [f4, qU_s, hx, b_mx_s r0]
      by_cases a : k_nib M r i ≤ b_mx (fun s => k_nib M s i) ring r
      · rw [if_pos a]
        split <;> omega
      · rw [if_neg a, if_pos (by omega)]
end
