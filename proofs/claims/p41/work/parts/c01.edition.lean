/-! ===== Chapter.heads, Edition.begin, kindAt ===== -/
theorem p_sum_sh {g : Int → Int} {a n : Int} (ha : 0 ≤ a) (hn : 0 ≤ n) : p_sum g (a + n) = p_sum g a + p_sum (fun i => g (a + i)) n := by
  refine q_upto (P := fun x => 0 ≤ x → p_sum g (a + x) = p_sum g a + p_sum (fun i => g (a + i)) x → p_sum g (a + n) = p_sum g a + p_sum (fun i => g (a + i)) n) hn (fun _ q => q) (fun x x0 x1 ih _ q => ih (by omega) ?_) (Int.le_refl _) (by rw [p_sum_0]; simp)
  rw [p_sum_s x0, show a + (x + 1) = a + x + 1 by omega, p_sum_s (by omega), q]
  show p_sum g a + p_sum (fun i => g (a + i)) x + g (a + x) = p_sum g a + (p_sum (fun i => g (a + i)) x + g (a + x))
  omega
theorem t9 {d : Nat} {h : qH} (hS : qSe h) {B : pT} {c : Int} {M : qM} {F : Int → qM → Prop} (hM : c_bk B M) (hc : 0 ≤ c ∧ c < 3) (hn : 0 ≤ B 0 c ∧ B 0 c ≤ 10) (H : F (p_sum (fun i => if B 1 (10 * c + i) = 0 then 0 else 1) (B 0 c)) M) : e9 (d + 1) h c M F := by
  refine w9 hS ?_
  refine q_upto (P := fun x => 0 ≤ x → (0 ≤ p_sum (fun i => if B 1 (10 * c + i) = 0 then 0 else 1) x ∧ p_sum (fun i => if B 1 (10 * c + i) = 0 then 0 else 1) x ≤ x) → b9_4 d h F c (p_sum (fun i => if B 1 (10 * c + i) = 0 then 0 else 1) x) x M) (a := 0) (b := B 0 c) hn.1 (fun _ _ => w9_4 hS ⟨fun q => by rw [hM.1 c hc.1 hc.2] at q; omega, fun _ => H⟩) (fun x x0 x1 ih _ q => ?_) (Int.le_refl _) (by rw [p_sum_0]; omega)
  have e := (hM.2.1 (10 * c + x) (by omega) (by omega)).1
  have s := p_sum_s (g := fun i => if B 1 (10 * c + i) = 0 then (0 : Int) else 1) x0
  refine w9_4 hS ⟨fun _ => ⟨⟨by omega, by omega⟩, fun y hy => ?_⟩, fun z => by rw [hM.1 c hc.1 hc.2] at z; omega⟩
  rw [show 1 + 10 * c + x = 1 + (10 * c + x) by omega, e] at hy
  have sy : p_sum (fun i => if B 1 (10 * c + i) = 0 then (0 : Int) else 1) (x + 1) = p_sum (fun i => if B 1 (10 * c + i) = 0 then (0 : Int) else 1) x + y := by rw [s, hy]
  have yb : 0 ≤ y ∧ y ≤ 1 := by rw [hy]; split <;> omega
  rw [← sy]
  exact ⟨⟨by omega, by omega⟩, ⟨by omega, by omega⟩, ih (by omega) (by omega)⟩
theorem t26 {d : Nat} {h : qH} (hS : qSe h) {B : pT} {e : Int} {M : qM} {F : qM → Prop} (hB : c_ok B) (hB2 : c_ok2 B) (hM : c_bk B M)
    (H : ∀ M', (∀ (k : Nat) (m s : Int), ¬ (m = e ∧ ((k = 3 ∧ 0 ≤ s ∧ s ≤ 3) ∨ k = 23)) → M' k m s = M k m s) → M' 3 e 0 = B 8 0 → M' 3 e 1 = B 8 1 → M' 3 e 2 = B 8 2 → M' 3 e 3 = c_p0 B → (∀ x, 0 ≤ x → x < 30 → x % 10 < B 0 (x / 10) → M' 23 e x = B 7 x) → F M') : e26 (d + 2) h e (B 8 0) (B 8 1) (B 8 2) M F := by
  obtain ⟨b1, b2, b3, b4, b5, b6, b7, b8, b9⟩ := id hB
  have pb := c_p0_b hB
  refine w26 hS (fun M1 f1 M2 f2 => ⟨by omega, fun M3 f3 => ?_⟩)
  have O3 : ∀ (k : Nat) (m s : Int), ¬ (m = e ∧ k = 3 ∧ 0 ≤ s ∧ s ≤ 3) → M3 k m s = M k m s := fun k m s q => by rw [f3, f2, f1]; unfold qU; rw [if_neg (by omega), if_neg (by omega), if_neg (by omega)]
  have v2 : M3 3 e 2 = B 8 2 := by rw [f3, qU_s]
  have v1 : M3 3 e 1 = B 8 1 := by rw [f3, qU_l (by decide), f2, qU_s]
  have v0 : M3 3 e 0 = B 8 0 := by rw [f3, qU_l (by decide), f2, qU_l (by decide), f1, qU_s]
  let g : Int → Int := fun x => if B 1 x = 0 then 0 else 1
  have gb : ∀ x, 0 ≤ g x ∧ g x ≤ 1 := fun x => by show 0 ≤ (if B 1 x = 0 then (0 : Int) else 1) ∧ (if B 1 x = 0 then (0 : Int) else 1) ≤ 1; split <;> omega
  have chap : ∀ c, 0 ≤ c → c < 3 → p_sum g (10 * (c + 1)) = p_sum g (10 * c) + p_sum (fun i => if B 1 (10 * c + i) = 0 then 0 else 1) (B 0 c) := fun c c0 c3 => by
    have bc := (b1 c c0 c3).1
    have s : p_sum g (10 * c + B 0 c) = p_sum g (10 * c) + p_sum (fun i => if B 1 (10 * c + i) = 0 then 0 else 1) (B 0 c) := p_sum_sh (by omega) bc.1
    rw [← s]
    exact b_gap (by omega) (by omega) (fun y a b => by
      have := (hB2 y (by omega) (by omega) (by rw [show y / 10 = c by omega]; omega)).1
      show (if B 1 y = 0 then (0 : Int) else 1) = 0
      rw [if_pos this])
  have O' : ∀ N : qM, (∀ (k : Nat) (m s : Int), ¬ (m = e ∧ (k = 23)) → N k m s = M3 k m s) → ∀ (k : Nat) (m s : Int), k ≠ 3 → k ≠ 23 → N k m s = M k m s := fun N hN k m s a b => by rw [hN k m s (fun z => b z.2), O3 k m s (fun z => a z.2.1)]
  refine q_upto (P := fun c => 0 ≤ c → ∀ N u7 u8, (∀ (k : Nat) (m s : Int), ¬ (m = e ∧ k = 23) → N k m s = M3 k m s) → (∀ x, 0 ≤ x → x < 10 * c → x % 10 < B 0 (x / 10) → N 23 e x = B 7 x) → b26_22 d h F e (.inl (B 8 0)) (B 8 1) (.inl (B 8 2)) (p_sum g (10 * c)) c u7 u8 N) (a := 0) (b := 3) (by decide) (fun _ N u7 u8 ON vN => ?_) (fun c c0 c3 ih _ N u7 u8 ON vN => ?_) (Int.le_refl _) M3 _ _ (fun _ _ _ _ => rfl) (fun x a b => by omega)
  · have e30 : p_sum g (10 * 3) = c_hds B := rfl
    rw [e30]
    have h1 := pb.1
    refine w26_22 hS ⟨fun q => absurd q (by decide), fun _ => ⟨fun _ => ⟨⟨by omega, by omega⟩, ⟨by omega, by omega⟩, by omega, by omega⟩, fun y hy M4 f4 => ?_⟩⟩
    rw [if_neg (by omega)] at hy
    have hy2 : y = c_nc B := hy
    have v3 : M4 3 e 3 = c_nc B := by rw [f4, qU_s, hy2]
    have n0 := pb.2.1
    rw [v3]
    refine ⟨n0.1, ⟨by omega, by omega⟩, fun M5 f5 => ?_⟩
    have O5 : ∀ (k : Nat) (m s : Int), ¬ (m = e ∧ k = 3 ∧ s = 3) → M5 k m s = N k m s := fun k m s q => by rw [f5, f4]; unfold qU; rw [if_neg (by omega), if_neg (by omega)]
    refine H M5 (fun k m s q => by rw [O5 k m s (by omega), ON k m s (by omega), O3 k m s (by omega)]) (by rw [O5 _ _ _ (by omega), ON _ _ _ (by omega)]; exact v0) (by rw [O5 _ _ _ (by omega), ON _ _ _ (by omega)]; exact v1) (by rw [O5 _ _ _ (by omega), ON _ _ _ (by omega)]; exact v2) (by rw [f5, qU_s]; rfl) (fun x a b q => by rw [O5 _ _ _ (by omega)]; exact vN x a (by omega) q)
  · have bc := (b1 c c0 c3).1
    have hN : c_bk B N := ⟨fun c a b => by rw [O' N ON _ _ _ (by decide) (by decide)]; exact hM.1 c a b, fun x a b => by rw [O' N ON _ _ _ (by decide) (by decide), O' N ON _ _ _ (by decide) (by decide), O' N ON _ _ _ (by decide) (by decide), O' N ON _ _ _ (by decide) (by decide)]; exact hM.2.1 x a b, fun y a b => by rw [O' N ON _ _ _ (by decide) (by decide), O' N ON _ _ _ (by decide) (by decide), O' N ON _ _ _ (by decide) (by decide)]; exact hM.2.2 y a b⟩
    have ps := p_sum_bd (g := g) (b := 1) (n := 10 * c) gb (by omega)
    have ps2 := p_sum_bd (g := fun i => if B 1 (10 * c + i) = 0 then (0 : Int) else 1) (b := 1) (n := B 0 c) (fun k => gb _) bc.1
    refine w26_22 hS ⟨fun _ => ⟨⟨c0, c3⟩, t9 hS hN ⟨c0, c3⟩ bc ⟨⟨by omega, by omega⟩, ?_⟩⟩, fun q => by omega⟩
    rw [← chap c c0 c3]
    refine q_upto (P := fun i => 0 ≤ i → ∀ N1 u8, (∀ (k : Nat) (m s : Int), ¬ (m = e ∧ k = 23) → N1 k m s = M3 k m s) → (∀ x, 0 ≤ x → x < 10 * c + i → x % 10 < B 0 (x / 10) → N1 23 e x = B 7 x) → b26_43 d h F e (.inl (B 8 0)) (B 8 1) (.inl (B 8 2)) (p_sum g (10 * (c + 1))) c i u8 N1) (a := 0) (b := 10) (by decide) (fun _ N1 u8 O1 v1 => ?_) (fun i i0 i1 ihi _ N1 u8 O1 v1 => ?_) (Int.le_refl _) N _ ON (fun x a b q => vN x a (by omega) q)
    · exact w26_43 hS ⟨fun q => absurd q (by decide), fun _ => ⟨⟨by omega, by omega⟩, ih (by omega) N1 _ _ O1 (fun x a b q => v1 x a (by omega) q)⟩⟩
    · have e1 : N1 1 c 1 = B 0 c := by rw [O' N1 O1 _ _ _ (by decide) (by decide)]; exact hM.1 c c0 c3
      have e5 : N1 5 (1 + 10 * c + i) 3 = B 7 (10 * c + i) := by rw [O' N1 O1 _ _ _ (by decide) (by decide), show 1 + 10 * c + i = 1 + (10 * c + i) by omega]; exact (hM.2.1 (10 * c + i) (by omega) (by omega)).2.2.2
      refine w26_43 hS ⟨fun _ => ⟨⟨c0, c3⟩, fun y hy => ⟨⟨by omega, by omega⟩, ⟨by omega, by omega⟩, fun _ => ⟨⟨c0, c3⟩, ⟨i0, i1⟩⟩, fun z hz => ⟨⟨by omega, by omega⟩, fun M4 f4 => ⟨⟨by omega, by omega⟩, ihi (by omega) M4 _ (fun k m s q => by rw [f4]; unfold qU; rw [if_neg (by omega)]; exact O1 k m s q) (fun x a b q => ?_)⟩⟩⟩⟩, fun q => by omega⟩
      by_cases ex : x = 10 * c + i
      · rw [f4, ex, show c * 10 + i = 10 * c + i by omega, qU_s]
        rw [ex, show (10 * c + i) / 10 = c by omega] at q
        rw [e1, if_pos (by omega)] at hy
        rw [hz, hy, if_neg (by decide), e5]
      · rw [f4, qU_l (by omega)]; exact v1 x a (by omega) q
theorem t27 {d : Nat} {h : qH} (hS : qSe h) {e p : Int} {fi ct : Int → Int} {M : qM} {F : Int → qM → Prop} (h8 : ∀ c, 0 ≤ c → c < 3 → M 8 (0 + 3 * e + c) 0 = fi c ∧ M 8 (0 + 3 * e + c) 1 = ct c ∧ (0 ≤ fi c ∧ fi c ≤ 1000) ∧ 0 ≤ ct c ∧ ct c ≤ 1000)
    (H : ∀ v, (p ≤ M 3 e 3 ∧ v = 3) ∨ (M 3 e 3 < p ∧ (0 ≤ v ∧ v < 3) ∧ (fi v ≤ p ∧ p < fi v + ct v)) ∨ (M 3 e 3 < p ∧ (∀ c, 0 ≤ c → c < 3 → ¬ (fi c ≤ p ∧ p < fi c + ct c)) ∧ v = if p ≤ M 3 e 4 then 4 else 5) → F v M) : e27 (d + 1) h e p M F := by
  refine w27 hS ⟨fun q => H 3 (Or.inl ⟨q, rfl⟩), fun q => ?_⟩
  refine q_upto (P := fun c => 0 ≤ c → (∀ c', 0 ≤ c' → c' < c → ¬ (fi c' ≤ p ∧ p < fi c' + ct c')) → ∀ u, b27_12 d h F e p c u M) (a := 0) (b := 3) (by decide) (fun _ no u => w27_12 hS ⟨fun z => absurd z (by decide), fun _ y hy => H y (Or.inr (Or.inr ⟨by omega, no, hy⟩))⟩) (fun c c0 c3 ih _ no u => ?_) (Int.le_refl _) (fun c' a b => by omega) _
  obtain ⟨f1, f2, f3, f4⟩ := h8 c c0 c3
  have nx : (¬ (fi c ≤ p ∧ p < fi c + ct c)) → ∀ u, b27_12 d h F e p (c + 1) u M := fun z u => ih (by omega) (fun c' a b => by
    by_cases e : c' = c
    · rw [e]; exact z
    · exact no c' a (by omega)) u
  refine w27_12 hS ⟨fun _ => ⟨⟨c0, c3⟩, ⟨c0, c3⟩, ⟨by omega, by omega⟩, ⟨c0, c3⟩, fun z => ⟨⟨by omega, by omega⟩, nx (by omega) _⟩, fun z => ⟨fun z2 => H c (Or.inr (Or.inl ⟨by omega, ⟨c0, c3⟩, by omega⟩)), fun z2 => ⟨⟨by omega, by omega⟩, nx (by omega) _⟩⟩⟩, fun z => absurd c3 z⟩
