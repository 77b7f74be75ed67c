/-! ===== Rows.collect ===== -/
theorem p_late_c {nd nd' : Int → Int} {e v R : Int} (h : ∀ q, 0 ≤ q → q < R → nd q = nd' q) (he : e ≤ R) (hv : p_late nd e v) : p_late nd' e v := by
  rcases hv with ⟨h1, h2⟩ | ⟨h1, h2, h3⟩
  · exact Or.inl ⟨h1, fun q a b c => by rw [← h q a (by omega)]; exact h2 q a b c⟩
  · exact Or.inr ⟨h1, by rw [← h v (by omega) (by omega)]; exact h2, fun q a b => by rw [← h q (by omega) (by omega)]; exact h3 q a b⟩
theorem p_late_u {nd : Int → Int} {e v v' : Int} (h : p_late nd e v) (h' : p_late nd e v') : v = v' := by
  rcases h with ⟨a1, a2⟩ | ⟨a1, a2, a3⟩ <;> rcases h' with ⟨b1, b2⟩ | ⟨b1, b2, b3⟩
  · omega
  · have := a2 v' (by omega) (by omega) (by omega); omega
  · have := b2 v (by omega) (by omega) (by omega); omega
  · rcases Int.lt_trichotomy v v' with k | k | k
    · have := a3 v' k (by omega); omega
    · exact k
    · have := b3 v k (by omega); omega
/-- the rows of a chapter, collected -/
def p_rows (A : pA) (cnt n : Int) (M : qM) : Prop := p_rI A n (p_SR A cnt) M ∧ p_wI A n cnt 0 M ∧ ∀ e, 1 ≤ e → e ≤ p_SR A cnt → p_late (p_nd A) e (M 58 n e)
def fr88 (n : Int) (M M' : qM) : Prop := ∀ (k : Nat) (m s : Int), ¬ ((k = 9 ∧ m = n ∧ (s = 0 ∨ s = 12 ∨ s = 16 ∨ s = 17)) ∨ (48 ≤ k ∧ k ≤ 61 ∧ m = n)) → M' k m s = M k m s
/-- the word at which a line begins -/
def p_wp (A : pA) (i s : Int) : Int := if A 0 i 0 = 0 then (if s = 0 then 0 else A 3 i (s - 1)) else 0
theorem p_SR_s {A : pA} {i : Int} (h : 0 ≤ i) : p_SR A (i + 1) = p_SR A i + A 2 i 0 := p_sum_s h
theorem p_SR_le {A : pA} {cnt i : Int} (h : p_okA A cnt) (hi : 0 ≤ i ∧ i ≤ cnt) : p_SR A i ≤ p_SR A cnt :=
  p_sum_mono (g := fun x => A 2 x 0) (fun x x0 x1 => by have := p_okA_6 h (i := x) ⟨by omega, x1⟩; show 0 ≤ A 2 x 0; omega) hi.1 hi.2
theorem p_wI_next {A : pA} {cnt n i : Int} {M : qM} (hi : 0 ≤ i) (hI : p_wI A n i (A 6 i 0) M) : p_wI A n (i + 1) 0 M := by
  obtain ⟨y1, y2, y3, y4, y5, y6⟩ := hI
  refine ⟨by rw [p_FB_i hi]; exact y1, by rw [p_NB_i hi]; exact y2, by rw [p_LS_i hi]; exact y3, y4, by rw [p_FB_i hi]; exact y5, fun i' w' a b c e => y6 i' w' a b c ?_⟩
  by_cases h : i' = i
  · subst h; omega
  · omega
theorem t88 {d : Nat} {h : qH} (hS : qSe h) {A : pA} {cnt n c : Int} {M : qM} {f : qM → Prop} (hA : p_okA A cnt) (hc : M 1 c 1 = cnt) (hr : ∀ i, 0 ≤ i → i < cnt → p_rep A M (1 + 10 * c + i) i)
    (h0 : M 54 n 0 = 0 ∧ M 55 n 0 = 0 ∧ M 56 n 0 = 0 ∧ M 57 n 0 = 0 ∧ M 61 n 0 = 0)
    (H : ∀ M', fr88 n M M' → p_rows A cnt n M' → f M') : e88 (d + 3) h n c M f := by
  have hcn := hA.1
  have rep : ∀ M', fr88 n M M' → ∀ i, 0 ≤ i → i < cnt → p_rep A M' (1 + 10 * c + i) i := by
    intro M' hf i i0 i1
    obtain ⟨p0, p1, p2, p6, p3, p45⟩ := hr i i0 i1
    exact ⟨by rw [hf _ _ _ (by omega)]; exact p0, by rw [hf _ _ _ (by omega)]; exact p1, by rw [hf _ _ _ (by omega)]; exact p2, by rw [hf _ _ _ (by omega)]; exact p6, fun s a b c => by rw [hf _ _ _ (by omega)]; exact p3 s a b c, fun w a b => by rw [hf _ _ _ (by omega), hf _ _ _ (by omega)]; exact p45 w a b⟩
  -- the late heads, once the rows stand
  have fin : ∀ (u1 u3 u4 : qV) (M1 : qM), fr88 n M M1 → p_rI A n (p_SR A cnt) M1 → p_wI A n cnt 0 M1 → b88_80 d h f n u1 1 u3 u4 M1 := by
    intro u1 u3 u4 M1 f1 r1 w1
    have bR := hA.2.2.2.2
    have b0 : 0 ≤ p_SR A cnt := by have := p_SR_le hA (i := 0) ⟨by omega, hcn.1⟩; have : p_SR A 0 = 0 := rfl; omega
    refine q_upto (P := fun e => 1 ≤ e → ∀ M2 : qM, (∀ (k : Nat) (m s : Int), ¬ (k = 58 ∧ m = n) → M2 k m s = M1 k m s) → (∀ x, 1 ≤ x → x < e → p_late (p_nd A) x (M2 58 n x)) → b88_80 d h f n u1 e u3 u4 M2) (a := 1) (b := p_SR A cnt + 1) (by omega) ?_ ?_ (Int.le_refl _) M1 (fun _ _ _ _ => rfl) (fun x a b => by omega)
    · intro _ M2 f2 l2
      have c2 : M2 9 n 0 = p_SR A cnt := by rw [f2 _ _ _ (by omega)]; exact r1.1
      refine w88_80 hS ⟨fun q => by omega, fun _ => H M2 (fun k m s q => by rw [f2 k m s (by omega), f1 k m s q]) ⟨⟨c2, fun q a b => ?_, fun q a b => ?_⟩, ?_, fun e a b => l2 e a (by omega)⟩⟩
      · rw [f2 _ _ _ (by omega), f2 _ _ _ (by omega), f2 _ _ _ (by omega), f2 _ _ _ (by omega), f2 _ _ _ (by omega), f2 _ _ _ (by omega)]
        exact r1.2.1 q a b
      · rw [f2 _ _ _ (by omega), f2 _ _ _ (by omega), f2 _ _ _ (by omega), f2 _ _ _ (by omega)]
        exact r1.2.2 q a b
      · obtain ⟨y1, y2, y3, y4, y5, y6⟩ := w1
        refine ⟨by rw [f2 _ _ _ (by omega)]; exact y1, by rw [f2 _ _ _ (by omega)]; exact y2, by rw [f2 _ _ _ (by omega)]; exact y3, by rw [f2 _ _ _ (by omega)]; exact y4, fun x x0 x1 => by rw [f2 _ _ _ (by omega)]; exact y5 x x0 x1, fun i' w' a b c e => ?_⟩
        have := y6 i' w' a b c e
        rw [f2 _ _ _ (by omega), f2 _ _ _ (by omega), f2 _ _ _ (by omega)]
        exact ⟨this.1, fun q k k0 k1 => by rw [f2 _ _ _ (by omega)]; exact this.2 q k k0 k1⟩
    · intro e _ e1 ih e0 M2 f2 l2
      have c2 : M2 9 n 0 = p_SR A cnt := by rw [f2 _ _ _ (by omega)]; exact r1.1
      refine w88_80 hS ⟨fun _ => t91 hS ⟨e0, by omega⟩ (fun v hv => ⟨⟨by omega, by omega⟩, fun M3 f3 => ⟨⟨by omega, by omega⟩, ih (by omega) M3 (fun k m s q => ?_) (fun x x0 x1 => ?_)⟩⟩), fun q => by omega⟩
      · rw [f3, ← f2 k m s q]; unfold qU; rw [if_neg (by omega)]
      · rw [f3]
        by_cases hx : x = e
        · rw [hx, qU_s]
          exact p_late_c (R := p_SR A cnt) (fun q a b => by rw [f2 _ _ _ (by omega)]; exact (r1.2.1 q a b).2.2.2.1) (by omega) hv
        · rw [qU_l hx]; exact l2 x x0 (by omega)
  refine w88 hS (fun M1 f1 M2 f2 M3 f3 M4 f4 => ?_)
  have F4 : ∀ (k : Nat) (m s : Int), ¬ (k = 9 ∧ m = n ∧ (s = 0 ∨ s = 12 ∨ s = 16 ∨ s = 17)) → M4 k m s = M k m s := fun k m s q => by rw [f4, f3, f2, f1]; unfold qU; grind
  refine q_upto (P := fun i => 0 ≤ i → ∀ (u3 u4 : qV) (M5 : qM), fr88 n M M5 → p_rI A n (p_SR A i) M5 → p_wI A n i 0 M5 → b88_22 d h f n c i u3 u4 M5) (a := 0) (b := cnt) hcn.1 ?_ ?_ (Int.le_refl _) _ _ M4 (fun k m s q => F4 k m s (by omega)) ?_ ?_
  · intro _ u3 u4 M5 f5 r5 w5
    exact w88_22 hS ⟨fun q => by rw [f5 _ _ _ (by omega)] at q; omega, fun _ => fin _ _ _ M5 f5 r5 w5⟩
  · intro i i0 i1 ih _ u3 u4 M5 f5 r5 w5
    have h6 := p_okA_6 hA ⟨i0, i1⟩
    have bR : p_SR A (i + 1) ≤ p_SR A cnt := p_SR_le hA ⟨by omega, by omega⟩
    have sR := p_SR_s (A := A) i0
    have hb := hA.2.2.2.2
    refine w88_22 hS ⟨fun _ => ⟨⟨by omega, by omega⟩, ?_⟩, fun q => by rw [f5 _ _ _ (by omega)] at q; omega⟩
    refine q_upto (P := fun s => 0 ≤ s → ∀ (M6 : qM), fr88 n M M6 → p_rI A n (p_SR A i + s) M6 → p_wI A n i (p_wp A i s) M6 → b88_40 d h f n c i (1 + 10 * c + i) s M6) (a := 0) (b := A 2 i 0) (by omega) ?_ ?_ (Int.le_refl _) M5 f5 (by rw [show p_SR A i + 0 = p_SR A i by omega]; exact r5) ?_
    · intro _ M6 f6 r6 w6
      have := (rep M6 f6 i i0 i1).2.2.1
      have hw : p_wp A i (A 2 i 0) = A 6 i 0 := by
        unfold p_wp
        rcases (hA.2.1 i i0 i1).2 with ⟨k1, k2, k3, k4⟩ | ⟨k1, k2, k3, k4, k5, k6⟩
        · rw [k1, if_neg (by decide), k3]
        · rw [k1, if_pos rfl, if_neg (by omega), k6]
      rw [hw] at w6
      refine w88_40 hS ⟨fun q => by omega, fun _ => ⟨⟨by omega, by omega⟩, ih (by omega) _ _ M6 f6 (by rw [sR]; exact r6) (p_wI_next (cnt := cnt) i0 w6)⟩⟩
    · intro s s0 s1 ih2 _ M6 f6 r6 w6
      have at0 := p_rc_at hA i s i0 i1 s0 s1
      have e1 : p_ri A (p_SR A i + s) = i := by unfold p_ri; rw [at0.1]
      have e2 : p_rl A (p_SR A i + s) = s := by unfold p_rl; rw [at0.1]
      have e3 : p_fr A (p_SR A i + s) = p_wp A i s := by unfold p_fr p_wp; rw [e1, e2]
      have e4 : p_to A (p_SR A i + s) = p_wp A i (s + 1) := by unfold p_to p_wp; rw [e1, e2, if_neg (show ¬ s + 1 = 0 by omega), show s + 1 - 1 = s by omega]
      have rr := rep M6 f6 i i0 i1
      refine w88_40 hS ⟨fun _ => ⟨fun _ => t89 hS hA ⟨i0, i1⟩ ⟨s0, s1⟩ rr ⟨by omega, by omega⟩ e1 e2 r6 (by rw [e3]; exact w6) (fun M7 f7 r7 w7 => ⟨⟨by omega, by omega⟩, ih2 (by omega) M7 (fun k m x q => by rw [f7 k m x (by omega), f6 k m x q]) (by rw [show p_SR A i + (s + 1) = p_SR A i + s + 1 by omega]; exact r7) (by rw [← e4]; exact w7)⟩), fun q => by rw [r6.1] at q; omega⟩, fun q => by rw [rr.2.2.1] at q; omega⟩
    · have : p_wp A i 0 = 0 := by unfold p_wp; split <;> rfl
      rw [this]; exact w5
  · have z0 : p_SR A 0 = 0 := rfl
    refine ⟨by rw [z0, f4, f3, f2, f1]; unfold qU; grind, fun q a b => ?_, fun q a b => ?_⟩
    · have : p_SR A 0 = 0 := rfl
      omega
    · have : p_SR A 0 = 0 := rfl
      have hq : q = 0 := by omega
      rw [hq, F4 _ _ _ (by omega), F4 _ _ _ (by omega), F4 _ _ _ (by omega), F4 _ _ _ (by omega)]
      exact ⟨h0.1, h0.2.1, h0.2.2.1, h0.2.2.2.1⟩
  · refine ⟨?_, ?_, ?_, ?_, fun x x0 x1 => ?_, fun i' w' a b c e => ?_⟩
    · have : p_FB A 0 0 = 0 := rfl
      rw [f4, f3, f2, f1, this]; unfold qU; grind
    · have : p_NB A 0 0 = 0 := rfl
      rw [f4, f3, f2, f1, this]; unfold qU; grind
    · have : p_LS A 0 0 = 0 := rfl
      rw [f4, f3, f2, f1, this]; unfold qU; grind
    · rw [F4 _ _ _ (by omega)]; exact h0.2.2.2.2
    · have : p_FB A 0 0 = 0 := rfl
      have hx : x = 0 := by omega
      rw [hx, F4 _ _ _ (by omega), h0.2.2.2.2]; omega
    · exfalso; omega
