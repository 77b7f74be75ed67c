/-! ===== the pages of a term, as the law has them ===== -/
noncomputable def k_rn (on : Int → Prop) (p : Int) : Int := @ite Int (on (p + 1) ∧ ¬ on p) (Classical.propDecidable _) 1 0
noncomputable def k_runs (on : Int → Prop) : Int := p_sum (k_rn on) 61
theorem k_rn_b {on : Int → Prop} (p : Int) : 0 ≤ k_rn on p ∧ k_rn on p ≤ 1 := by unfold k_rn; split <;> omega
theorem k_runs_n {n : Int} {a b : Int → Int} {on : Int → Prop} (h : x_iv n a b on) (hb : ∀ p, on p → p ≤ 61) : k_runs on = n := by
  have key : ∀ m, 0 ≤ m → p_sum (k_rn on) m = x_cn n a m := fun m m0 => by
    refine q_dnto (P := fun m => p_sum (k_rn on) m = x_cn n a m) m0 (by rw [x_cn_0 h]; rfl) (fun j j0 j1 ih => ?_)
    have s := p_sum_s (g := k_rn on) (x := j - 1) (by omega)
    rw [show j - 1 + 1 = j by omega] at s
    have t := x_iv_s h j
    have e : k_rn on (j - 1) = @ite Int (on j ∧ ¬ on (j - 1)) (Classical.propDecidable _) 1 0 := by
      unfold k_rn
      rw [show j - 1 + 1 = j by omega]
    rw [s, ih, t, e]
  unfold k_runs
  rw [key 61 (by decide)]
  -- no range begins behind page 61
  have up : ∀ i, 0 ≤ i → i < n → a i ≤ 61 := fun i i0 i1 => by
    have q := h.2.1 i i0 i1
    exact hb (a i) ((h.2.2.2 (a i)).mpr ⟨i, ⟨i0, i1⟩, Int.le_refl _, q.2.1⟩)
  unfold x_cn
  have e : p_sum (fun i => if a i ≤ 61 then (1 : Int) else 0) n = p_sum (fun _ => 1) n := p_sum_cg h.1 (fun k k0 k1 => by
    show (1 : Int) = if a k ≤ 61 then 1 else 0
    rw [if_pos (up k k0 k1)]) |>.symm
  rw [e]
  refine q_dnto (P := fun m => p_sum (fun _ => (1 : Int)) m = m) h.1 rfl (fun j j0 j1 ih => ?_)
  have s := p_sum_s (g := fun _ => (1 : Int)) (x := j - 1) (by omega)
  rw [show j - 1 + 1 = j by omega] at s
  rw [s, ih]; omega
/-- a set of pages in a long -/
def k_set (S : Int) (on : Int → Prop) : Prop := qIl S ∧ ∀ p : Nat, p < 64 → ((kU S).testBit p = true ↔ on p)
section
variable {d : Nat} {h : qH} {B Bo : pT} {W : Int → Int} {ob : Prop} {Ro R : c_R} {p0 : Int} {M : qM}
theorem L216 {f : Int → qM → Prop} {tm : Int} (hS : qSe h) (hB : c_ok B) (hB2 : c_ok2 B) (hl : k_lim B) (hbk : k_bk B M) (hp : 0 ≤ p0 ∧ p0 ≤ 100) (out : c_out B W ob Bo Ro p0 R) (hh : k_here B R M) (hG : ∀ y, 0 ≤ y → y < 600 → c_there B y → c_G B R y ≤ 61) (H : ∀ S, k_set S (x_on (c_K B) (B 5) (c_G B R) tm 600) → f S M) : e216 (d + 4) h tm M f := by
  refine w216 hS ?_
  -- the words before a place
  have place : ∀ it : Int, 0 ≤ it → it < 18 → k_y it 0 = 20 * k_x it := fun it _ _ => by unfold k_y; omega
  refine q_upto (P := fun it => ∀ (S : Int) (u8 u9 : qV), 0 ≤ it → k_set S (fun p => ∃ o w, (0 ≤ o ∧ o < it) ∧ (0 ≤ w ∧ w < B 3 (k_x o)) ∧ c_K B (k_y o w) = 4 ∧ B 5 (k_y o w) = tm ∧ c_G B R (k_y o w) = p) → b216_6 d h f tm S it u8 u9 M) (a := 0) (b := 18) (by decide) (fun S u8 u9 _ hs => ?_) (fun it i0 i1 ih S u8 u9 _ hs => ?_) 0 _ _ (Int.le_refl _) ⟨by unfold qIl; omega, fun p hp => ⟨fun z => absurd z (by rw [show kU 0 = 0 from rfl]; simp), fun ⟨o, w, a, _⟩ => by omega⟩⟩
  · refine w216_6 hS ⟨fun z => absurd z (by decide), fun _ => H S ⟨hs.1, fun p hp => (hs.2 p hp).trans ⟨fun ⟨o, w, a, b, c, e, g⟩ => ?_, fun ⟨y, a, c, e, g⟩ => ?_⟩⟩⟩
    · have th := k_there hB2 a b hB
      exact ⟨k_y o w, th.1, c, e, g⟩
    · have th : c_there B y := c_K_there (by omega)
      have pl := k_place hB hl ⟨a.1, a.2⟩ th
      refine ⟨_, _, pl.1, ⟨pl.2.2.2.1, by rw [pl.2.1]; exact pl.2.2.2.2⟩, ?_⟩
      rw [pl.2.2.1]
      exact ⟨c, e, g⟩
  · have bt := hbk.2.1 it i0 i1
    have n0 := (hB.2.1 (k_x it)).1
    have n15 := hl.2.1 (k_x it) (k_x_p ⟨i0, i1⟩).1.1 (k_x_p ⟨i0, i1⟩).1.2
    refine w216_6 hS ⟨fun _ => ?_, fun z => absurd i1 z⟩
    refine q_upto (P := fun i => ∀ (S : Int) (u9 : qV), 0 ≤ i → k_set S (fun p => ∃ o w, (0 ≤ o ∧ (o < it ∨ (o = it ∧ w < i))) ∧ (0 ≤ w ∧ w < B 3 (k_x o)) ∧ c_K B (k_y o w) = 4 ∧ B 5 (k_y o w) = tm ∧ c_G B R (k_y o w) = p) → b216_16 d h f tm S it i u9 M) (a := 0) (b := B 3 (k_x it)) n0 (fun S u9 _ hs => ?_) (fun i j0 j1 ihi S u9 _ hs => ?_) S _ (Int.le_refl _) ⟨hs.1, fun p hp => (hs.2 p hp).trans ⟨fun ⟨o, w, a, b⟩ => ⟨o, w, ⟨a.1, Or.inl a.2⟩, b⟩, fun ⟨o, w, a, b⟩ => ⟨o, w, ⟨a.1, by omega⟩, b⟩⟩⟩
    · refine w216_16 hS (L189 hS ⟨i0, i1⟩ ?_)
      rw [bt.2.1]
      refine ⟨fun z => absurd z (Int.lt_irrefl _), fun _ => ⟨⟨by omega, by omega⟩, ih S _ _ (by omega) ⟨hs.1, fun p hp => (hs.2 p hp).trans ⟨fun ⟨o, w, a, b⟩ => ⟨o, w, ⟨a.1, by omega⟩, b⟩, fun ⟨o, w, a, b⟩ => ⟨o, w, ⟨a.1, ?_⟩, b⟩⟩⟩⟩⟩
      by_cases z : o = it
      · right; exact ⟨z, by rw [z] at b; exact b.1.2⟩
      · left; omega
    · have ci := k_code hB hB2 hbk ⟨i0, i1⟩ (w := i) ⟨j0, j1⟩
      have th := k_there hB2 ⟨i0, i1⟩ (w := i) ⟨j0, j1⟩ hB
      have g0 := c_G_b hB hp out th.1 th.2.1
      have g1 := hG _ th.1.1 th.1.2 th.2.1
      have nx : ¬ (c_K B (k_y it i) = 4 ∧ B 5 (k_y it i) = tm) → ∀ u9, b216_16 d h f tm S it (i + 1) u9 M := fun no u9 => ihi S _ (by omega) ⟨hs.1, fun p hp => (hs.2 p hp).trans ⟨fun ⟨o, w, a, b⟩ => ⟨o, w, ⟨a.1, by omega⟩, b⟩, fun ⟨o, w, a, b⟩ => ⟨o, w, ⟨a.1, ?_⟩, b⟩⟩⟩
      · refine w216_16 hS (L189 hS ⟨i0, i1⟩ ?_)
        rw [bt.2.1]
        refine ⟨fun _ => L187 hS ⟨i0, i1⟩ ⟨j0, by omega⟩ (L188 hS ?_), fun z => absurd j1 z⟩
        rw [ci.1, ci.2.1]
        refine ⟨fun k4 => ⟨fun v4 => L210 hS hB hB2 hl out hh ⟨i0, i1⟩ ⟨j0, j1⟩ ⟨⟨by omega, by omega⟩, ⟨by omega, by omega⟩, ?_⟩, fun v4 => ⟨⟨by omega, by omega⟩, nx (fun z => v4 z.2) _⟩⟩, fun k4 => ⟨⟨by omega, by omega⟩, nx (fun z => k4 z.1) _⟩⟩
        obtain ⟨v, hv⟩ : ∃ v : Nat, c_G B R (k_y it i) = v := ⟨(c_G B R (k_y it i)).toNat, by omega⟩
        rw [hv]
        refine ihi _ _ (by omega) ⟨k_il _, fun p hp => ?_⟩
        have lt : (2 : Nat) ^ v < 2 ^ 64 := Nat.pow_lt_pow_right (by decide) (by omega)
        rw [kU_or, kU_wl, Int.toNat_natCast, Int.one_mul, show (2 : Int) ^ v = ((2 ^ v : Nat) : Int) by simp, kU_of lt, Nat.testBit_or, Nat.testBit_two_pow, Bool.or_eq_true, hs.2 p hp]
        simp only [decide_eq_true_eq]
        constructor
        · rintro (⟨o, w, a, b⟩ | e)
          · exact ⟨o, w, ⟨a.1, by omega⟩, b⟩
          · exact ⟨it, i, ⟨i0, Or.inr ⟨rfl, by omega⟩⟩, ⟨j0, j1⟩, k4, v4, by rw [hv, e]⟩
        · rintro ⟨o, w, a, b⟩
          by_cases z : o = it ∧ w = i
          · right
            rw [z.1, z.2, hv] at b
            exact_mod_cast b.2.2.2
          · left
            exact ⟨o, w, ⟨a.1, by omega⟩, b⟩
      · by_cases z : o = it ∧ w = i
        · rw [z.1, z.2] at b
          exact absurd ⟨b.2.1, b.2.2.1⟩ no
        · omega
theorem L217 {f : Int → qM → Prop} {S : Int} {on : Int → Prop} (hS : qSe h) (hs : k_set S on) (H : f (k_runs on) M) : e217 (d + 1) h S M f := by
  refine w217 hS ?_
  refine q_upto (P := fun p => 1 ≤ p → b217_4 d h f S (p_sum (k_rn on) (p - 1)) p M) (a := 1) (b := 62) (by decide) (fun _ => w217_4 hS ⟨fun z => absurd z (by decide), fun _ => by rw [show (62 : Int) - 1 = 61 by decide]; exact H⟩) (fun p p0 p1 ih _ => ?_) (Int.le_refl _)
  have sb := p_sum_bd (g := k_rn on) (b := 1) (n := p - 1) k_rn_b (by omega)
  have ss := p_sum_s (g := k_rn on) (x := p - 1) (by omega)
  rw [show p - 1 + 1 = p by omega] at ss
  refine w217_4 hS ⟨fun _ => ⟨⟨by omega, by omega⟩, ⟨by omega, by omega⟩, fun x hx => ?_⟩, fun z => absurd p1 z⟩
  obtain ⟨n, hn⟩ : ∃ n : Nat, p = n + 1 := ⟨(p - 1).toNat, by omega⟩
  subst hn
  have dv := kU_div S (s := n) (j := 2) (by omega)
  rw [k_l3, show ((n : Int) + 1 - 1).toNat = n by omega] at hx
  have e4 : ((2 : Int) ^ 2) = 4 := rfl
  rw [e4] at dv
  have b0 := hs.2 n (by omega)
  have b1 := hs.2 (n + 1) (by omega)
  rw [Nat.testBit_eq_decide_div_mod_eq, decide_eq_true_eq] at b0 b1
  have half : kU S / 2 ^ (n + 1) = kU S / 2 ^ n / 2 := by rw [Nat.pow_succ, Nat.div_div_eq_div_mul]
  rw [half] at b1
  have e : x = k_rn on n := by
    rw [hx, dv]
    unfold k_rn
    by_cases q : kU S / 2 ^ n % 2 ^ 2 = 2
    · have c1 : ¬ ((kU S / 2 ^ n % 2 ^ 2 : Nat) : Int) < 2 := by rw [q]; decide
      have c2 : ((kU S / 2 ^ n % 2 ^ 2 : Nat) : Int) = 2 := by rw [q]; rfl
      have q4 : kU S / 2 ^ n % 4 = 2 := q
      have o1 : on ((n : Int) + 1) := by
        rw [show ((n : Int) + 1) = ((n + 1 : Nat) : Int) by omega]
        exact b1.mp (by omega)
      rw [if_neg c1, if_pos c2, if_pos rfl, if_pos ⟨o1, fun z => by have := b0.mpr z; omega⟩]
    · have q4 : ¬ kU S / 2 ^ n % 4 = 2 := q
      have no : ¬ (on ((n : Int) + 1) ∧ ¬ on n) := fun z => by
        have z1 := b1.mpr (by rw [show ((n + 1 : Nat) : Int) = (n : Int) + 1 by omega]; exact z.1)
        have z0 : ¬ kU S / 2 ^ n % 2 = 1 := fun y => z.2 (b0.mp y)
        omega
      rw [if_neg no]
      by_cases a : ((kU S / 2 ^ n % 2 ^ 2 : Nat) : Int) < 2
      · rw [if_pos a]; rfl
      · have c2 : ¬ ((kU S / 2 ^ n % 2 ^ 2 : Nat) : Int) = 2 := fun z => q (by exact_mod_cast z)
        rw [if_neg a, if_neg c2]; rfl
  have rb := k_rn_b (on := on) n
  rw [show (n : Int) + 1 - 1 = n by omega] at sb ss ⊢
  refine ⟨⟨by omega, by omega⟩, ⟨by omega, by omega⟩, ?_⟩
  have := ih (by omega)
  rw [show (n : Int) + 1 + 1 - 1 = n + 1 by omega, ss] at this
  rw [e]
  exact this
end
