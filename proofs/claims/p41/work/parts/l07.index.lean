/-! ===== indexTold ===== -/
theorem k_bit1 {S : Int} {on : Int → Prop} (hs : k_set S on) {n : Nat} (hn : n < 64) : S / 2 ^ n % 2 = 1 ↔ on n := by
  have dv := kU_div S (s := n) (j := 1) (by omega)
  have e2 : ((2 : Int) ^ 1) = 2 := rfl
  rw [e2] at dv
  have b0 := hs.2 n hn
  rw [Nat.testBit_eq_decide_div_mod_eq, decide_eq_true_eq] at b0
  rw [dv, ← b0]
  have e3 : (2 : Nat) ^ 1 = 2 := rfl
  rw [e3]
  omega
theorem k_bit2 {S : Int} {on : Int → Prop} (hs : k_set S on) {n : Nat} (hn : n + 1 < 64) : S / 2 ^ n % 4 = 2 ↔ on (n + 1) ∧ ¬ on n := by
  have dv := kU_div S (s := n) (j := 2) (by omega)
  have e4 : ((2 : Int) ^ 2) = 4 := rfl
  rw [e4] at dv
  have b0 := hs.2 n (by omega)
  have b1 := hs.2 (n + 1) hn
  rw [Nat.testBit_eq_decide_div_mod_eq, decide_eq_true_eq] at b0 b1
  have half : kU S / 2 ^ (n + 1) = kU S / 2 ^ n / 2 := by rw [Nat.pow_succ, Nat.div_div_eq_div_mul]
  rw [half] at b1
  rw [show ((n : Int) + 1) = ((n + 1 : Nat) : Int) by omega, ← b1, ← b0, dv]
  have e5 : (2 : Nat) ^ 2 = 4 := rfl
  rw [e5]
  omega
theorem k_cmp {v k : Int} : (if v < k then (-1 : Int) else if v = k then 0 else 1) = 0 ↔ v = k := by
  by_cases a : v < k
  · rw [if_pos a]; exact ⟨fun z => absurd z (by decide), fun z => by omega⟩
  · rw [if_neg a]
    by_cases b : v = k
    · rw [if_pos b]; exact ⟨fun _ => b, fun _ => rfl⟩
    · rw [if_neg b]; exact ⟨fun z => absurd z (by decide), fun z => absurd z b⟩
/-- a line of the index: its page and column -/
theorem k_line {D L j q : Int} (hD : 8 ≤ D ∧ D ≤ 14) (hj : 0 ≤ j) (hq : 0 ≤ q) (hl : q < (if L - 2 * D * j < 2 * D then L - 2 * D * j else 2 * D)) : (2 * D * j + q) / (2 * D) = j ∧ 2 * D * j + q < L ∧ x_col D L (2 * D * j + q) = if q < ((if L - 2 * D * j < 2 * D then L - 2 * D * j else 2 * D) + 1) / 2 then 0 else 1 := by
  have dd : D = 8 ∨ D = 9 ∨ D = 10 ∨ D = 11 ∨ D = 12 ∨ D = 13 ∨ D = 14 := by omega
  have e : (2 * D * j + q) / (2 * D) = j := by
    rcases dd with rfl | rfl | rfl | rfl | rfl | rfl | rfl <;> (split at hl <;> omega)
  have lt : 2 * D * j + q < L := by split at hl <;> omega
  refine ⟨e, lt, ?_⟩
  unfold x_col
  rw [e]
  have e1 : 2 * D * j + q - j * 2 * D = q := by
    rcases dd with rfl | rfl | rfl | rfl | rfl | rfl | rfl <;> omega
  have e2 : (if j = (L + 2 * D - 1) / (2 * D) - 1 then L - j * 2 * D else 2 * D) = (if L - 2 * D * j < 2 * D then L - 2 * D * j else 2 * D) := by
    rcases dd with rfl | rfl | rfl | rfl | rfl | rfl | rfl <;> (split <;> split <;> omega)
  rw [e1, e2]
section
variable {d : Nat} {f : Int → qH → qM → Prop} {B : pT} {en L : Int} {W : Int → Int} {R : c_R}
theorem k_G_la {ob : Prop} {B1 : pT} {R1 : c_R} (hB : c_ok B) (out : c_out B W ob B1 R1 (c_p0 B) R) {y : Int} (hy : 0 ≤ y ∧ y < 600) (ht : c_there B y) : 1 ≤ c_G B R y ∧ c_G B R y ≤ c_lal B R := by
  obtain ⟨k, r, k1, _, _, _, _, k6⟩ := c_G_ex hB out hy ht
  have hc : 0 ≤ y / 200 ∧ y / 200 < 3 := by omega
  have N0 : 0 < B 0 (y / 200) := by have := ht.1; omega
  have fl := c_fi_la hB out hc N0
  have mk := (out.2 _ hc.1 hc.2).1.2 N0
  have c1 := mk.2.2.1
  have pb := c_p0_b hB
  omega
/-- one term -/
theorem k_term {u : Nat} {h : qH} {M : qM} {D t S : Int} (hu : k_h u h) (hx : k_as B en W R L M) (h40 : c_lal B R ≤ 40) (ht : 0 ≤ t ∧ t < 10) (hs : k_set S (x_on (c_K B) (B 5) (c_G B R) t 600))
    (H : ∀ h', k_h (u + 1) h' → ∀ u8 u9 u10 u11 u12 : qV, b223_3 d h' f D (t + 1) u8 u9 u10 u11 u12 M) : ∀ (tt : Nat) (P n : Int) (u12 : qV), 61 - P ≤ tt → 1 ≤ P → P ≤ 61 → (0 ≤ n ∧ n ≤ M 27 0 t) → (∀ i, 0 ≤ i → i < n → M 29 t i < P) → (∀ i, n ≤ i → i < M 27 0 t → P ≤ M 29 t i) → b223_28 d h f D t S n P u12 M := by
  have cx := hx.1.1
  have hm := hx.1.2
  have hB := cx.1.1.1
  have z := cx.2.2 hm
  obtain ⟨ob, B1, R1, out⟩ := z.2.2.1
  have ivb := z_iv hB z ht
  have iv := ivb.1
  have n180 := ivb.2
  have on40 : ∀ p, x_on (c_K B) (B 5) (c_G B R) t 600 p → p ≤ 40 := fun p ⟨y, hy, k4, _, g⟩ => by
    have th : c_there B y := c_K_there (by omega)
    have := k_G_la hB out hy th
    omega
  have fin : ∀ (P n : Int) (u12 : qV), P = 61 → (0 ≤ n ∧ n ≤ M 27 0 t) → (∀ i, n ≤ i → i < M 27 0 t → P ≤ M 29 t i) → b223_28 d h f D t S n P u12 M := by
    intro P n u12 eP hn hi
    have en : n = M 27 0 t := Classical.byContradiction fun y => by
      have a := hi n (Int.le_refl _) (by omega)
      have b := iv.2.1 n hn.1 (by omega)
      have := on40 (M 29 t n) ((iv.2.2.2 _).mpr ⟨n, ⟨hn.1, by omega⟩, Int.le_refl _, b.2.1⟩)
      omega
    refine w223_28 hu.1 ⟨fun y => absurd y (by omega), fun _ => ?_⟩
    refine A181 hu.1 cx (fun _ _ => ⟨fun _ => ?_, fun y => absurd en.symm y⟩) (fun _ m => absurd m hm) (fun q => absurd ht q)
    refine A182 hu.1 cx (fun _ _ _ => ?_) (fun _ _ m => absurd m hm) (fun _ q => absurd q (by omega)) (fun q => absurd ht q)
    rw [if_neg (by omega)]
    refine ⟨fun _ => ?_, fun y => absurd rfl y⟩
    exact A182 hu.1 cx (fun _ q => absurd q (by decide)) (fun _ q => absurd q (by decide)) (fun _ _ => ⟨fun _ => ⟨⟨by omega, by omega⟩, H _ (k_h_bump hu) _ _ _ _ _⟩, fun y => absurd rfl y⟩) (fun q => absurd ht q)
  intro tt
  induction tt with
  | zero => intro P n u12 h1 h2 h3 hn _ hi; exact fin P n _ (by omega) hn hi
  | succ tt ih =>
    intro P n u12 h1 h2 h3 hn hlo hi
    by_cases eP : P = 61
    · exact fin P n _ eP hn hi
    obtain ⟨m, hmm⟩ : ∃ m : Nat, P = m + 1 := ⟨(P - 1).toNat, by omega⟩
    have b2 := k_bit2 hs (n := m) (by omega)
    refine w223_28 hu.1 ⟨fun _ => ⟨⟨by omega, by omega⟩, ⟨by omega, by omega⟩, ?_⟩, fun y => absurd (show P < 61 by omega) y⟩
    rw [k_l3, k_cmp, show (P - 1).toNat = m by omega]
    rw [← hmm, show (m : Int) = P - 1 by omega] at b2
    refine ⟨fun y => ?_, fun y => ⟨⟨by omega, by omega⟩, ih (P + 1) n _ (by omega) (by omega) (by omega) hn (fun i a b => by have := hlo i a b; omega) (fun i a b => ?_)⟩⟩
    · -- a range begins here
      obtain ⟨o1, o0⟩ := b2.mp y
      obtain ⟨i, hi1, hi2, hi3⟩ := (iv.2.2.2 P).mp o1
      have ai : M 29 t i = P := Classical.byContradiction fun k => o0 ((iv.2.2.2 _).mpr ⟨i, hi1, by omega, by omega⟩)
      have ein : i = n := by
        rcases Int.lt_trichotomy i n with k | k | k
        · have := hlo i hi1.1 k; omega
        · exact k
        · have a := hi n (Int.le_refl _) (by omega)
          have b := x_iv_lt iv hn.1 k hi1.2
          have c' := iv.2.1 n hn.1 (by omega)
          omega
      subst ein
      have bi := iv.2.1 i hi1.1 hi1.2
      have b40 := on40 (M 31 t i) ((iv.2.2.2 _).mpr ⟨i, hi1, by omega, Int.le_refl _⟩)
      have bit := fun (e : Int) (e1 : 0 ≤ e) (e2 : e < 62) => k_bit1 hs (n := (e + 1).toNat) (by omega)
      refine q_upto (P := fun e => P ≤ e → b223_60 d h f D t S i P e M) (a := P) (b := M 31 t i) (by omega) (fun _ => ?_) (fun e e0 e1 ihe _ => ?_) (Int.le_refl _)
      · have bt := bit (M 31 t i) (by omega) (by omega)
        rw [show (((M 31 t i + 1).toNat : Nat) : Int) = M 31 t i + 1 by omega] at bt
        have no : ¬ x_on (c_K B) (B 5) (c_G B R) t 600 (M 31 t i + 1) := fun k => by
          obtain ⟨j, hj1, hj2, hj3⟩ := (iv.2.2.2 _).mp k
          rcases Int.lt_trichotomy j i with k | k | k
          · have := x_iv_lt iv hj1.1 k hi1.2; omega
          · subst k; omega
          · have := x_iv_lt iv hi1.1 k hj1.2; omega
        refine w223_60 hu.1 ⟨⟨by omega, by omega⟩, ⟨by omega, by omega⟩, ?_⟩
        rw [k_l1, k_cmp]
        refine ⟨fun k => absurd (bt.mp k) no, fun _ => ?_⟩
        refine A182 hu.1 cx (fun _ _ _ => ?_) (fun _ _ m => absurd m hm) (fun _ q => absurd q (by omega)) (fun q => absurd ht q)
        rw [if_pos hi1.2, if_pos rfl]
        refine ⟨fun _ => ?_, fun k => absurd ai k⟩
        refine A182 hu.1 cx (fun _ _ _ => ?_) (fun _ _ m => absurd m hm) (fun _ q => absurd q (by omega)) (fun q => absurd ht q)
        rw [if_pos hi1.2, if_neg (by decide)]
        refine ⟨fun _ => ⟨⟨by omega, by omega⟩, ⟨by omega, by omega⟩, ih (P + 1) (i + 1) _ (by omega) (by omega) (by omega) ⟨by omega, by omega⟩ (fun j a b => ?_) (fun j a b => ?_)⟩, fun k => absurd rfl k⟩
        · by_cases k : j = i
          · subst k; omega
          · have := hlo j a (by omega); omega
        · have := x_iv_lt iv hi1.1 (show i < j by omega) b; omega
      · have bt := bit e (by omega) (by omega)
        rw [show (((e + 1).toNat : Nat) : Int) = e + 1 by omega] at bt
        refine w223_60 hu.1 ⟨⟨by omega, by omega⟩, ⟨by omega, by omega⟩, ?_⟩
        rw [k_l1, k_cmp]
        exact ⟨fun _ => ⟨⟨by omega, by omega⟩, ihe (by omega)⟩, fun k => absurd (bt.mpr ((iv.2.2.2 _).mpr ⟨i, hi1, by omega, by omega⟩)) k⟩
    · have a' := hi i a b
      have ne : M 29 t i ≠ P := fun k => by
        have bi := iv.2.1 i (by omega) b
        refine y (b2.mpr ⟨(iv.2.2.2 _).mpr ⟨i, ⟨by omega, b⟩, by omega, by omega⟩, fun k2 => ?_⟩)
        obtain ⟨j, hj1, hj2, hj3⟩ := (iv.2.2.2 _).mp k2
        rcases Int.lt_trichotomy j i with k3 | k3 | k3
        · have := x_iv_lt iv hj1.1 k3 b; omega
        · subst k3; omega
        · have := x_iv_lt iv (by omega) k3 hj1.2; omega
      omega
theorem L223 {u : Nat} {h : qH} {M : qM} (hu : k_h u h) (hx : k_as B en W R L M) (h40 : c_lal B R ≤ 40) (hal : ∀ t, 0 ≤ t → t < 10 → M 78 0 t = M 63 0 t + 1) (h28 : M 76 0 28 = c_lal B R + 1) (H : ∀ h', k_h (u + 20) h' → f 1 h' M) : e223 (d + 6) h (B 8 1) M f := by
  have cx := hx.1.1
  have hm := hx.1.2
  have hB := cx.1.1.1
  have z := cx.2.2 hm
  obtain ⟨ob, B1, R1, out⟩ := z.2.2.1
  have pb := c_p0_b hB
  have hp : 0 ≤ c_p0 B ∧ c_p0 B ≤ 100 := ⟨pb.2.2.1, by omega⟩
  have hD := hB.2.2.2.2.2.2.2.1
  have hL := z.2.1
  have tb := c_tot_b hB out hL
  have hG : ∀ y, 0 ≤ y → y < 600 → c_there B y → c_G B R y ≤ 61 := fun y a b c => by have := (k_G_la hB out ⟨a, b⟩ c).2; omega
  have eL : k_L B R (M 78 0) = L := by
    rw [k_L_x (n := M 27 0) (a := fun t => M 29 t) (b := fun t => M 31 t) (fun t p t0 t1 ⟨y, hy, k4, _, g⟩ => by
      have th : c_there B y := c_K_there (by omega)
      have := hG y hy.1 hy.2 th
      omega) (fun t t0 t1 => (z_iv hB z ⟨t0, t1⟩).1), z.2.2.2.2.1.2.2.2.2.2.2.2]
    unfold x_L
    refine p_sum_cg (by decide) (fun t a b => ?_)
    show (M 27 0 t + 2) / 3 + (if M 78 0 t - 1 < 0 then 0 else 1) = (M 27 0 t + 2) / 3 + (if M 63 0 t < 0 then 0 else 1)
    rw [hal t a b, show M 63 0 t + 1 - 1 = M 63 0 t by omega]
  refine w223 hu.1 ?_
  refine q_upto (P := fun t => 0 ≤ t → ∀ (h1 : qH) (u8 u9 u10 u11 u12 : qV), k_h (u + t.toNat) h1 → b223_3 d h1 f (B 8 1) t u8 u9 u10 u11 u12 M) (a := 0) (b := 10) (by decide) (fun _ h1 u8 u9 u10 u11 u12 hu1 => ?_) (fun t t0 t1 ih _ h1 u8 u9 u10 u11 u12 hu1 => ?_) (Int.le_refl _) h _ _ _ _ _ hu
  · refine w223_3 hu1.1 ⟨fun y => absurd y (by decide), fun _ => L218 hu1.1 hB cx.1.1.2 hx.2.1.1 hx.2.2.1 hp out hx.2.2.2.2.2.1 hG ?_⟩
    rw [eL, h28]
    -- the lines
    have fin : ∀ (P : Int) (u1 u2 u3 u4 u5 u10 u11 u12 : qV), b223_187 d h1 f u1 u2 u3 u4 u5 (B 8 1) L L P u10 u11 u12 M := by
      intro P u1 u2 u3 u4 u5 u10 u11 u12
      have hu2 := k_h_bump hu1
      have hu3 := k_h_bump hu2
      have hu4 := k_h_bump hu3
      refine w223_187 hu1.1 ⟨fun y => absurd y (Int.lt_irrefl _), fun _ => A183 hu1.1 cx (fun _ => ⟨fun _ => ?_, fun y => absurd rfl y⟩) (fun m => absurd m hm)⟩
      refine A184 hu1.1 cx (fun _ _ => ?_) (fun _ m => absurd m hm) (fun q => absurd q (by omega))
      rw [if_neg (Int.lt_irrefl _)]
      refine ⟨fun _ => A184 hu1.1 cx (fun q => absurd q (by decide)) (fun q => absurd q (by decide)) (fun _ => ⟨fun _ => ?_, fun y => absurd rfl y⟩), fun y => absurd rfl y⟩
      refine A181 hu2.1 cx (fun q => absurd q (by decide)) (fun q => absurd q (by decide)) (fun _ => ⟨fun _ => ?_, fun y => absurd rfl y⟩)
      refine A182 hu3.1 cx (fun q => absurd q (by decide)) (fun q => absurd q (by decide)) (fun q => absurd q (by decide)) (fun _ x hx' => ?_)
      rw [if_pos rfl] at hx'
      rw [hx']
      exact ⟨Or.inr rfl, H _ (k_h_up hu4 (by omega))⟩
    have lines : ∀ (tt : Nat) (j : Int) (u1 u2 u3 u4 u5 u10 u11 u12 : qV), L - 2 * B 8 1 * j ≤ tt → (0 ≤ j ∧ j ≤ 1000) → 2 * B 8 1 * j ≤ L → b223_187 d h1 f u1 u2 u3 u4 u5 (B 8 1) L (2 * B 8 1 * j) (c_lal B R + 1 + j) u10 u11 u12 M := by
      intro tt
      induction tt with
      | zero =>
        intro j u1 u2 u3 u4 u5 u10 u11 u12 htt j0 jl
        rw [show 2 * B 8 1 * j = L by omega]
        exact fin _ _ _ _ _ _ _ _ _
      | succ tt ih =>
        intro j u1 u2 u3 u4 u5 u10 u11 u12 htt j0 jl
        by_cases done : 2 * B 8 1 * j = L
        · rw [done]; exact fin _ _ _ _ _ _ _ _ _
        have kl := fun q hq hl => k_line (L := L) (j := j) (q := q) hD j0.1 hq hl
        have j63 : j ≤ 63 := by
          have dd : B 8 1 = 8 ∨ B 8 1 = 9 ∨ B 8 1 = 10 ∨ B 8 1 = 11 ∨ B 8 1 = 12 ∨ B 8 1 = 13 ∨ B 8 1 = 14 := by omega
          rcases dd with e | e | e | e | e | e | e <;> (rw [e] at jl; omega)
        have nx : 2 * B 8 1 * (j + 1) = 2 * B 8 1 * j + 2 * B 8 1 := by rw [Int.mul_add, Int.mul_one]
        have dj := Int.mul_nonneg (show (0 : Int) ≤ 2 * B 8 1 by omega) j0.1
        refine w223_187 hu1.1 ⟨fun _ => ⟨⟨by omega, by omega⟩, ⟨by omega, by omega⟩, ⟨fun _ => ⟨by omega, by omega⟩, fun _ => ⟨by omega, by omega⟩⟩, fun lf hlf => ?_⟩, fun y => absurd (show 2 * B 8 1 * j < L by omega) y⟩
        rw [← hlf] at kl
        have lb : 0 < lf ∧ lf ≤ 28 ∧ 2 * B 8 1 * j + lf ≤ L := by rw [hlf]; split <;> omega
        refine q_upto (P := fun q => 0 ≤ q → b223_223 d h1 f u1 u2 u3 u4 u5 (B 8 1) L (2 * B 8 1 * j + q) (c_lal B R + 1 + j) lf q u12 M) (a := 0) (b := lf) (by omega) (fun _ => ?_) (fun q q0 q1 ihq _ => ?_) (Int.le_refl _) |> fun k => by rw [Int.add_zero] at k; exact k
        · refine w223_223 hu1.1 ⟨fun y => absurd y (Int.lt_irrefl _), fun _ => ⟨⟨by omega, by omega⟩, ?_⟩⟩
          by_cases full : L - 2 * B 8 1 * j < 2 * B 8 1
          · rw [if_pos full] at hlf
            rw [show 2 * B 8 1 * j + lf = L by omega]
            exact fin _ _ _ _ _ _ _ _ _
          · rw [if_neg full] at hlf
            have := ih (j + 1) u1 u2 u3 u4 u5 (.inl lf) (.inl lf) u12 (by omega) ⟨by omega, by omega⟩ (by omega)
            rw [nx, show c_lal B R + 1 + (j + 1) = c_lal B R + 1 + j + 1 by omega] at this
            rw [hlf] at this ⊢
            exact this
        · have k := kl q q0 q1
          refine w223_223 hu1.1 ⟨fun _ => A184 hu1.1 cx (fun _ _ => ?_) (fun _ m => absurd m hm) (fun y => absurd y (by omega)), fun y => absurd q1 y⟩
          rw [if_pos k.2.1, k.1, k.2.2]
          refine ⟨⟨by omega, by omega⟩, ⟨by omega, by omega⟩, by omega, fun x hx' => ⟨?_, fun _ => ⟨⟨by omega, by omega⟩, ⟨by omega, by omega⟩, ?_⟩, fun y => absurd (by rw [hx']) y⟩⟩
          · rw [hx']; split <;> exact ⟨by omega, by omega⟩
          · have := ihq (by omega)
            rw [show 2 * B 8 1 * j + (q + 1) = 2 * B 8 1 * j + q + 1 by omega] at this
            exact this
    have k := lines L.toNat 0 (.inr (.inl (some (64, 0)))) (.inr (.inl (some (65, 0)))) (.inr (.inl (some (71, 0)))) (.inr (.inl (some (76, 0)))) (.inr (.inl (some (78, 0)))) u10 u11 u12 (by rw [Int.mul_zero]; omega) ⟨Int.le_refl _, by decide⟩ (by rw [Int.mul_zero]; omega)
    rw [Int.mul_zero, Int.add_zero] at k
    exact k
  · refine w223_3 hu1.1 ⟨fun _ => L216 hu1.1 hB cx.1.1.2 hx.2.1.1 hx.2.2.1 hp out hx.2.2.2.2.2.1 hG (fun S hS => ?_), fun y => absurd t1 y⟩
    have iv := (z_iv hB z ⟨t0, t1⟩).1
    exact k_term hu1 hx h40 ⟨t0, t1⟩ hS (fun h' hu' u8 u9 u10 u11 u12 => ih (by omega) h' _ _ _ _ _ (k_h_up hu' (by omega))) 61 1 0 _ (by decide) (Int.le_refl _) (by decide) ⟨Int.le_refl _, iv.1⟩ (fun i a b => absurd a (by omega)) (fun i a b => (iv.2.1 i a b).1)
end
