/-! ===== a turn that prints ===== -/
def z_s9 (k : Nat) (s : Int) : Bool := Nat.beq k 10 && decide (s = 9)
def z_9 (M : qM) : qM := fun k m s => bif (z_s9 k s || Nat.ble 64 k) then 0 else M k m s
theorem z_9_eq {M M' : qM} (h : ∀ (k : Nat) (o s : Int), ¬ (k = 10 ∧ s = 9) → k < 64 → M' k o s = M k o s) : z_9 M' = z_9 M := by
  funext k m s
  unfold z_9
  cases e : (z_s9 k s || Nat.ble 64 k) with
  | true => rfl
  | false =>
    refine h k m s (fun z => ?_) (Classical.byContradiction fun z => ?_)
    · obtain ⟨z1, z2⟩ := z
      subst z1; subst z2
      have : (z_s9 10 9 || Nat.ble 64 10) = true := rfl
      rw [this] at e; cases e
    · rw [Nat.ble_eq_true_of_le (by omega : 64 ≤ k), Bool.or_true] at e
      cases e
/-- a law's array, copied -/
theorem k_cpy {b : Int → qM → Prop} {nx : qM → Prop} {N : Int} {kd ks : Nat} {M : qM} (hne : kd ≠ ks) (hN : 0 ≤ N) (step : ∀ x M, 0 ≤ x → (x < N → ∀ M', M' = qU M kd 0 x (M ks 0 x) → b (x + 1) M') → (¬ x < N → nx M) → b x M)
    (H : ∀ N', (∀ (k : Nat) (o s : Int), ¬ (k = kd ∧ o = 0) → N' k o s = M k o s) → (∀ s, 0 ≤ s → s < N → N' kd 0 s = M ks 0 s) → nx N') : b 0 M := by
  refine q_upto (P := fun x => 0 ≤ x → ∀ M1, (∀ (k : Nat) (o s : Int), ¬ (k = kd ∧ o = 0) → M1 k o s = M k o s) → (∀ s, 0 ≤ s → s < x → M1 kd 0 s = M ks 0 s) → b x M1) (a := 0) (b := N) hN (fun _ M1 O c => step N M1 hN (fun z => absurd z (Int.lt_irrefl _)) (fun _ => H M1 O c)) (fun x x0 x1 ih _ M1 O c => step x M1 x0 (fun _ M2 f2 => ih (by omega) M2 (fun k o s z => by rw [f2]; unfold qU; rw [if_neg (fun y => z ⟨y.1, y.2.1⟩)]; exact O k o s z) (fun s a b => ?_)) (fun z => absurd x1 z)) (Int.le_refl _) M (fun _ _ _ _ => rfl) (fun s a b => by omega)
  rw [f2]
  by_cases e : s = x
  · rw [e, qU_s]; exact O _ _ _ (fun z => hne z.1.symm)
  · rw [qU_l e]; exact c s a (by omega)
section
variable {d : Nat} {h : qH} {sc : Int × (Int → Int)} {f : Int → qH → qM → Prop} {x25 x30 : Int} {M : qM} {B : pT} {n en L : Int} {W : Int → Int} {R : c_R}
/-- what printing leaves of the law -/
def k_pfr (M N : qM) : Prop := ∀ (k : Nat) (o s : Int), ¬ (o = 0 ∧ 80 ≤ k ∧ k ≤ 86) → ¬ (k = 76 ∧ o = 0 ∧ (s = 5 ∨ (33 ≤ s ∧ s ≤ 41))) → ¬ (k = 10 ∧ o = 0 ∧ s = 9) → N k o s = M k o s
theorem k_pfr_t {M1 M2 : qM} (h : k_pfr M M1) (h' : k_pfr M1 M2) : k_pfr M M2 := fun k o s a b c => by rw [h' k o s a b c, h k o s a b c]
theorem k_as_p {N : qM} (hx : k_as B en W R L M) (fr : k_pfr M N) : k_as B en W R L N := by
  obtain ⟨⟨h1, h2⟩, h3, h4, h5, h6, h7, h8⟩ := hx
  have e9 : z_9 N = z_9 M := z_9_eq (fun k o s a b => fr k o s (by omega) (by omega) (fun z => a ⟨z.1, z.2.2⟩))
  have x1 : z_cx B en W R L (z_9 M) = z_cx B en W R L M := rfl
  have x2 : z_cx B en W R L (z_9 N) = z_cx B en W R L N := rfl
  obtain ⟨ob, B1, R1, out⟩ := (h1.2.2 h2).2.2.1
  refine ⟨⟨by rw [← x2, e9, x1]; exact h1, by rw [fr 10 0 13 (by omega) (by omega) (by omega)]; exact h2⟩, h3, ?_, fun it a b => by rw [fr _ _ _ (by omega) (by omega) (by omega)]; exact h5 it a b, fun it w a b e g => by rw [fr _ _ _ (by omega) (by omega) (by omega)]; exact h6 it w a b e g, fun c c0 c3 => ?_, h8⟩
  · exact k_bk_fr h4 (fun s => fr _ _ _ (by omega) (by omega) (by omega)) (fun it a b => by rw [fr _ _ _ (by omega) (by omega) (by omega)]; exact ⟨rfl, (h4.2.1 it a b).1⟩) (fun s => fr _ _ _ (by omega) (by omega) (by omega)) (fr _ _ _ (by omega) (by omega) (by omega)) (fr _ _ _ (by omega) (by omega) (by omega)) (fr _ _ _ (by omega) (by omega) (by omega))
  · have sz := (k_szA h1.1.1.1 h3.1 out.1 (c := c) ⟨c0, c3⟩).1
    exact k_cm_fr ⟨c0, c3⟩ (fun n => ⟨sz.2.2.2.1, sz.2.2.2.2, B 8 1, ((out.2 c c0 c3).1.2 n).2.2⟩) (h7 c c0 c3) (fun s a b => fr _ _ _ (by omega) (by omega) (by omega)) (fun s a b => fr _ _ _ (by omega) (by omega) (by omega)) (fun s a b => fr _ _ _ (by omega) (by omega) (by omega)) (fun s a => fr _ _ _ (by omega) (by omega) (by omega)) (fun k p _ hk _ _ => fr _ _ _ (by omega) (by omega) (by omega))
theorem k_all_p {N : qM} (ha : k_all B R L M) (fr : k_pfr M N) : k_all B R L N := by
  have e : ∀ (k : Nat) (s : Int), (k = 74 ∨ k = 75) → N k 0 s = M k 0 s := fun k s q => fr _ _ _ (by omega) (by omega) (by omega)
  refine ⟨⟨by rw [fr _ _ _ (by omega) (by omega) (by omega)]; exact ha.1.1, ha.1.2⟩, fun p a b => ?_, fun p a b => by rw [e 74 p (Or.inl rfl), e 75 p (Or.inr rfl)]; exact ha.2.2 p a b⟩
  rw [e 74 p (Or.inl rfl), e 75 p (Or.inr rfl)]
  exact ha.2.1 p a b
/-- the law's copies -/
def k_cps (B : pT) (R : c_R) (tot : Int) (M : qM) : Prop := (M 76 0 33 = tot ∧ M 76 0 34 = B 8 0 ∧ M 76 0 35 = B 8 1) ∧ (∀ c, 0 ≤ c → c < 3 → M 76 0 (36 + c) = M 76 0 (10 + c) ∧ M 76 0 (39 + c) = M 76 0 (19 + c)) ∧ (∀ s, 0 ≤ s → s < 60 → M 80 0 s = M 71 0 s) ∧ (∀ p, 0 ≤ p → p ≤ tot → M 81 0 p = M 74 0 p) ∧ (∀ it, 0 ≤ it → it < 18 → M 82 0 it = M 65 0 it / 256 % 256) ∧ (∀ it, 0 ≤ it → it ≤ 18 → M 83 0 it = k_O B it) ∧ (∀ it w, 0 ≤ it → it < 18 → 0 ≤ w → w < B 3 (k_x it) → M 84 0 (k_O B it + w) = k_told B R (k_y it w)) ∧ (∀ s, 0 ≤ s → s < 12 → M 85 0 s = M 72 0 s) ∧ ∀ s, 0 ≤ s → s < 36 → M 86 0 s = M 73 0 s
theorem k_926 (hS : qSe h) (hx : k_as B en W R L M) (ha : k_all B R L M) (h33 : M 76 0 33 = c_tot B R L ∧ M 76 0 34 = B 8 0 ∧ M 76 0 35 = B 8 1) {u26 u27 u28 u29 u31 u32 u33 u34 : qV}
    (K : ∀ N, k_pfr M N → N 76 0 5 = M 76 0 5 → k_cps B R (c_tot B R L) N → ∀ u31 u32 u33 u34, b269_1199 d h sc f x25 u26 u27 u28 u29 x30 u31 u32 u33 u34 N) : b269_926 d h sc f x25 u26 u27 u28 u29 x30 u31 u32 u33 u34 M := by
  have cx := hx.1.1
  have hB := cx.1.1.1
  have hB2 := cx.1.1.2
  have zx := cx.2.2 hx.1.2
  obtain ⟨ob, B1, R1, out⟩ := zx.2.2.1
  have pb := c_p0_b hB
  have tb := c_tot_b hB out zx.2.1
  have t61 := ha.1.2
  have off := hx.2.2.2.1
  -- counters
  have l1 : ∀ (nx : qM → Prop), (∀ N, (∀ (k : Nat) (o s : Int), ¬ (k = 76 ∧ o = 0 ∧ 36 ≤ s ∧ s ≤ 41) → N k o s = M k o s) → (∀ c, 0 ≤ c → c < 3 → N 76 0 (36 + c) = M 76 0 (10 + c) ∧ N 76 0 (39 + c) = M 76 0 (19 + c)) → nx N) → (∀ N, nx N → b269_976 d h sc f x25 u26 u27 u28 u29 x30 0 u32 u33 u34 N) → b269_929 d h sc f x25 u26 u27 u28 u29 x30 0 u32 u33 u34 M := by
    intro nx H1 H2
    refine q_upto (P := fun c => 0 ≤ c → ∀ N, (∀ (k : Nat) (o s : Int), ¬ (k = 76 ∧ o = 0 ∧ 36 ≤ s ∧ s ≤ 41) → N k o s = M k o s) → (∀ c', 0 ≤ c' → c' < c → N 76 0 (36 + c') = M 76 0 (10 + c') ∧ N 76 0 (39 + c') = M 76 0 (19 + c')) → b269_929 d h sc f x25 u26 u27 u28 u29 x30 c u32 u33 u34 N) (a := 0) (b := 3) (by decide) (fun _ N O v => w269_929 hS ⟨fun z => absurd z (by decide), fun _ => H2 N (H1 N O v)⟩) (fun c c0 c1 ih _ N O v => w269_929 hS ⟨fun _ => ⟨⟨by omega, by omega⟩, ⟨by omega, by omega⟩, ⟨by omega, by omega⟩, ⟨by omega, by omega⟩, fun N1 f1 => ⟨⟨by omega, by omega⟩, ⟨by omega, by omega⟩, ⟨by omega, by omega⟩, ⟨by omega, by omega⟩, fun N2 f2 => ⟨⟨by omega, by omega⟩, ih (by omega) N2 (fun k o s q => ?_) (fun c' a b => ?_)⟩⟩⟩, fun z => absurd c1 z⟩) (Int.le_refl _) M (fun _ _ _ _ => rfl) (fun c' a b => by omega)
    · rw [f2, f1]; unfold qU; rw [if_neg (by omega), if_neg (by omega)]; exact O k o s q
    · have s1 : N1 76 0 (19 + c) = M 76 0 (19 + c) := by rw [f1, qU_l (by omega)]; exact O _ _ _ (by omega)
      have s2 : N 76 0 (10 + c) = M 76 0 (10 + c) := O _ _ _ (by omega)
      by_cases e : c' = c
      · rw [e]
        exact ⟨by rw [f2, qU_l (by omega), f1, qU_s]; exact s2, by rw [f2, qU_s]; exact s1⟩
      · have := v c' a (by omega)
        exact ⟨by rw [f2, qU_l (by omega), f1, qU_l (by omega)]; exact this.1, by rw [f2, qU_l (by omega), f1, qU_l (by omega)]; exact this.2⟩
  refine w269_926 hS (l1 (fun N => (∀ (k : Nat) (o s : Int), ¬ (k = 76 ∧ o = 0 ∧ 36 ≤ s ∧ s ≤ 41) → N k o s = M k o s) ∧ ∀ c, 0 ≤ c → c < 3 → N 76 0 (36 + c) = M 76 0 (10 + c) ∧ N 76 0 (39 + c) = M 76 0 (19 + c)) (fun N a b => ⟨a, b⟩) (fun N1 ⟨O1, v1⟩ => ?_))
  -- rows
  refine k_cpy (b := fun x N => b269_976 d h sc f x25 u26 u27 u28 u29 x30 x u32 u33 u34 N) (nx := fun N => b269_1002 d h sc f x25 u26 u27 u28 u29 x30 0 u32 u33 u34 N) (N := 60) (kd := 80) (ks := 71) (by decide) (by decide) (fun x N x0 s e => w269_976 hS ⟨fun l => ⟨⟨x0, l⟩, ⟨x0, l⟩, fun N' f' => ⟨⟨by omega, by omega⟩, s l N' f'⟩⟩, fun l => e l⟩) (fun N2 O2 v2 => ?_)
  have e6 : N2 76 0 6 = c_tot B R L := by rw [O2 _ _ _ (by omega), O1 _ _ _ (by omega)]; exact ha.1.1
  -- pages
  have l3 : ∀ (nx : qM → Prop), (∀ N, (∀ (k : Nat) (o s : Int), ¬ (k = 81 ∧ o = 0) → N k o s = N2 k o s) → (∀ p, 0 ≤ p → p ≤ c_tot B R L → N 81 0 p = N2 74 0 p) → nx N) → (∀ N, nx N → b269_1031 d h sc f x25 u26 u27 u28 u29 x30 0 u32 u33 u34 N) → b269_1002 d h sc f x25 u26 u27 u28 u29 x30 0 u32 u33 u34 N2 := by
    intro nx H1 H2
    refine q_upto (P := fun x => 0 ≤ x → ∀ N, (∀ (k : Nat) (o s : Int), ¬ (k = 81 ∧ o = 0) → N k o s = N2 k o s) → (∀ p, 0 ≤ p → p < x → N 81 0 p = N2 74 0 p) → b269_1002 d h sc f x25 u26 u27 u28 u29 x30 x u32 u33 u34 N) (a := 0) (b := c_tot B R L + 1) (by omega) (fun _ N O v => ?_) (fun x x0 x1 ih _ N O v => ?_) (Int.le_refl _) N2 (fun _ _ _ _ => rfl) (fun p a b => by omega)
    · have e : N 76 0 6 = c_tot B R L := by rw [O _ _ _ (by omega)]; exact e6
      exact w269_1002 hS ⟨fun z => by omega, fun _ => H2 N (H1 N O (fun p a b => v p a (by omega)))⟩
    · have e : N 76 0 6 = c_tot B R L := by rw [O _ _ _ (by omega)]; exact e6
      refine w269_1002 hS ⟨fun _ => ⟨⟨x0, by omega⟩, ⟨x0, by omega⟩, fun N' f' => ⟨⟨by omega, by omega⟩, ih (by omega) N' (fun k o s z => by rw [f']; unfold qU; rw [if_neg (fun y => z ⟨y.1, y.2.1⟩)]; exact O k o s z) (fun p a b => ?_)⟩⟩, fun z => absurd (show x ≤ N 76 0 6 by omega) z⟩
      rw [f']
      by_cases ep : p = x
      · rw [ep, qU_s]; exact O _ _ _ (by omega)
      · rw [qU_l ep]; exact v p a (by omega)
  refine l3 (fun N => (∀ (k : Nat) (o s : Int), ¬ (k = 81 ∧ o = 0) → N k o s = N2 k o s) ∧ ∀ p, 0 ≤ p → p ≤ c_tot B R L → N 81 0 p = N2 74 0 p) (fun N a b => ⟨a, b⟩) (fun N3 ⟨O3, v3⟩ => ?_)
  -- serials
  have l4 : ∀ (nx : qM → Prop), (∀ N, (∀ (k : Nat) (o s : Int), ¬ (k = 82 ∧ o = 0) → N k o s = N3 k o s) → (∀ it, 0 ≤ it → it < 18 → N 82 0 it = N3 65 0 it / 256 % 256) → nx N) → (∀ N, nx N → b269_1064 d h sc f x25 u26 u27 u28 u29 x30 0 u32 u33 u34 N) → b269_1031 d h sc f x25 u26 u27 u28 u29 x30 0 u32 u33 u34 N3 := by
    intro nx H1 H2
    refine q_upto (P := fun x => 0 ≤ x → ∀ N, (∀ (k : Nat) (o s : Int), ¬ (k = 82 ∧ o = 0) → N k o s = N3 k o s) → (∀ p, 0 ≤ p → p < x → N 82 0 p = N3 65 0 p / 256 % 256) → b269_1031 d h sc f x25 u26 u27 u28 u29 x30 x u32 u33 u34 N) (a := 0) (b := 18) (by decide) (fun _ N O v => w269_1031 hS ⟨fun z => absurd z (by decide), fun _ => H2 N (H1 N O v)⟩) (fun x x0 x1 ih _ N O v => ?_) (Int.le_refl _) N3 (fun _ _ _ _ => rfl) (fun p a b => by omega)
    refine w269_1031 hS ⟨fun _ => ⟨⟨x0, x1⟩, L206s hS ⟨⟨x0, x1⟩, fun N' f' => ⟨⟨by omega, by omega⟩, ih (by omega) N' (fun k o s z => by rw [f']; unfold qU; rw [if_neg (fun y => z ⟨y.1, y.2.1⟩)]; exact O k o s z) (fun p a b => ?_)⟩⟩⟩, fun z => absurd x1 z⟩
    rw [f']
    by_cases ep : p = x
    · rw [ep, qU_s, O _ _ _ (by omega)]
    · rw [qU_l ep]; exact v p a (by omega)
  refine l4 (fun N => (∀ (k : Nat) (o s : Int), ¬ (k = 82 ∧ o = 0) → N k o s = N3 k o s) ∧ ∀ it, 0 ≤ it → it < 18 → N 82 0 it = N3 65 0 it / 256 % 256) (fun N a b => ⟨a, b⟩) (fun N4 ⟨O4, v4⟩ => ?_)
  -- offsets
  refine k_cpy (b := fun x N => b269_1064 d h sc f x25 u26 u27 u28 u29 x30 x u32 u33 u34 N) (nx := fun N => b269_1090 d h sc f x25 u26 u27 u28 u29 x30 0 u32 u33 u34 N) (N := 19) (kd := 83) (ks := 67) (by decide) (by decide) (fun x N x0 s e => w269_1064 hS ⟨fun l => ⟨⟨x0, l⟩, ⟨x0, l⟩, fun N' f' => ⟨⟨by omega, by omega⟩, s l N' f'⟩⟩, fun l => e l⟩) (fun N5 O5 v5 => ?_)
  have fr5 : k_pfr M N5 := fun k o s a b c => by rw [O5 k o s (by omega), O4 k o s (by omega), O3 k o s (by omega), O2 k o s (by omega), O1 k o s (by omega)]
  -- what is told
  have l6 : ∀ (nx : qM → Prop), (∀ N, (∀ (k : Nat) (o s : Int), ¬ (k = 84 ∧ o = 0) → N k o s = N5 k o s) → (∀ it w, 0 ≤ it → it < 18 → 0 ≤ w → w < B 3 (k_x it) → N 84 0 (k_O B it + w) = k_told B R (k_y it w)) → nx N) → (∀ N, nx N → ∀ u32, b269_1150 d h sc f x25 u26 u27 u28 u29 x30 0 u32 u33 u34 N) → b269_1090 d h sc f x25 u26 u27 u28 u29 x30 0 u32 u33 u34 N5 := by
    intro nx H1 H2
    refine q_upto (P := fun it => 0 ≤ it → ∀ N u32, (∀ (k : Nat) (o s : Int), ¬ (k = 84 ∧ o = 0) → N k o s = N5 k o s) → (∀ i w, 0 ≤ i → i < it → 0 ≤ w → w < B 3 (k_x i) → N 84 0 (k_O B i + w) = k_told B R (k_y i w)) → b269_1090 d h sc f x25 u26 u27 u28 u29 x30 it u32 u33 u34 N) (a := 0) (b := 18) (by decide) (fun _ N u32 O v => w269_1090 hS ⟨fun z => absurd z (by decide), fun _ => H2 N (H1 N O v) _⟩) (fun it i0 i1 ih _ N u32 O v => w269_1090 hS ⟨fun _ => ?_, fun z => absurd i1 z⟩) (Int.le_refl _) N5 _ (fun _ _ _ _ => rfl) (fun i w a b => by omega)
    have h18 : 0 ≤ it ∧ it < 18 := ⟨i0, i1⟩
    have n0 := (hB.2.1 (k_x it)).1
    have ob1 := k_O_b hB hB2 hx.2.1.1 (it + 1) (by omega) (by omega)
    have ob0 := k_O_b hB hB2 hx.2.1.1 it (by omega) (by omega)
    have os := k_O_s (B := B) i0
    refine q_upto (P := fun w => 0 ≤ w → ∀ N, (∀ (k : Nat) (o s : Int), ¬ (k = 84 ∧ o = 0) → N k o s = N5 k o s) → (∀ i w', 0 ≤ i → i < 18 → 0 ≤ w' → w' < B 3 (k_x i) → (i < it ∨ (i = it ∧ w' < w)) → N 84 0 (k_O B i + w') = k_told B R (k_y i w')) → b269_1100 d h sc f x25 u26 u27 u28 u29 x30 it w u33 u34 N) (a := 0) (b := B 3 (k_x it)) n0 (fun _ N O v => ?_) (fun w w0 w1 ihw _ N O v => ?_) (Int.le_refl _) N O (fun i w' a b e g lt => v i w' a (by omega) e g)
    · have fr : k_pfr M N := fun k o s a b c => by rw [O k o s (by omega)]; exact fr5 k o s a b c
      have bk := (k_as_p hx fr).2.2.1
      refine w269_1100 hS (L189 hS h18 ?_)
      rw [(bk.2.1 it i0 i1).2.1]
      refine ⟨fun z => absurd z (Int.lt_irrefl _), fun _ => ⟨⟨by omega, by omega⟩, ih (by omega) N _ O (fun i w' a b e g => v i w' a (by omega) e g ?_)⟩⟩
      by_cases z : i = it
      · right; rw [z] at g; exact ⟨z, g⟩
      · left; omega
    · have fr : k_pfr M N := fun k o s a b c => by rw [O k o s (by omega)]; exact fr5 k o s a b c
      have hxN := k_as_p hx fr
      have bk := hxN.2.2.1
      refine w269_1100 hS (L189 hS h18 ?_)
      rw [(bk.2.1 it i0 i1).2.1, hxN.2.2.2.1 it i0 (by omega)]
      refine ⟨fun _ => ⟨⟨by omega, by omega⟩, ⟨by omega, by omega⟩, L213 hS hB hB2 hx.2.1.1 hx.2.1.2.1 bk ⟨pb.2.2.1, by omega⟩ out hxN.2.2.2.2.2.1 h18 ⟨w0, w1⟩ ⟨⟨by omega, by omega⟩, fun N' f' => ⟨⟨by omega, by omega⟩, ihw (by omega) N' (fun k o s z => by rw [f']; unfold qU; rw [if_neg (fun y => z ⟨y.1, y.2.1⟩)]; exact O k o s z) (fun i w' a b e g lt => ?_)⟩⟩⟩, fun z => absurd w1 z⟩
      rw [f']
      by_cases z : i = it ∧ w' = w
      · rw [z.1, z.2, qU_s]
      · have lt2 : i < it ∨ (i = it ∧ w' < w) := by omega
        rw [qU_l ?_]
        · exact v i w' a b e g lt2
        · rcases lt2 with l | l
          · have := k_O_m hB a l
            omega
          · rw [l.1]; omega
  refine l6 (fun N => (∀ (k : Nat) (o s : Int), ¬ (k = 84 ∧ o = 0) → N k o s = N5 k o s) ∧ ∀ it w, 0 ≤ it → it < 18 → 0 ≤ w → w < B 3 (k_x it) → N 84 0 (k_O B it + w) = k_told B R (k_y it w)) (fun N a b => ⟨a, b⟩) (fun N6 ⟨O6, v6⟩ u32' => ?_)
  -- floats, lines of notes
  refine k_cpy (b := fun x N => b269_1150 d h sc f x25 u26 u27 u28 u29 x30 x u32' u33 u34 N) (nx := fun N => b269_1176 d h sc f x25 u26 u27 u28 u29 x30 0 u32' u33 u34 N) (N := 12) (kd := 85) (ks := 72) (by decide) (by decide) (fun x N x0 s e => w269_1150 hS ⟨fun l => ⟨⟨x0, l⟩, ⟨x0, l⟩, fun N' f' => ⟨⟨by omega, by omega⟩, s l N' f'⟩⟩, fun l => e l⟩) (fun N7 O7 v7 => ?_)
  refine k_cpy (b := fun x N => b269_1176 d h sc f x25 u26 u27 u28 u29 x30 x u32' u33 u34 N) (nx := fun N => ∀ u31, b269_1199 d h sc f x25 u26 u27 u28 u29 x30 u31 u32' u33 u34 N) (N := 36) (kd := 86) (ks := 73) (by decide) (by decide) (fun x N x0 s e => w269_1176 hS ⟨fun l => ⟨⟨x0, l⟩, ⟨x0, l⟩, fun N' f' => ⟨⟨by omega, by omega⟩, s l N' f'⟩⟩, fun l => e l _⟩) (fun N8 O8 v8 u31' => ?_)
  have fr8 : k_pfr M N8 := fun k o s a b c => by rw [O8 k o s (by omega), O7 k o s (by omega), O6 k o s (by omega)]; exact fr5 k o s a b c
  have g : ∀ (k : Nat) (s : Int), k ≠ 86 → k ≠ 85 → k ≠ 84 → k ≠ 83 → k ≠ 82 → k ≠ 81 → k ≠ 80 → N8 k 0 s = N1 k 0 s := fun k s a1 a2 a3 a4 a5 a6 a7 => by rw [O8 k 0 s (by omega), O7 k 0 s (by omega), O6 k 0 s (by omega), O5 k 0 s (by omega), O4 k 0 s (by omega), O3 k 0 s (by omega), O2 k 0 s (by omega)]
  have g1 : ∀ (k : Nat) (s : Int), ¬ (k = 76 ∧ 36 ≤ s ∧ s ≤ 41) → k ≠ 86 → k ≠ 85 → k ≠ 84 → k ≠ 83 → k ≠ 82 → k ≠ 81 → k ≠ 80 → N8 k 0 s = M k 0 s := fun k s a0 a1 a2 a3 a4 a5 a6 a7 => by rw [g k s a1 a2 a3 a4 a5 a6 a7, O1 k 0 s (by omega)]
  refine K N8 fr8 (g1 76 5 (by omega) (by decide) (by decide) (by decide) (by decide) (by decide) (by decide) (by decide)) ⟨⟨?_, ?_, ?_⟩, fun c a b => ?_, fun s a b => ?_, fun p a b => ?_, fun it a b => ?_, fun it a b => ?_, fun it w a b e i => ?_, fun s a b => ?_, fun s a b => ?_⟩ _ _ _ _
  · rw [g1 76 33 (by omega) (by decide) (by decide) (by decide) (by decide) (by decide) (by decide) (by decide)]; exact h33.1
  · rw [g1 76 34 (by omega) (by decide) (by decide) (by decide) (by decide) (by decide) (by decide) (by decide)]; exact h33.2.1
  · rw [g1 76 35 (by omega) (by decide) (by decide) (by decide) (by decide) (by decide) (by decide) (by decide)]; exact h33.2.2
  · rw [g 76 _ (by decide) (by decide) (by decide) (by decide) (by decide) (by decide) (by decide), g 76 (39 + c) (by decide) (by decide) (by decide) (by decide) (by decide) (by decide) (by decide), g1 76 (10 + c) (by omega) (by decide) (by decide) (by decide) (by decide) (by decide) (by decide) (by decide), g1 76 (19 + c) (by omega) (by decide) (by decide) (by decide) (by decide) (by decide) (by decide) (by decide)]
    exact v1 c a b
  · rw [O8 80 _ _ (by omega), O7 80 _ _ (by omega), O6 80 _ _ (by omega), O5 80 _ _ (by omega), O4 80 _ _ (by omega), O3 80 _ _ (by omega), v2 s a b, O8 71 _ _ (by omega), O7 71 _ _ (by omega), O6 71 _ _ (by omega), O5 71 _ _ (by omega), O4 71 _ _ (by omega), O3 71 _ _ (by omega), O2 71 _ _ (by omega)]
  · rw [O8 81 _ _ (by omega), O7 81 _ _ (by omega), O6 81 _ _ (by omega), O5 81 _ _ (by omega), O4 81 _ _ (by omega), v3 p a b, O8 74 _ _ (by omega), O7 74 _ _ (by omega), O6 74 _ _ (by omega), O5 74 _ _ (by omega), O4 74 _ _ (by omega), O3 74 _ _ (by omega)]
  · rw [O8 82 _ _ (by omega), O7 82 _ _ (by omega), O6 82 _ _ (by omega), O5 82 _ _ (by omega), v4 it a b, O8 65 _ _ (by omega), O7 65 _ _ (by omega), O6 65 _ _ (by omega), O5 65 _ _ (by omega), O4 65 _ _ (by omega)]
  · rw [O8 83 _ _ (by omega), O7 83 _ _ (by omega), O6 83 _ _ (by omega), v5 it a (by omega), O4 67 _ _ (by omega), O3 67 _ _ (by omega), O2 67 _ _ (by omega), O1 67 _ _ (by omega)]
    exact off it a b
  · rw [O8 84 _ _ (by omega), O7 84 _ _ (by omega)]; exact v6 it w a b e i
  · rw [O8 85 _ _ (by omega), v7 s a b, O8 72 _ _ (by omega), O7 72 _ _ (by omega)]
  · rw [v8 s a b, O8 73 _ _ (by omega)]
end
