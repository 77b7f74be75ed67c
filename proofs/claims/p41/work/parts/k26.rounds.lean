/-! ===== the law's rounds: what was taken, what was found ===== -/
theorem k_O_ex {B : pT} (hB : c_ok B) {i : Int} (hi : 0 ≤ i ∧ i < k_O B 18) : ∃ it w, (0 ≤ it ∧ it < 18) ∧ (0 ≤ w ∧ w < B 3 (k_x it)) ∧ i = k_O B it + w := by
  refine q_upto (P := fun it => 0 ≤ it → k_O B it ≤ i → ∃ it w, (0 ≤ it ∧ it < 18) ∧ (0 ≤ w ∧ w < B 3 (k_x it)) ∧ i = k_O B it + w) (a := 0) (b := 18) (by decide) (fun _ q => by omega) (fun it i0 i1 ih _ q => ?_) (Int.le_refl _) (by have : k_O B 0 = 0 := rfl; omega)
  have s := k_O_s (B := B) i0
  by_cases z : k_O B (it + 1) ≤ i
  · exact ih (by omega) z
  · exact ⟨it, i - k_O B it, ⟨i0, i1⟩, ⟨by omega, by omega⟩, by omega⟩
/-- what a round took, packed -/
def k_nib (M : qM) (s i : Int) : Int := M 70 0 (4 * s + i / 16) / 2 ^ (4 * (i % 16)).toNat % 16
def k_hist (B : pT) (W : Int → Int) (s : Int) (M : qM) : Prop := ∀ it w, 0 ≤ it → it < 18 → 0 ≤ w → w < B 3 (k_x it) → k_nib M s (k_O B it + w) = W (k_y it w)
section
variable {d : Nat} {h : qH} {f : Int → qH → qM → Prop} {B : pT} {kp t : Int} {M : qM}
theorem k_e_b {W : Int → Int} {k : Nat} (hB : c_ok B) (hB2 : c_ok2 B) (hW : k_W B W) (he : k_e k B W M) {i : Int} (hi : 0 ≤ i ∧ i < k_O B 18) : 0 ≤ M k 0 i ∧ M k 0 i ≤ 8 := by
  obtain ⟨it, w, a, b, e⟩ := k_O_ex hB hi
  have th := k_there hB2 a b hB
  rw [e, he it w a.1 a.2 b.1 b.2]
  exact (hW _ th.1.1 th.1.2 th.2.1).1
/-- a round's widths are written down -/
theorem k_store {W : Int → Int} (hS : qSe h) (hB : c_ok B) (hB2 : c_ok2 B) (hl : k_lim B) (hW : k_W B W) (ho : k_off B M) (he : k_e 68 B W M) (ht : 0 ≤ t ∧ t < 12)
    (H : ∀ M', (∀ (k : Nat) (o s : Int), ¬ (k = 70 ∧ o = 0 ∧ 4 * t ≤ s ∧ s < 4 * t + 4) → M' k o s = M k o s) → k_hist B W t M' → ∀ u20 u21 u22 u23 : qV, b215_75 d h f kp t 4 u20 u21 u22 u23 M') (u20 u21 u22 u23 : qV) : b215_75 d h f kp t 0 u20 u21 u22 u23 M := by
  have N48 := k_O_b hB hB2 hl 18 (by decide) (by decide)
  have eb := fun (i : Int) (a : 0 ≤ i) (b : i < k_O B 18) => k_e_b hB hB2 hW he ⟨a, b⟩
  refine q_upto (P := fun q => ∀ (M1 : qM) (u20 u21 u22 u23 : qV), 0 ≤ q → (∀ (k : Nat) (o s : Int), ¬ (k = 70 ∧ o = 0 ∧ 4 * t ≤ s ∧ s < 4 * t + 4) → M1 k o s = M k o s) → (∀ i, 0 ≤ i → i < k_O B 18 → i < 16 * q → k_nib M1 t i = M 68 0 i) → b215_75 d h f kp t q u20 u21 u22 u23 M1) (a := 0) (b := 4) (by decide) (fun M1 u20 u21 u22 u23 _ O1 v1 => ?_) (fun q q0 q1 ih M1 u20 u21 u22 u23 _ O1 v1 => ?_) M _ _ _ _ (Int.le_refl _) (fun _ _ _ _ => rfl) (fun i a b e => by omega)
  · refine H M1 O1 (fun it w a b e g => ?_) _ _ _ _
    have o0 := k_O_b hB hB2 hl it a (by omega)
    have o1 := k_O_m hB a b
    rw [v1 _ (by omega) (by omega) (by omega)]
    exact he it w a b e g
  · refine w215_75 hS ⟨fun _ => ⟨⟨by omega, by omega⟩, ⟨by omega, by omega⟩, ⟨by omega, by omega⟩, fun M2 f2 => ⟨⟨by omega, by omega⟩, ?_⟩⟩, fun z => absurd q1 z⟩
    have O2 : ∀ (k : Nat) (o s : Int), ¬ (k = 70 ∧ o = 0 ∧ s = 4 * t + q) → M2 k o s = M1 k o s := fun k o s z => by rw [f2]; unfold qU; rw [if_neg z]
    have v2 : M2 70 0 (4 * t + q) = 0 := by rw [f2, qU_s]
    -- word by word
    have loop : ∀ (m : Nat) (i : Int) (M3 : qM) (u21 u22 u23 : qV), 16 * q + 16 - i ≤ m → (16 * q ≤ i ∧ i ≤ 16 * q + 16) → (i ≤ k_O B 18 ∨ i = 16 * q) → (∀ (k : Nat) (o s : Int), ¬ (k = 70 ∧ o = 0 ∧ s = 4 * t + q) → M3 k o s = M1 k o s) → kU (M3 70 0 (4 * t + q)) = kP 4 (fun j => (M 68 0 (16 * q + j)).toNat) (i - 16 * q).toNat → (∀ (M4 : qM) (u20 u21 u22 u23 : qV), (∀ (k : Nat) (o s : Int), ¬ (k = 70 ∧ o = 0 ∧ s = 4 * t + q) → M4 k o s = M1 k o s) → (∃ n : Nat, (n : Int) ≤ 16 ∧ (16 * q + n ≤ k_O B 18 ∨ n = 0) ∧ (16 * q + n = 16 * q + 16 ∨ k_O B 18 ≤ 16 * q + n) ∧ kU (M4 70 0 (4 * t + q)) = kP 4 (fun j => (M 68 0 (16 * q + j)).toNat) n) → b215_75 d h f kp t (q + 1) u20 u21 u22 u23 M4) → b215_99 d h f kp t q i u21 u22 u23 M3 := by
      intro m
      induction m with
      | zero =>
        intro i M3 u21 u22 u23 hm hi hi2 O3 e3 K
        refine w215_99 hS ⟨⟨by omega, by omega⟩, ⟨by omega, by omega⟩, fun z => absurd z (by omega), fun _ => ⟨⟨by omega, by omega⟩, K M3 _ _ _ _ O3 ⟨(i - 16 * q).toNat, by omega, by omega, by omega, e3⟩⟩⟩
      | succ m ihm =>
        intro i M3 u21 u22 u23 hm hi hi2 O3 e3 K
        have e67 : M3 67 0 18 = k_O B 18 := by rw [O3 _ _ _ (by omega), O1 _ _ _ (by omega)]; exact ho 18 (by decide) (by decide)
        refine w215_99 hS ⟨⟨by omega, by omega⟩, ⟨by omega, by omega⟩, fun lt => ?_, fun ge => ⟨⟨by omega, by omega⟩, K M3 _ _ _ _ O3 ⟨(i - 16 * q).toNat, by omega, by omega, by omega, e3⟩⟩⟩
        rw [e67]
        refine ⟨fun lt2 => ⟨⟨by omega, by omega⟩, ⟨by omega, by omega⟩, ⟨by omega, by omega⟩, ⟨by omega, by omega⟩, by omega, ⟨by omega, by omega⟩, ⟨by omega, by omega⟩, ⟨by omega, by omega⟩, fun M4 f4 => ⟨⟨by omega, by omega⟩, ?_⟩⟩, fun ge2 => ⟨⟨by omega, by omega⟩, K M3 _ _ _ _ O3 ⟨(i - 16 * q).toNat, by omega, by omega, by omega, e3⟩⟩⟩
        refine ihm (i + 1) M4 _ _ _ (by omega) ⟨by omega, by omega⟩ (Or.inl (by omega)) (fun k o s z => by rw [f4]; unfold qU; rw [if_neg z]; exact O3 k o s z) ?_ K
        obtain ⟨j, hj⟩ : ∃ j : Nat, i = 16 * q + j := ⟨(i - 16 * q).toNat, by omega⟩
        have b8 := eb i (by omega) lt2
        obtain ⟨v, hv⟩ : ∃ v : Nat, M 68 0 i = v := ⟨(M 68 0 i).toNat, by omega⟩
        have e68 : M3 68 0 i = v := by rw [O3 _ _ _ (by omega), O1 _ _ _ (by omega)]; exact hv
        rw [f4, qU_s, kU_or, e3, kU_wl, e68, show i - 16 * q = j by omega, show (4 * (i % 16)).toNat = 4 * j by omega, show (v : Int) * 2 ^ (4 * j) = ((v * 2 ^ (4 * j) : Nat) : Int) by simp]
        have lt64 : v * 2 ^ (4 * j) < 2 ^ 64 := by
          have a : v < 2 ^ 4 := by omega
          have b : 2 ^ (4 * j) ≤ 2 ^ 60 := Nat.pow_le_pow_right (by decide) (by omega)
          calc v * 2 ^ (4 * j) ≤ v * 2 ^ 60 := Nat.mul_le_mul_left _ b
            _ < 2 ^ 4 * 2 ^ 60 := Nat.mul_lt_mul_of_pos_right a (by decide)
            _ = 2 ^ 64 := by decide
        rw [kU_of lt64]
        have o := kP_or (b := 4) (e := fun j : Nat => (M 68 0 (16 * q + j)).toNat) (n := j) (fun n hn => by
          have := eb (16 * q + n) (by omega) (by omega)
          show (M 68 0 (16 * q + (n : Int))).toNat < 2 ^ 4
          omega)
        rw [Int.toNat_natCast, show (i + 1 - 16 * q).toNat = j + 1 by omega, ← o]
        have ev : (M 68 0 (16 * q + (j : Int))).toNat = v := by rw [← hj, hv]; rfl
        rw [ev]
    refine loop 16 (16 * q) M2 _ _ _ (by omega) ⟨Int.le_refl _, by omega⟩ (Or.inr rfl) O2 (by rw [v2, show (16 * q - 16 * q).toNat = 0 by omega]; rfl) (fun M4 u20 u21 u22 u23 O4 ⟨n, n16, nO, nE, eU⟩ => ?_)
    refine ih M4 _ _ _ _ (by omega) (fun k o s z => by rw [O4 k o s (fun y => z ⟨y.1, y.2.1, by omega, by omega⟩)]; exact O1 k o s z) (fun i a b e => ?_)
    by_cases z : i < 16 * q
    · unfold k_nib
      rw [O4 _ _ _ (by omega)]
      exact v1 i a b z
    · obtain ⟨j, hj⟩ : ∃ j : Nat, i = 16 * q + j := ⟨(i - 16 * q).toNat, by omega⟩
      have b8 := eb i a b
      unfold k_nib
      rw [show 4 * t + i / 16 = 4 * t + q by omega, show (4 * (i % 16)).toNat = 4 * j by omega]
      have dv := kU_div (M4 70 0 (4 * t + q)) (s := 4 * j) (j := 4) (by omega)
      rw [show ((2 : Int) ^ 4) = 16 from rfl] at dv
      rw [dv, eU]
      have at' := kP_at (b := 4) (e := fun j : Nat => (M 68 0 (16 * q + j)).toNat) (n := n) (fun m hm => by
        have := eb (16 * q + m) (by omega) (by omega)
        show (M 68 0 (16 * q + (m : Int))).toNat < 2 ^ 4
        omega) j (by omega)
      rw [at']
      show (((M 68 0 (16 * q + (j : Int))).toNat : Nat) : Int) = M 68 0 i
      rw [← hj]
      omega
/-- two arrays of widths are the same -/
theorem k_eqW_of {W W' : Int → Int} {k k' : Nat} {M M2 : qM} (hB : c_ok B) (hB2 : c_ok2 B) (hl : k_lim B) (h0 : ∀ y, b_ch (c_K B) y = 0 → W y = W' y) (he : k_e k B W M) (he' : k_e k' B W' M2) : (∀ i, 0 ≤ i → i < k_O B 18 → M k 0 i = M2 k' 0 i) ↔ c_eqW B W W' := by
  constructor
  · intro z y y0 y1 hc
    have th : c_there B y := Classical.byContradiction fun q => by
      unfold b_ch at hc
      rw [k_K0 q, if_neg (by omega)] at hc
      omega
    have pl := k_place hB hl ⟨y0, y1⟩ th
    have om := k_O_m hB pl.1.1 pl.1.2
    have o0 := k_O_b hB hB2 hl _ pl.1.1 (by omega)
    have e1 := he _ _ pl.1.1 pl.1.2 pl.2.2.2.1 (by rw [pl.2.1]; exact pl.2.2.2.2)
    have e2 := he' _ _ pl.1.1 pl.1.2 pl.2.2.2.1 (by rw [pl.2.1]; exact pl.2.2.2.2)
    rw [pl.2.2.1] at e1 e2
    rw [pl.2.1] at om
    have := z _ (by omega) (show k_O B (6 * (y / 200) + y / 20 % 10) + y % 20 < k_O B 18 by have := pl.2.2.2.2; omega)
    rw [← e1, ← e2]
    exact this
  · intro z i i0 i1
    obtain ⟨it, w, a, b, e⟩ := k_O_ex hB ⟨i0, i1⟩
    have th := k_there hB2 a b hB
    rw [e, he it w a.1 a.2 b.1 b.2, he' it w a.1 a.2 b.1 b.2]
    have bb := b_ch_b (K := c_K B) (x := k_y it w)
    by_cases q : b_ch (c_K B) (k_y it w) = 1
    · exact z _ th.1.1 th.1.2 q
    · exact h0 _ (by omega)
theorem k_and01 {x y : Int} (hx : x = 0 ∨ x = 1) (hy : y = 0 ∨ y = 1) : (qAnd x y = 0 ∨ qAnd x y = 1) ∧ (qAnd x y = 1 ↔ x = 1 ∧ y = 1) := by
  rcases hx with hx | hx <;> rcases hy with hy | hy <;> subst hx <;> subst hy <;> decide
/-- whether what was found is what was taken -/
theorem k_215 (hS : qSe h) (hB : c_ok B) (hB2 : c_ok2 B) (hl : k_lim B) (ho : k_off B M) (u21 u22 u23 : qV)
    (H1 : (∀ i, 0 ≤ i → i < k_O B 18 → M 68 0 i = M 69 0 i) → qIn (t + 1) ∧ f (t + 1) h M)
    (H0 : ¬ (∀ i, 0 ≤ i → i < k_O B 18 → M 68 0 i = M 69 0 i) → ∀ u19 : qV, ∀ x117 : Int, x117 = (if t = 11 then 0 else (-1)) → qIn (t - 1) ∧ b215_283 d h f kp t u19 x117 (t - 1) u22 u23 M) : b215_215 d h f kp t 1 0 u21 u22 u23 M := by
  have N48 := k_O_b hB hB2 hl 18 (by decide) (by decide)
  have e67 : M 67 0 18 = k_O B 18 := ho 18 (by decide) (by decide)
  refine q_upto (P := fun i => ∀ (x : Int) (u21 : qV), 0 ≤ i → (x = 0 ∨ x = 1) → (x = 1 ↔ ∀ j, 0 ≤ j → j < i → M 68 0 j = M 69 0 j) → b215_215 d h f kp t x i u21 u22 u23 M) (a := 0) (b := k_O B 18) N48.1 (fun x u21 _ hx hi => ?_) (fun i i0 i1 ih x u21 _ hx hi => ?_) 1 u21 (Int.le_refl _) (Or.inr rfl) ⟨fun _ j a b => by omega, fun _ => rfl⟩
  · refine w215_215 hS ?_
    rw [e67]
    exact ⟨fun z => absurd z (Int.lt_irrefl _), fun _ => ⟨fun x0 => H0 (fun z => by have := hi.mpr z; omega) _, fun x1 => H1 (hi.mp (by omega))⟩⟩
  · refine w215_215 hS ?_
    rw [e67]
    refine ⟨fun _ => ⟨⟨by omega, by omega⟩, ⟨by omega, by omega⟩, fun y hy => ⟨⟨by omega, by omega⟩, ?_⟩⟩, fun z => absurd i1 z⟩
    have hy01 : y = 0 ∨ y = 1 := by rw [hy]; split <;> simp
    have an := k_and01 hx hy01
    refine ih _ _ (by omega) an.1 (an.2.trans ⟨fun z j a b => ?_, fun z => ⟨hi.mpr (fun j a b => z j a (by omega)), by rw [hy, if_pos (z i i0 (by omega))]⟩⟩)
    by_cases e : j = i
    · subst e
      have := z.2
      rw [hy] at this
      by_cases q : M 68 0 j = M 69 0 j
      · exact q
      · rw [if_neg q] at this; omega
    · exact hi.mp z.1 j a (by omega)
/-- the first round that took what was found -/
theorem k_283 (hS : qSe h) (hB : c_ok B) (hB2 : c_ok2 B) (hl : k_lim B) (ho : k_off B M) (ht : 0 ≤ t ∧ t < 12) {r0 : Int} (hr0 : -1 ≤ r0 ∧ r0 ≤ 12) (hb : ∀ i, 0 ≤ i → i < k_O B 18 → 0 ≤ M 69 0 i ∧ M 69 0 i ≤ 8)
    (H : ∀ (ring : Int) (u19 u22 u23 : qV), (ring = r0 ∧ ∀ s, 0 ≤ s → s < t → ¬ (∀ i, 0 ≤ i → i < k_O B 18 → k_nib M s i = M 69 0 i)) ∨ ((0 ≤ ring ∧ ring < t) ∧ (∀ i, 0 ≤ i → i < k_O B 18 → k_nib M ring i = M 69 0 i) ∧ ∀ s, 0 ≤ s → s < ring → ¬ (∀ i, 0 ≤ i → i < k_O B 18 → k_nib M s i = M 69 0 i)) → b215_283 d h f kp t u19 ring (-1) u22 u23 M) (u19 u22 u23 : qV) : b215_283 d h f kp t u19 r0 (t - 1) u22 u23 M := by
  have N48 := k_O_b hB hB2 hl 18 (by decide) (by decide)
  have e67 : M 67 0 18 = k_O B 18 := ho 18 (by decide) (by decide)
  refine k_down (b := -1) (P := fun q => ∀ (ring : Int) (u19 u22 u23 : qV), -1 ≤ q → q < t → ((ring = r0 ∧ ∀ s, q < s → s < t → ¬ (∀ i, 0 ≤ i → i < k_O B 18 → k_nib M s i = M 69 0 i)) ∨ ((q < ring ∧ ring < t) ∧ (∀ i, 0 ≤ i → i < k_O B 18 → k_nib M ring i = M 69 0 i) ∧ ∀ s, q < s → s < ring → ¬ (∀ i, 0 ≤ i → i < k_O B 18 → k_nib M s i = M 69 0 i))) → b215_283 d h f kp t u19 ring q u22 u23 M) t.toNat (t - 1) (by omega) (fun q hq ring u19 u22 u23 q0 q1 hr => ?_) (fun q hq ih ring u19 u22 u23 q0 q1 hr => ?_) r0 u19 u22 u23 (by omega) (by omega) (Or.inl ⟨rfl, fun s a b => by omega⟩)
  · have e : q = -1 := by omega
    subst e
    refine H ring _ _ _ ?_
    rcases hr with ⟨a, b⟩ | ⟨a, b, c⟩
    · exact Or.inl ⟨a, fun s s0 s1 => b s (by omega) s1⟩
    · exact Or.inr ⟨⟨by omega, a.2⟩, b, fun s s0 s1 => c s (by omega) s1⟩
  · have rb : -1 ≤ ring ∧ ring ≤ 12 := by rcases hr with ⟨a, b⟩ | ⟨a, b, c⟩ <;> omega
    refine w215_283 hS ⟨fun z => absurd z (by omega), fun _ => ?_⟩
    refine q_upto (P := fun i => ∀ x : Int, 0 ≤ i → (x = 0 ∨ x = 1) → (x = 1 ↔ ∀ j, 0 ≤ j → j < i → k_nib M q j = M 69 0 j) → b215_294 d h f kp t u19 ring q x i M) (a := 0) (b := k_O B 18) N48.1 (fun x _ hx hi => ?_) (fun i i0 i1 ihi x _ hx hi => ?_) 1 (Int.le_refl _) (Or.inr rfl) ⟨fun _ j a b => by omega, fun _ => rfl⟩
    · refine w215_294 hS ?_
      rw [e67]
      refine ⟨fun z => absurd z (Int.lt_irrefl _), fun _ y hy => ⟨⟨by omega, by omega⟩, ?_⟩⟩
      rw [show q + -1 = q - 1 by omega]
      refine ih y _ _ _ (by omega) (by omega) ?_
      by_cases x0 : x = 0
      · rw [if_pos x0] at hy
        have no : ¬ (∀ i, 0 ≤ i → i < k_O B 18 → k_nib M q i = M 69 0 i) := fun z => by have := hi.mpr z; omega
        rw [hy]
        rcases hr with ⟨a, b⟩ | ⟨a, b, c⟩
        · refine Or.inl ⟨a, fun s s0 s1 => ?_⟩
          by_cases e : s = q
          · rw [e]; exact no
          · exact b s (by omega) s1
        · refine Or.inr ⟨⟨by omega, a.2⟩, b, fun s s0 s1 => ?_⟩
          by_cases e : s = q
          · rw [e]; exact no
          · exact c s (by omega) s1
      · rw [if_neg x0] at hy
        rw [hy]
        exact Or.inr ⟨⟨by omega, q1⟩, hi.mp (by omega), fun s s0 s1 => by omega⟩
    · refine w215_294 hS ?_
      rw [e67]
      refine ⟨fun _ => ⟨⟨by omega, by omega⟩, i0, ⟨by omega, by omega⟩, ⟨by omega, by omega⟩, i0, ⟨by omega, by omega⟩, ⟨by omega, by omega⟩, ⟨by omega, by omega⟩, fun y hy => ⟨⟨by omega, by omega⟩, ?_⟩⟩, fun z => absurd i1 z⟩
      rw [k_l15] at hy
      have en : M 70 0 (4 * q + i / 16) / 2 ^ (4 * (i % 16)).toNat % 16 = k_nib M q i := rfl
      rw [en] at hy
      have hy01 : (y = 0 ∨ y = 1) ∧ (y = 1 ↔ k_nib M q i = M 69 0 i) := by
        rw [hy]
        by_cases a : k_nib M q i < M 69 0 i
        · rw [if_pos a, if_neg (by decide)]; exact ⟨Or.inl rfl, ⟨fun z => absurd z (by decide), fun z => by omega⟩⟩
        · rw [if_neg a]
          by_cases b : k_nib M q i = M 69 0 i
          · rw [if_pos b, if_pos rfl]; exact ⟨Or.inr rfl, ⟨fun _ => b, fun _ => rfl⟩⟩
          · rw [if_neg b, if_neg (by decide)]; exact ⟨Or.inl rfl, ⟨fun z => absurd z (by decide), fun z => absurd z b⟩⟩
      have an := k_and01 hx hy01.1
      refine ihi _ (by omega) an.1 (an.2.trans ⟨fun z j a b => ?_, fun z => ⟨hi.mpr (fun j a b => z j a (by omega)), hy01.2.mpr (z i i0 (by omega))⟩⟩)
      by_cases e : j = i
      · subst e; exact hy01.2.mp z.2
      · exact hi.mp z.1 j a (by omega)
/-- what was found is taken -/
theorem k_520 (hS : qSe h) (hB : c_ok B) (hB2 : c_ok2 B) (hl : k_lim B) (ho : k_off B M) (ht : 0 ≤ t ∧ t < 12) (u19 u20 u22 u23 : qV)
    (H : ∀ M', (∀ (k : Nat) (o s : Int), ¬ (k = 68 ∧ o = 0) → M' k o s = M k o s) → (∀ i, 0 ≤ i → i < k_O B 18 → M' 68 0 i = M 69 0 i) → ∀ u19 u20 u21 u22 u23 : qV, b215_65 d h f kp (t + 1) u19 u20 u21 u22 u23 M') : b215_520 d h f kp t u19 u20 0 u22 u23 M := by
  have N48 := k_O_b hB hB2 hl 18 (by decide) (by decide)
  refine q_upto (P := fun i => ∀ (M1 : qM), 0 ≤ i → (∀ (k : Nat) (o s : Int), ¬ (k = 68 ∧ o = 0) → M1 k o s = M k o s) → (∀ j, 0 ≤ j → j < i → M1 68 0 j = M 69 0 j) → b215_520 d h f kp t u19 u20 i u22 u23 M1) (a := 0) (b := k_O B 18) N48.1 (fun M1 _ O1 v1 => ?_) (fun i i0 i1 ih M1 _ O1 v1 => ?_) M (Int.le_refl _) (fun _ _ _ _ => rfl) (fun j a b => by omega)
  · have e67 : M1 67 0 18 = k_O B 18 := by rw [O1 _ _ _ (by omega)]; exact ho 18 (by decide) (by decide)
    refine w215_520 hS ?_
    rw [e67]
    exact ⟨fun z => absurd z (Int.lt_irrefl _), fun _ => ⟨⟨by omega, by omega⟩, H M1 O1 v1 _ _ _ _ _⟩⟩
  · have e67 : M1 67 0 18 = k_O B 18 := by rw [O1 _ _ _ (by omega)]; exact ho 18 (by decide) (by decide)
    refine w215_520 hS ?_
    rw [e67]
    refine ⟨fun _ => ⟨⟨by omega, by omega⟩, ⟨by omega, by omega⟩, fun M2 f2 => ⟨⟨by omega, by omega⟩, ?_⟩⟩, fun z => absurd i1 z⟩
    refine ih M2 (by omega) (fun k o s z => by rw [f2]; unfold qU; rw [if_neg (fun y => z ⟨y.1, y.2.1⟩)]; exact O1 k o s z) (fun j a b => ?_)
    by_cases e : j = i
    · subst e; rw [f2, qU_s, O1 _ _ _ (by omega)]
    · rw [f2, qU_l (by omega)]; exact v1 j a (by omega)
end
