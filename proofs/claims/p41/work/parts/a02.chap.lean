/-! ===== a round of the class: its chapters ===== -/
theorem q_bit {v c : Int} (hv : 0 ≤ v ∧ v < 65536) (hc : 0 ≤ c ∧ c < 3) : qAnd (v / 2 ^ c.toNat) 1 = 0 ↔ ¬ q_bs v c := by
  rcases (show c = 0 ∨ c = 1 ∨ c = 2 by omega) with rfl | rfl | rfl
  · rw [show v / 2 ^ ((0 : Int)).toNat = v / 1 from rfl, Int.ediv_one, q_and1 hv, q_bs0 hv.1]; omega
  · rw [show v / 2 ^ ((1 : Int)).toNat = v / 2 from rfl, q_and1 (by omega), show (1 : Int) = 0 + 1 from rfl, ← q_bs_half hv.1 (Int.le_refl _), q_bs0 (by omega)]; omega
  · rw [show v / 2 ^ ((2 : Int)).toNat = v / 4 from rfl, q_and1 (by omega), show (2 : Int) = 1 + 1 from rfl, ← q_bs_half hv.1 (by decide), show (1 : Int) = 0 + 1 from rfl, ← q_bs_half (by omega) (Int.le_refl _), q_bs0 (by omega)]; omega
theorem p_rows_fr {A : pA} {cnt n : Int} {N N' : qM} (hr : p_rows A cnt n N) (hf : ∀ (k : Nat) (s : Int), (k = 9 ∨ (48 ≤ k ∧ k ≤ 61)) → N' k n s = N k n s) : p_rows A cnt n N' := by
  obtain ⟨⟨r1, r2, r3⟩, ⟨v1, v2, v3, v4, v5, v6⟩, l⟩ := hr
  refine ⟨⟨by rw [hf _ _ (by omega)]; exact r1, fun q a b => ?_, fun q a b => ?_⟩, ⟨by rw [hf _ _ (by omega)]; exact v1, by rw [hf _ _ (by omega)]; exact v2, by rw [hf _ _ (by omega)]; exact v3, by rw [hf _ _ (by omega)]; exact v4, fun y a b => by rw [hf _ _ (by omega)]; exact v5 y a b, fun i' w' p1 p2 p3 p4 => ⟨fun q => ?_, fun q k k0 k1 => ?_⟩⟩, fun y a b => by rw [hf _ _ (by omega)]; exact l y a b⟩
  · rw [hf _ _ (by omega), hf _ _ (by omega), hf _ _ (by omega), hf _ _ (by omega), hf _ _ (by omega), hf _ _ (by omega)]; exact r2 q a b
  · rw [hf _ _ (by omega), hf _ _ (by omega), hf _ _ (by omega), hf _ _ (by omega)]; exact r3 q a b
  · rw [hf _ _ (by omega), hf _ _ (by omega), hf _ _ (by omega)]; exact (v6 i' w' p1 p2 p3 p4).1 q
  · rw [hf _ _ (by omega)]; exact (v6 i' w' p1 p2 p3 p4).2 q k k0 k1
/-- pages of a chapter: P, how many, how many with rows, the first, the cost -/
abbrev c_W : Type := pT × Int × Int × Int × Int
def w_P (w : c_W) : pT := w.1
def w_ct (w : c_W) : Int := w.2.1
def w_wr (w : c_W) : Int := w.2.2.1
def w_fi (w : c_W) : Int := w.2.2.2.1
def w_co (w : c_W) : Int := w.2.2.2.2
/-- a round: lines of items, their costs, their ends, pages of chapters -/
abbrev c_R : Type := (Int → Int) × (Int → Int) × (Int → Int → Int) × (Int → c_W)
def r_L (R : c_R) : Int → Int := R.1
def r_C (R : c_R) : Int → Int := R.2.1
def r_E (R : c_R) : Int → Int → Int := R.2.2.1
def r_W (R : c_R) : Int → c_W := R.2.2.2
def r_A (B : pT) (R : c_R) (c : Int) : pA := c_A B (r_L R) (r_E R) c
def c_ss (B Bo : pT) (c i : Int) : Prop := B 7 (10 * c + i) = Bo 7 (10 * c + i)
/-- what is kept of a chapter -/
def c_keep (B : pT) (A : pA) (ob : Prop) (Bo : pT) (Ro : c_R) (c fi : Int) : pT → Int → Prop := fun Q n => (¬ ob ∧ n = 0) ∨ (ob ∧ g_keepP (p_T A (B 0 c) (B 8 1)) (w_P (r_W Ro c)) (c_same A (r_A Bo Ro c) (B 0 c) (Bo 0 c) (c_ss B Bo c)) (w_wr (r_W Ro c)) (Bo 8 0 = B 8 0 ∧ Bo 8 1 = B 8 1 ∧ w_fi (r_W Ro c) = fi) Q n)
/-- a chapter as it is made -/
def c_mk (B : pT) (A : pA) (ob : Prop) (Bo : pT) (Ro : c_R) (c : Int) (w : c_W) : Prop := (B 0 c ≤ 0 → w_fi w = 0 ∧ w_ct w = 0 ∧ w_wr w = 0 ∧ w_co w = 0) ∧ (0 < B 0 c → 0 < w_fi w ∧ g_made (p_T A (B 0 c) (B 8 1)) (c_keep B A ob Bo Ro c (w_fi w)) (w_P w) (w_ct w) (w_co w) ∧ g_pages (p_T A (B 0 c) (B 8 1)) (w_P w) (w_ct w) (w_wr w))
/-- the chapter in edition e -/
def c_ch (A : pA) (cnt : Int) (w : c_W) (c e : Int) (M : qM) : Prop := p_rows A cnt (1 + 3 * e + c) M ∧ g_cP (w_P w) (w_ct w) (0 + 3 * e + c) M ∧ M 8 (0 + 3 * e + c) 0 = w_fi w ∧ M 8 (0 + 3 * e + c) 2 = w_wr w ∧ M 8 (0 + 3 * e + c) 3 = w_co w
theorem c_ch_fr {A : pA} {cnt : Int} {w : c_W} {c e : Int} {M M' : qM} (h : c_ch A cnt w c e M) (h1 : ∀ (k : Nat) (s : Int), (k = 9 ∨ (48 ≤ k ∧ k ≤ 61)) → M' k (1 + 3 * e + c) s = M k (1 + 3 * e + c) s) (h2 : ∀ (k : Nat) (s : Int), (k = 8 ∨ (43 ≤ k ∧ k ≤ 47)) → M' k (0 + 3 * e + c) s = M k (0 + 3 * e + c) s) : c_ch A cnt w c e M' :=
  ⟨p_rows_fr h.1 h1, ⟨by rw [h2 _ _ (by omega)]; exact h.2.1.1, fun k a b => by rw [h2 _ _ (by omega), h2 _ _ (by omega), h2 _ _ (by omega), h2 _ _ (by omega), h2 _ _ (by omega)]; exact h.2.1.2 k a b⟩, by rw [h2 _ _ (by omega)]; exact h.2.2.1, by rw [h2 _ _ (by omega)]; exact h.2.2.2.1, by rw [h2 _ _ (by omega)]; exact h.2.2.2.2⟩
/-- the last page ahead of a chapter -/
def c_la (W : Int → c_W) (p0 : Int) : Nat → Int
  | 0 => p0
  | n + 1 => if 0 < w_fi (W n) then w_fi (W n) + w_ct (W n) - 1 else c_la W p0 n
def c_fst (B : pT) (W : Int → c_W) (p0 c : Int) : Int := if B 0 c ≤ 0 then 0 else c_la W p0 c.toNat + 1 + c_la W p0 c.toNat % 2
theorem c_la_cg {W W' : Int → c_W} {p0 : Int} : ∀ n : Nat, (∀ k : Int, 0 ≤ k → k < n → W' k = W k) → c_la W' p0 n = c_la W p0 n
  | 0, _ => rfl
  | n + 1, h => by
    show (if 0 < w_fi (W' n) then w_fi (W' n) + w_ct (W' n) - 1 else c_la W' p0 n) = if 0 < w_fi (W n) then w_fi (W n) + w_ct (W n) - 1 else c_la W p0 n
    rw [h n (by omega) (by omega), c_la_cg n (fun k a b => h k a (by omega))]
/-- the book in the class -/
def c_bk (B : pT) (M : qM) : Prop := (∀ c, 0 ≤ c → c < 3 → M 1 c 1 = B 0 c) ∧ (∀ x, 0 ≤ x → x < 30 → M 5 (1 + x) 0 = B 1 x ∧ M 5 (1 + x) 1 = B 2 x ∧ M 5 (1 + x) 2 = B 3 x ∧ M 5 (1 + x) 3 = B 7 x) ∧ ∀ y, 0 ≤ y → y < 600 → M 33 (1 + y / 20) (y % 20) = B 4 y ∧ M 34 (1 + y / 20) (y % 20) = B 5 y ∧ M 32 (1 + y / 20) (y % 20) = B 6 y
theorem c_rep {B : pT} {L : Int → Int} {E : Int → Int → Int} {c i : Int} {M : qM} (h : c_bk B M) (hc : 0 ≤ c ∧ c < 3) (hi : 0 ≤ i ∧ i < 10) (hl : M 5 (1 + (10 * c + i)) 10 = L (10 * c + i) ∧ ∀ s, M 37 (1 + (10 * c + i)) s = E (10 * c + i) s) : p_rep (c_A B L E c) M (1 + 10 * c + i) i := by
  have v := fun w => c_A_v (B := B) (L := L) (E := E) (c := c) (i := i) (w := w) hi
  have b := h.2.1 (10 * c + i) (by omega) (by omega)
  unfold p_rep
  rw [show 1 + 10 * c + i = 1 + (10 * c + i) by omega, (v 0).1, (v 0).2.1, (v 0).2.2.1, (v 0).2.2.2.2.2.2]
  refine ⟨b.1, b.2.1, hl.1, b.2.2.1, fun s _ _ _ => by rw [(v s).2.2.2.1]; exact hl.2 s, fun w w0 w1 => ?_⟩
  have y := h.2.2 (20 * (10 * c + i) + w) (by omega) (by omega)
  rw [show (20 * (10 * c + i) + w) / 20 = 10 * c + i by omega, show (20 * (10 * c + i) + w) % 20 = w by omega] at y
  rw [(v w).2.2.2.2.1, (v w).2.2.2.2.2.1]
  exact ⟨y.1, y.2.1⟩
/-- what was printed, in the class: edition e -/
def c_om (Bo : pT) (Ro : c_R) (e : Int) (M : qM) : Prop := M 3 e 0 = Bo 8 0 ∧ M 3 e 1 = Bo 8 1 ∧ (∀ c, 0 ≤ c → c < 3 → c_ch (r_A Bo Ro c) (Bo 0 c) (r_W Ro c) c e M) ∧ ∀ x, 0 ≤ x → x < 30 → x % 10 < Bo 0 (x / 10) → M 23 e x = Bo 7 x
def c_oldok (B : pT) (L : Int → Int) (E : Int → Int → Int) (Bo : pT) (Ro : c_R) : Prop := ∀ c, 0 ≤ c → c < 3 → c_was (c_A B L E c) (r_A Bo Ro c) (B 0 c) (Bo 0 c) (Bo 8 1) (c_ss B Bo c) (w_P (r_W Ro c)) (w_ct (r_W Ro c)) (w_wr (r_W Ro c))
/-- the same row: the class' way of saying it -/
theorem c_srow {B Bo : pT} {A A' : pA} {e e' c : Int} {M : qM} (hA : p_okA A (B 0 c)) (hA' : p_okA A' (Bo 0 c)) (hc : 0 ≤ c ∧ c < 3) (h1 : p_rows A (B 0 c) (1 + 3 * e + c) M) (h2 : p_rows A' (Bo 0 c) (1 + 3 * e' + c) M) (hs : ∀ x, 0 ≤ x → x < 30 → x % 10 < B 0 (x / 10) → M 23 e x = B 7 x) (hs' : ∀ x, 0 ≤ x → x < 30 → x % 10 < Bo 0 (x / 10) → M 23 e' x = Bo 7 x) (r : Int) (hr : 0 ≤ r) : p_srow M e e' c r r ↔ c_same A A' (B 0 c) (Bo 0 c) (c_ss B Bo c) r := by
  unfold p_srow c_same
  rw [h1.1.1, h2.1.1]
  by_cases q : r < p_SR A (B 0 c) ∧ r < p_SR A' (Bo 0 c)
  · have a := h1.1.2.1 r hr q.1
    have b := h2.1.2.1 r hr q.2
    rw [a.1, a.2.1, a.2.2.1, b.1, b.2.1, b.2.2.1]
    have ri := (p_row_in hA ⟨hr, q.1⟩).1
    have ri' := (p_row_in hA' ⟨hr, q.2⟩).1
    have cn := hA.1
    have cn' := hA'.1
    by_cases e1 : p_ri A r = p_ri A' r
    · have x1 := hs (10 * c + p_ri A r) (by omega) (by omega) (by rw [show (10 * c + p_ri A r) / 10 = c by omega]; omega)
      have x2 := hs' (10 * c + p_ri A r) (by omega) (by omega) (by rw [show (10 * c + p_ri A r) / 10 = c by omega]; omega)
      unfold c_ss
      rw [show c * 10 + p_ri A r = 10 * c + p_ri A r by omega, x1, x2]
      exact ⟨fun z => ⟨q, z.2.2.1, z.2.2.2.1, z.2.2.2.2.1, z.2.2.2.2.2⟩, fun z => ⟨q.1, q.2, z.2.1, z.2.2.1, z.2.2.2.1, z.2.2.2.2⟩⟩
    · exact ⟨fun z => absurd z.2.2.1 e1, fun z => absurd z.2.1 e1⟩
  · exact ⟨fun z => absurd ⟨z.1, z.2.1⟩ q, fun z => absurd z.1 q⟩
def fr16c (e c : Int) (M M' : qM) : Prop := ∀ (k : Nat) (m s : Int), ¬ (k = 7 ∧ m = 0 ∧ 3 ≤ s ∧ s ≤ 12) → ¬ ((k = 40 ∨ k = 41 ∨ k = 42) ∧ m = 0) → ¬ (k = 3 ∧ m = e ∧ s = 4) → ¬ ((1 + 3 * e ≤ m ∧ m < 1 + 3 * e + c) ∧ ((k = 9 ∧ (s = 0 ∨ s = 12 ∨ s = 16 ∨ s = 17)) ∨ (48 ≤ k ∧ k ≤ 61))) → ¬ ((0 + 3 * e ≤ m ∧ m < 0 + 3 * e + c) ∧ ((k = 8 ∧ 0 ≤ s ∧ s ≤ 3) ∨ (43 ≤ k ∧ k ≤ 47))) → M' k m s = M k m s
def c_bd (M : qM) : Prop := (∀ s, 0 ≤ M 41 0 s ∧ M 41 0 s ≤ 300000000) ∧ ∀ s, 0 ≤ M 40 0 s ∧ M 40 0 s < 65536
/-- the chapters ahead of c -/
def c_chs (B : pT) (L : Int → Int) (E : Int → Int → Int) (ob : Prop) (Bo : pT) (Ro : c_R) (p0 : Int) (W : Int → c_W) (c : Int) : Prop := ∀ c', 0 ≤ c' → c' < c → c_mk B (c_A B L E c') ob Bo Ro c' (W c') ∧ w_fi (W c') = c_fst B W p0 c'
/-- nothing stands ahead of the first row -/
def c_z (e : Int) (M : qM) : Prop := ∀ c, 0 ≤ c → c < 3 → M 54 (1 + 3 * e + c) 0 = 0 ∧ M 55 (1 + 3 * e + c) 0 = 0 ∧ M 56 (1 + 3 * e + c) 0 = 0 ∧ M 57 (1 + 3 * e + c) 0 = 0 ∧ M 61 (1 + 3 * e + c) 0 = 0
theorem p_rows_z {A : pA} {cnt n : Int} {M : qM} (h : p_rows A cnt n M) (hA : p_okA A cnt) : M 54 n 0 = 0 ∧ M 55 n 0 = 0 ∧ M 56 n 0 = 0 ∧ M 57 n 0 = 0 ∧ M 61 n 0 = 0 := by
  have s0 : 0 ≤ p_SR A cnt := p_SR_le hA (i := 0) ⟨Int.le_refl _, hA.1.1⟩
  have a := h.1.2.2 0 (Int.le_refl _) s0
  exact ⟨a.1, a.2.1, a.2.2.1, a.2.2.2, h.2.1.2.2.2.1⟩
