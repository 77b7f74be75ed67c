/-! ===== the law lays a chapter ===== -/
/-- what was printed, in the law's arrays -/
def k_om (B Bo : pT) (Ro : c_R) (M : qM) : Prop := (M 76 0 34 = Bo 8 0 ∧ M 76 0 35 = Bo 8 1) ∧ (∀ c, 0 ≤ c → c < 3 → (0 < Bo 0 c → k_old M c (w_P (r_W Ro c)) (w_wr (r_W Ro c)) (w_ct (r_W Ro c)) (w_fi (r_W Ro c) - 1) ∧ ∀ q, 0 ≤ q → q < p_SR (r_A Bo Ro c) (Bo 0 c) → M 80 0 (20 * c + q) % 16384 = p_ri (r_A Bo Ro c) q + 16 * p_fr (r_A Bo Ro c) q + 512 * p_to (r_A Bo Ro c) q) ∧ (Bo 0 c ≤ 0 → M 76 0 (36 + c) ≤ 0 ∧ w_fi (r_W Ro c) ≤ 0)) ∧ ∀ c i, 0 ≤ c → c < 3 → 0 ≤ i → i < B 0 c → i < Bo 0 c → (B 7 (10 * c + i) = Bo 7 (10 * c + i) ↔ M 65 0 (6 * c + i) / 256 % 256 = M 82 0 (6 * c + i))
theorem k_keepP_cg {T O P : pT} {same same' : Int → Prop} {wo n R : Int} {on on' : Prop} (ho : g_old O wo) (hR : ∀ k, 0 ≤ k → k < wo → O 0 k ≤ R) (hs : ∀ r, 0 ≤ r → r < R → (same r ↔ same' r)) (hon : on ↔ on') (h : g_keepP T O same wo on P n) : g_keepP T O same' wo on' P n := by
  rcases h with ⟨h1, h2, h3, h4⟩ | h
  · have kr : ∀ k, 0 ≤ k → k < wo → (g_kr O same k ↔ g_kr O same' k) := fun k k0 k1 => by
      have g0 := (ho.2 k k0 k1).1
      have g1 := hR k k0 k1
      unfold g_kr
      exact ⟨fun q r r0 r1 => (hs r (by omega) (by omega)).mp (q r r0 r1), fun q r r0 r1 => (hs r (by omega) (by omega)).mpr (q r r0 r1)⟩
    refine Or.inl ⟨hon.mp h1, h2, fun k k0 k1 => ?_, ?_⟩
    · obtain ⟨⟨a, b⟩, c⟩ := h3 k k0 k1
      exact ⟨⟨(kr k k0 (by omega)).mp a, b⟩, c⟩
    · rcases h4 with h4 | h4
      · exact Or.inl h4
      · by_cases q : wo - 1 ≤ n
        · exact Or.inl q
        · exact Or.inr (fun z => h4 ⟨(kr n h2.1 (by omega)).mpr z.1, z.2⟩)
  · exact Or.inr ⟨fun z => h.1 (hon.mpr z), h.2⟩
theorem k_made_cg {T P : pT} {keep keep' : pT → Int → Prop} {c cost : Int} (hk : ∀ Q n, keep Q n → keep' Q n) (h : g_made T keep P c cost) : g_made T keep' P c cost := by
  obtain ⟨Pk, ck, h1, h2⟩ := h
  exact ⟨Pk, ck, hk _ _ h1, h2⟩
theorem k_none_cg {T : pT} {keep keep' : pT → Int → Prop} (hk : ∀ Q n, keep Q n → keep' Q n) (h : g_none T keep) : g_none T keep' := by
  obtain ⟨Pk, ck, h1, h2⟩ := h
  exact ⟨Pk, ck, hk _ _ h1, h2⟩
section
variable {B Bo : pT} {L C W0 : Int → Int} {E : Int → Int → Int} {c : Int} {M : qM}
theorem k_A {k : Nat} {i w : Int} (hi : 0 ≤ i ∧ i < 10) : (k = 0 → c_A B L E c k i w = B 1 (10 * c + i)) ∧ (k = 1 → c_A B L E c k i w = B 2 (10 * c + i)) ∧ (k = 2 → c_A B L E c k i w = L (10 * c + i)) ∧ (k = 3 → c_A B L E c k i w = E (10 * c + i) w) ∧ (k = 4 → c_A B L E c k i w = B 4 (20 * (10 * c + i) + w)) ∧ (k = 5 → c_A B L E c k i w = B 5 (20 * (10 * c + i) + w)) ∧ (k = 6 → c_A B L E c k i w = B 3 (10 * c + i)) := by
  unfold c_A
  rw [if_pos hi]
  refine ⟨fun e => ?_, fun e => ?_, fun e => ?_, fun e => ?_, fun e => ?_, fun e => ?_, fun e => ?_⟩ <;> subst e <;> rfl
theorem k_szA (hB : c_ok B) (hl : k_lim B) (hL : c_lines B W0 L C E) (hc : 0 ≤ c ∧ c < 3) : k_sz (c_A B L E c) (B 0 c) c ∧ p_SW (c_A B L E c) (B 0 c) ≤ 16 ∧ ∀ i, 0 ≤ i → i < B 0 c → p_SR (c_A B L E c) i + (if B 1 (10 * c + i) = 0 then B 3 (10 * c + i) else 1) ≤ 16 := by
  have ok := c_okB hB hL hc
  have b0 := (hB.1 c hc.1 hc.2).1
  have l := hl.1 c hc.1 hc.2
  have sw : p_SW (c_A B L E c) (B 0 c) = p_sum (fun i => if B 1 (10 * c + i) = 0 then B 3 (10 * c + i) else 1) (B 0 c) := p_sum_cg b0.1 (fun i i0 i1 => by
    show (if c_A B L E c 0 i 0 = 0 then c_A B L E c 6 i 0 else 1) = _
    have a := k_A (B := B) (L := L) (E := E) (c := c) (k := 0) (i := i) (w := 0) ⟨i0, by omega⟩
    have b := k_A (B := B) (L := L) (E := E) (c := c) (k := 6) (i := i) (w := 0) ⟨i0, by omega⟩
    rw [a.1 rfl, b.2.2.2.2.2.2 rfl])
  have each : ∀ i, 0 ≤ i → i < B 0 c → c_A B L E c 2 i 0 ≤ (if B 1 (10 * c + i) = 0 then B 3 (10 * c + i) else 1) := fun i i0 i1 => by
    have a := k_A (B := B) (L := L) (E := E) (c := c) (k := 0) (i := i) (w := 0) ⟨i0, by omega⟩
    have b := k_A (B := B) (L := L) (E := E) (c := c) (k := 6) (i := i) (w := 0) ⟨i0, by omega⟩
    rcases (ok.1.2.1 i i0 i1).2 with q | q
    · rw [a.1 rfl] at q
      rw [if_neg (by omega)]; omega
    · rw [a.1 rfl, b.2.2.2.2.2.2 rfl] at q
      rw [if_pos q.1]; omega
  have key : ∀ i, 0 ≤ i → i ≤ B 0 c → p_SR (c_A B L E c) i ≤ p_sum (fun i => if B 1 (10 * c + i) = 0 then B 3 (10 * c + i) else 1) i := fun i i0 i1 => (p_sum_le i0 (fun x a b => each x a (by omega))).1
  have pos : ∀ i, 0 ≤ i → i < B 0 c → 0 ≤ (if B 1 (10 * c + i) = 0 then B 3 (10 * c + i) else 1) := fun i i0 i1 => by
    have := (hB.2.1 (10 * c + i)).1
    split <;> omega
  refine ⟨⟨hc, l.1, fun i i0 i1 => ?_, ok, ?_⟩, by rw [sw]; exact l.2, fun i i0 i1 => ?_⟩
  · have b := k_A (B := B) (L := L) (E := E) (c := c) (k := 6) (i := i) (w := 0) ⟨i0, by omega⟩
    rw [b.2.2.2.2.2.2 rfl]
    exact hl.2.1 _ (by omega) (by omega)
  · have := key (B 0 c) b0.1 (Int.le_refl _)
    omega
  · have a := key i i0 (by omega)
    have b := p_sum_lt (g := fun i => if B 1 (10 * c + i) = 0 then B 3 (10 * c + i) else 1) (a := i) (b := B 0 c) (fun x x0 x1 => pos x (by omega) x1) i0 i1
    have := l.2
    omega
theorem k_chA (hB : c_ok B) (hB2 : c_ok2 B) (hl : k_lim B) (hL : c_lines B W0 L C E) (hc : 0 ≤ c ∧ c < 3) (hbk : k_bk B M) (h19 : M 76 0 (19 + c) = p_SR (c_A B L E c) (B 0 c)) (hr : k_rw (c_A B L E c) c (p_SR (c_A B L E c) (B 0 c)) M) : k_ch (c_A B L E c) (B 0 c) c (B 8 1) M := by
  have sz := (k_szA hB hl hL hc).1
  have l6 := sz.2.1
  obtain ⟨b1, b2, b3, b4, b5, b6⟩ := hbk
  refine ⟨sz, hB.2.2.2.2.2.2.2.1, ⟨b5, h19⟩, hr, fun i i0 i1 => ?_, fun i w i0 i1 w0 w1 => ?_⟩
  · have x := b2 (6 * c + i) (by omega) (by omega)
    rw [k_x_c hc ⟨i0, by omega⟩] at x
    have a0 := k_A (B := B) (L := L) (E := E) (c := c) (k := 0) (i := i) (w := 0) ⟨i0, by omega⟩
    have a1 := k_A (B := B) (L := L) (E := E) (c := c) (k := 1) (i := i) (w := 0) ⟨i0, by omega⟩
    have a6 := k_A (B := B) (L := L) (E := E) (c := c) (k := 6) (i := i) (w := 0) ⟨i0, by omega⟩
    rw [a0.1 rfl, a1.2.1 rfl, a6.2.2.2.2.2.2 rfl]
    exact x
  · have a4 := k_A (B := B) (L := L) (E := E) (c := c) (k := 4) (i := i) (w := w) ⟨i0, by omega⟩
    have a5 := k_A (B := B) (L := L) (E := E) (c := c) (k := 5) (i := i) (w := w) ⟨i0, by omega⟩
    have a6 := k_A (B := B) (L := L) (E := E) (c := c) (k := 6) (i := i) (w := 0) ⟨i0, by omega⟩
    rw [a6.2.2.2.2.2.2 rfl] at w1
    have x := b3 (6 * c + i) w (by omega) (by omega) w0 (by rw [k_x_c hc ⟨i0, by omega⟩]; exact w1)
    have th := k_there hB2 (it := 6 * c + i) (w := w) ⟨by omega, by omega⟩ (by rw [k_x_c hc ⟨i0, by omega⟩]; exact ⟨w0, w1⟩) hB
    have ey : k_y (6 * c + i) w = 20 * (10 * c + i) + w := by unfold k_y; rw [k_x_c hc ⟨i0, by omega⟩]
    rw [a4.2.2.2.2.1 rfl, a5.2.2.2.2.2.1 rfl, ← ey, x]
    have k4 := (hB.2.2.2.2.1 _ th.1.1 th.1.2 th.2.1).1
    have k5 := hB.2.2.2.1 (k_y (6 * c + i) w)
    have k6 := hB.2.2.2.2.2.1 (k_y (6 * c + i) w)
    omega
/-- the same rows -/
theorem k_same {Ro : c_R} (hB : c_ok B) (hl : k_lim B) (hL : c_lines B W0 L C E) (hc : 0 ≤ c ∧ c < 3) (hr : k_rw (c_A B L E c) c (p_SR (c_A B L E c) (B 0 c)) M) (hom : k_om B Bo Ro M) (ok' : p_okA (r_A Bo Ro c) (Bo 0 c)) (h0 : 0 < Bo 0 c) {r : Int} (r0 : 0 ≤ r) (r1 : r < p_SR (r_A Bo Ro c) (Bo 0 c)) : k_srow (c_A B L E c) (B 0 c) c M r ↔ c_same (c_A B L E c) (r_A Bo Ro c) (B 0 c) (Bo 0 c) (c_ss B Bo c) r := by
  have sz := (k_szA hB hl hL hc).1
  have o := ((hom.2.1 c hc.1 hc.2).1 h0).2 r r0 r1
  have ri' := p_row_in ok' ⟨r0, r1⟩
  have n10 := ok'.1
  unfold k_srow c_same
  by_cases z : r < p_SR (c_A B L E c) (B 0 c)
  · obtain ⟨q1, q2, q3, q4⟩ := k_row sz hr (Int.le_refl _) (q := r) ⟨r0, z⟩
    have hq := hr r r0 z
    rw [q2, o, hq.2]
    constructor
    · rintro ⟨_, e, s⟩
      have e1 : p_ri (c_A B L E c) r = p_ri (r_A Bo Ro c) r := by omega
      refine ⟨⟨z, r1⟩, e1, by omega, by omega, ?_⟩
      exact (hom.2.2 c _ hc.1 hc.2 q1.1.1 q1.1.2.1 (by rw [e1]; exact ri'.1.2)).mpr s
    · rintro ⟨_, e1, e2, e3, s⟩
      refine ⟨z, by rw [e1, e2, e3], ?_⟩
      exact (hom.2.2 c _ hc.1 hc.2 q1.1.1 q1.1.2.1 (by rw [e1]; exact ri'.1.2)).mp s
  · exact ⟨fun q => absurd q.1 z, fun q => absurd q.1.1 z⟩
end
