/-! ===== FacingleafModel.composes ===== -/
theorem m_bk_wd {B : pT} {M : qM} (hB2 : c_ok2 B) (h : m_bk B M) : b_wd (c_K B) (B 5) M := fun x x0 x1 => by
  have b := (h.2.1 (x / 20) (by omega) (by omega)).2.2
  have c := h.2.2.1 x x0 x1
  have z := hB2 (x / 20) (by omega) (by omega)
  unfold c_K
  rw [b, c.1, c.2.1]
  rw [show x / 20 / 10 = x / 200 by omega] at z
  by_cases q : x / 20 % 10 < B 0 (x / 200)
  · by_cases q2 : x % 20 < B 3 (x / 20)
    · rw [if_pos q2, if_pos ⟨q, q2⟩]; exact ⟨rfl, fun _ => rfl⟩
    · rw [if_neg q2, if_neg (fun z => q2 z.2)]; exact ⟨rfl, fun z => absurd rfl z⟩
  · rw [if_neg (by rw [(z q).2]; omega), if_neg (fun z => q z.1)]; exact ⟨rfl, fun z => absurd rfl z⟩
/-- where a word stands, in the model -/
theorem m_edm_at {B : pT} {W : Int → Int} {ob : Prop} {Bo : pT} {Ro R : c_R} {p0 y : Int} {M : qM} (hB : c_ok B) (h : c_out B W ob Bo Ro p0 R) (hm : m_edm B R p0 M) (hy : 0 ≤ y ∧ y < 600) (ht : c_there B y) : (0 ≤ M 93 0 y ∧ M 93 0 y < 70) ∧ M 92 0 (70 * (y / 200) + M 93 0 y) = c_G B R y := by
  obtain ⟨k, r, k1, k2, r1, r2, r3, k6⟩ := c_G_ex hB h hy ht
  have hc : 0 ≤ y / 200 ∧ y / 200 < 3 := by omega
  have ok := c_okB hB h.1 hc
  have t67 : p_SR (r_A B R (y / 200)) (B 0 (y / 200)) ≤ 67 := ok.2.2
  have N0 : 0 < B 0 (y / 200) := by have := ht.1; omega
  have cd := (hm.2.1 (y / 200) hc.1 hc.2).2 N0
  have pg := ((h.2 (y / 200) hc.1 hc.2).1.2 N0).2.2.1
  have row := (cd.1.2 r r1.1 r1.2).2.2.2.2 (y % 20) r3.1 r3.2
  rw [r2] at row
  unfold p_id at row
  rw [show 20 * (10 * (y / 200) + y / 20 % 10) + y % 20 = y by omega] at row
  have p := (cd.2.1 k k1.1 (by omega)).2 r k2.1 k2.2
  rw [row, p, k6]
  exact ⟨⟨r1.1, by omega⟩, by omega⟩
theorem c_G_b {B : pT} {W : Int → Int} {ob : Prop} {Bo : pT} {Ro R : c_R} {p0 y : Int} (hB : c_ok B) (hp : 0 ≤ p0 ∧ p0 ≤ 100) (h : c_out B W ob Bo Ro p0 R) (hy : 0 ≤ y ∧ y < 600) (ht : c_there B y) : 1 ≤ c_G B R y ∧ c_G B R y ≤ 369 := by
  obtain ⟨k, r, k1, _, _, _, _, k6⟩ := c_G_ex hB h hy ht
  have b := c_fi_bd hB hp h (c := y / 200) (by omega)
  have N0 : 0 < B 0 (y / 200) := by have := ht.1; omega
  have := ((h.2 (y / 200) (by omega) (by omega)).1.2 N0).1
  rw [k6]; omega
def fr215 (M M' : qM) : Prop := ∀ (k : Nat) (m s : Int), ¬ (m = 0 ∧ ((k = 11 ∧ ((51 ≤ s ∧ s ≤ 58) ∨ s = 20 ∨ s = 21 ∨ s = 23)) ∨ (76 ≤ k ∧ k ≤ 116))) → M' k m s = M k m s
theorem m_env_fr {B : pT} {ob : Prop} {Bo : pT} {Ro : c_R} {b : Int} {M M' : qM} (h : m_env B ob Bo Ro b M) (hf : fr215 M M') : m_env B ob Bo Ro b M' := by
  obtain ⟨h1, ⟨h2, h3⟩, h4⟩ := h
  refine ⟨m_bk_fr h1 (fun k s q => hf _ _ _ (by omega)), ⟨fun x => by rw [hf _ _ _ (by omega)]; exact h2 x, fun i => by rw [hf _ _ _ (by omega)]; exact h3 i⟩, ?_⟩
  rcases h4 with h4 | h4
  · exact Or.inl h4
  · exact Or.inr ⟨h4.1, h4.2.1, m_om_fr h4.2.2.1 (fun k s q => hf _ _ _ (by omega)), h4.2.2.2⟩
def m_lim (M : qM) : Prop := (∀ i, 0 ≤ M 76 0 i ∧ M 76 0 i ≤ 8) ∧ ∀ s, 0 ≤ M 78 0 s ∧ M 78 0 s ≤ 100
/-- at the head of round t -/
def m_hd (B : pT) (Rq : Int → c_R) (at' wd : Int → Int) (t : Int) (M : qM) : Prop := m_inv B M ∧ m_lim M ∧ (∀ y, 0 ≤ y → y < 600 → M 76 0 y = c_Wq B Rq t y) ∧ (∀ s y, 0 ≤ s → s < t → 0 ≤ y → y < 600 → M 78 0 (600 * s + y) = c_Wq B Rq s y) ∧ (M 11 0 20 = t ∧ M 11 0 21 = 0 ∧ M 11 0 23 = c_cnt B at' wd Rq t) ∧ (0 < t → m_brkW B (c_Wq B Rq (t - 1)) M) ∧ (t = 0 → ∀ x, 0 ≤ x → x < 30 → x % 10 < B 0 (x / 10) → B 1 x = 0 → M 79 0 x = at' x ∧ ∀ j, 0 ≤ j → j < B 3 x → M 80 0 (20 * x + j) = wd (20 * x + j))
theorem m_rgs {B : pT} {Rq : Int → c_R} {at' wd W : Int → Int} {t : Int} {M : qM} (h1 : 0 < t → m_brkW B (c_Wq B Rq (t - 1)) M) (h2 : t = 0 → ∀ x, 0 ≤ x → x < 30 → x % 10 < B 0 (x / 10) → B 1 x = 0 → M 79 0 x = at' x ∧ ∀ j, 0 ≤ j → j < B 3 x → M 80 0 (20 * x + j) = wd (20 * x + j)) (ht : 0 ≤ t) : p_sum (c_rg B (fun x => M 79 0 x) (fun y => M 80 0 y) W) 30 = p_sum (c_rg B (c_at B at' t) (c_wd B wd Rq t) W) 30 := by
  refine p_sum_cg (by decide) (fun x x0 x1 => c_rg_cg (fun x x0 x1 real q => ?_) x x0 x1)
  by_cases z : t = 0
  · have := h2 z x x0 x1 real q
    unfold c_at c_wd
    rw [if_pos (by omega), if_pos (by omega)]
    exact this
  · have := h1 (by omega) x x0 x1 real q
    unfold c_at c_wd
    rw [if_neg (by omega), if_neg (by omega)]
    exact this
/-- the round that took, in the model and in the picture -/
theorem m_first_of {B : pT} {Rq : Int → c_R} {r v : Int} {M : qM} (ht : ∀ s y, 0 ≤ s → s < r + 1 → 0 ≤ y → y < 600 → M 78 0 (600 * s + y) = c_Wq B Rq s y) (hf : ∀ y, 0 ≤ y → y < 600 → M 77 0 y = c_Wq B Rq (r + 1) y) (h : b_first (fun t => ∀ i, 0 ≤ i → i < 600 → M 78 0 (600 * t + i) = M 77 0 i) (r + 1) v) : c_first B Rq r v := by
  have e : ∀ t, 0 ≤ t → t ≤ r → ((∀ i, 0 ≤ i → i < 600 → M 78 0 (600 * t + i) = M 77 0 i) ↔ c_eqW B (c_Wq B Rq t) (c_Wq B Rq (r + 1))) := fun t t0 t1 => by
    refine ⟨fun z y y0 y1 _ => ?_, fun z y y0 y1 => ?_⟩
    · rw [← ht t y t0 (by omega) y0 y1, ← hf y y0 y1]; exact z y y0 y1
    · rw [ht t y t0 (by omega) y0 y1, hf y y0 y1]
      have bb := b_ch_b (K := c_K B) (x := y)
      by_cases q : b_ch (c_K B) y = 1
      · exact z y y0 y1 q
      · rw [(c_Wq_b y).2 (by omega), (c_Wq_b y).2 (by omega)]
  unfold c_first
  rcases h with ⟨z1, z2⟩ | ⟨z1, z2, z3⟩
  · exact Or.inl ⟨z1, fun t a b q => z2 t a b ((e t a (by omega)).mpr q)⟩
  · exact Or.inr ⟨z1, (e v z1.1 (by omega)).mp z2, fun t a b q => z3 t a b ((e t a (by omega)).mpr q)⟩
