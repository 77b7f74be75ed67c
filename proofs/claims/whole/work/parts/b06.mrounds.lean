/-! ===== FacingleafModel.composes ===== -/
theorem m_bk_wd {B : pT} {M : qM} (hB2 : c_ok2 B) (h : m_bk B M) : b_wd (c_K B) (B 5) M := fun x x0 x1 => by
  have b := (h.2.1 (x / 20) (by omega) (by omega)).2.2
  have c := h.2.2.1 x x0 x1
  have z := hB2 (x / 20) (by omega) (by omega)
  unfold c_K
  rw [b, c.1, c.2.1]
  rw [show x / 20 / 10 = x / 200 by omega] at z
  by_cases q : x / 20 % 10 < B 0 (x / 200)
  · by_cases q2 : x % 20 < B 3 (x / 20)
    · rw [if_pos q2, if_pos ⟨q, q2⟩]; exact ⟨rfl, fun _ => rfl⟩
    · rw [if_neg q2, if_neg (fun z => q2 z.2)]; exact ⟨rfl, fun z => absurd rfl z⟩
  · rw [if_neg (by rw [(z q).2]; omega), if_neg (fun z => q z.1)]; exact ⟨rfl, fun z => absurd rfl z⟩
/-- where a word stands, in the model -/
theorem m_edm_at {B : pT} {W : Int → Int} {ob : Prop} {Bo : pT} {Ro R : c_R} {p0 y : Int} {M : qM} (hB : c_ok B) (h : c_out B W ob Bo Ro p0 R) (hm : m_edm B R p0 M) (hy : 0 ≤ y ∧ y < 600) (ht : c_there B y) : (0 ≤ M 93 0 y ∧ M 93 0 y < 70) ∧ M 92 0 (70 * (y / 200) + M 93 0 y) = c_G B R y := by
  obtain ⟨k, r, k1, k2, r1, r2, r3, k6⟩ := c_G_ex hB h hy ht
  have hc : 0 ≤ y / 200 ∧ y / 200 < 3 := by omega
  have ok := c_okB hB h.1 hc
  have t67 : p_SR (r_A B R (y / 200)) (B 0 (y / 200)) ≤ 67 := ok.2.2
  have N0 : 0 < B 0 (y / 200) := by have := ht.1; omega
  have cd := (hm.2.1 (y / 200) hc.1 hc.2).2 N0
  have pg := ((h.2 (y / 200) hc.1 hc.2).1.2 N0).2.2.1
  have row := (cd.1.2 r r1.1 r1.2).2.2.2.2 (y % 20) r3.1 r3.2
  rw [r2] at row
  unfold p_id at row
  rw [show 20 * (10 * (y / 200) + y / 20 % 10) + y % 20 = y by omega] at row
  have p := (cd.2.1 k k1.1 (by omega)).2 r k2.1 k2.2
  rw [row, p, k6]
  exact ⟨⟨r1.1, by omega⟩, by omega⟩
theorem c_G_b {B : pT} {W : Int → Int} {ob : Prop} {Bo : pT} {Ro R : c_R} {p0 y : Int} (hB : c_ok B) (hp : 0 ≤ p0 ∧ p0 ≤ 100) (h : c_out B W ob Bo Ro p0 R) (hy : 0 ≤ y ∧ y < 600) (ht : c_there B y) : 1 ≤ c_G B R y ∧ c_G B R y ≤ 369 := by
  obtain ⟨k, r, k1, _, _, _, _, k6⟩ := c_G_ex hB h hy ht
  have b := c_fi_bd hB hp h (c := y / 200) (by omega)
  have N0 : 0 < B 0 (y / 200) := by have := ht.1; omega
  have := ((h.2 (y / 200) (by omega) (by omega)).1.2 N0).1
  rw [k6]; omega
def fr215 (M M' : qM) : Prop := ∀ (k : Nat) (m s : Int), ¬ (m = 0 ∧ ((k = 11 ∧ ((51 ≤ s ∧ s ≤ 58) ∨ s = 20 ∨ s = 21 ∨ s = 23)) ∨ (76 ≤ k ∧ k ≤ 116))) → M' k m s = M k m s
theorem m_env_fr {B : pT} {ob : Prop} {Bo : pT} {Ro : c_R} {b : Int} {M M' : qM} (h : m_env B ob Bo Ro b M) (hf : fr215 M M') : m_env B ob Bo Ro b M' := by
  obtain ⟨h1, ⟨h2, h3⟩, h4⟩ := h
  refine ⟨m_bk_fr h1 (fun k s q => hf _ _ _ (by omega)), ⟨fun x => by rw [hf _ _ _ (by omega)]; exact h2 x, fun i => by rw [hf _ _ _ (by omega)]; exact h3 i⟩, ?_⟩
  rcases h4 with h4 | h4
  · exact Or.inl h4
  · exact Or.inr ⟨h4.1, h4.2.1, m_om_fr h4.2.2.1 (fun k s q => hf _ _ _ (by omega)), h4.2.2.2⟩
def m_lim (M : qM) : Prop := (∀ i, 0 ≤ M 76 0 i ∧ M 76 0 i ≤ 8) ∧ ∀ s, 0 ≤ M 78 0 s ∧ M 78 0 s ≤ 100
/-- at the head of round t -/
def m_hd (B : pT) (Rq : Int → c_R) (at' wd : Int → Int) (t : Int) (M : qM) : Prop := m_inv B M ∧ m_lim M ∧ (∀ y, 0 ≤ y → y < 600 → M 76 0 y = c_Wq B Rq t y) ∧ (∀ s y, 0 ≤ s → s < t → 0 ≤ y → y < 600 → M 78 0 (600 * s + y) = c_Wq B Rq s y) ∧ (M 11 0 20 = t ∧ M 11 0 21 = 0 ∧ M 11 0 23 = c_cnt B at' wd Rq t) ∧ (0 < t → m_brkW B (c_Wq B Rq (t - 1)) M) ∧ (t = 0 → ∀ x, 0 ≤ x → x < 30 → x % 10 < B 0 (x / 10) → B 1 x = 0 → M 79 0 x = at' x ∧ ∀ j, 0 ≤ j → j < B 3 x → M 80 0 (20 * x + j) = wd (20 * x + j))
theorem m_rgs {B : pT} {Rq : Int → c_R} {at' wd W : Int → Int} {t : Int} {M : qM} (h1 : 0 < t → m_brkW B (c_Wq B Rq (t - 1)) M) (h2 : t = 0 → ∀ x, 0 ≤ x → x < 30 → x % 10 < B 0 (x / 10) → B 1 x = 0 → M 79 0 x = at' x ∧ ∀ j, 0 ≤ j → j < B 3 x → M 80 0 (20 * x + j) = wd (20 * x + j)) (ht : 0 ≤ t) : p_sum (c_rg B (fun x => M 79 0 x) (fun y => M 80 0 y) W) 30 = p_sum (c_rg B (c_at B at' t) (c_wd B wd Rq t) W) 30 := by
  refine p_sum_cg (by decide) (fun x x0 x1 => c_rg_cg (fun x x0 x1 real q => ?_) x x0 x1)
  by_cases z : t = 0
  · have := h2 z x x0 x1 real q
    unfold c_at c_wd
    rw [if_pos (by omega), if_pos (by omega)]
    exact this
  · have := h1 (by omega) x x0 x1 real q
    unfold c_at c_wd
    rw [if_neg (by omega), if_neg (by omega)]
    exact this
/-- the round that took, in the model and in the picture -/
theorem m_first_of {B : pT} {Rq : Int → c_R} {r v : Int} {M : qM} (ht : ∀ s y, 0 ≤ s → s < r + 1 → 0 ≤ y → y < 600 → M 78 0 (600 * s + y) = c_Wq B Rq s y) (hf : ∀ y, 0 ≤ y → y < 600 → M 77 0 y = c_Wq B Rq (r + 1) y) (h : b_first (fun t => ∀ i, 0 ≤ i → i < 600 → M 78 0 (600 * t + i) = M 77 0 i) (r + 1) v) : c_first B Rq r v := by
  have e : ∀ t, 0 ≤ t → t ≤ r → ((∀ i, 0 ≤ i → i < 600 → M 78 0 (600 * t + i) = M 77 0 i) ↔ c_eqW B (c_Wq B Rq t) (c_Wq B Rq (r + 1))) := fun t t0 t1 => by
    refine ⟨fun z y y0 y1 _ => ?_, fun z y y0 y1 => ?_⟩
    · rw [← ht t y t0 (by omega) y0 y1, ← hf y y0 y1]; exact z y y0 y1
    · rw [ht t y t0 (by omega) y0 y1, hf y y0 y1]
      have bb := b_ch_b (K := c_K B) (x := y)
      by_cases q : b_ch (c_K B) y = 1
      · exact z y y0 y1 q
      · rw [(c_Wq_b y).2 (by omega), (c_Wq_b y).2 (by omega)]
  unfold c_first
  rcases h with ⟨z1, z2⟩ | ⟨z1, z2, z3⟩
  · exact Or.inl ⟨z1, fun t a b q => z2 t a b ((e t a (by omega)).mpr q)⟩
  · exact Or.inr ⟨z1, (e v z1.1 (by omega)).mp z2, fun t a b q => z3 t a b ((e t a (by omega)).mpr q)⟩
/-- one round at the head -/
theorem t215_one {d : Nat} {h : qH} (hS : qSe h) {B Bo : pT} {at' wd : Int → Int} {ob : Prop} {Ro : c_R} {Rq : Int → c_R} {b t : Int} {M : qM} {f : Int → qM → Prop} (u3 : qV)
    (hB : c_ok B) (hB2 : c_ok2 B) (hE : m_env B ob Bo Ro b M) (hH : m_hd B Rq at' wd t M) (ht : 0 ≤ t ∧ t < 12)
    (H : (∃ v, c_out B (c_Wq B Rq t) ob Bo Ro (c_p0 B) (Rq t) ∧ c_first B Rq t v ∧ ∀ M' u3, fr215 M M' → m_edm B (Rq t) (c_p0 B) M' → m_inv B M' → m_lim M' → (∀ y, 0 ≤ y → y < 600 → M' 77 0 y = c_Wq B Rq (t + 1) y) → (∀ s y, 0 ≤ s → s < t + 1 → 0 ≤ y → y < 600 → M' 78 0 (600 * s + y) = c_Wq B Rq s y) → M' 11 0 20 = t + 1 → M' 11 0 21 = 0 → M' 11 0 23 = c_cnt B at' wd Rq (t + 1) → m_brkW B (c_Wq B Rq t) M' → (∀ y, 0 ≤ y → y < 600 → M' 76 0 y = c_Wq B Rq t y) → (v = t → f 1 M') ∧ (v ≠ t → v = -1 → t + 1 < 12 → b215_147 d h f b (.inl v) 0 M') ∧ (v ≠ t → (v ≠ -1 ∨ t + 1 = 12) → b215_110 d h f b v u3 M')) ∨ (c_fail B (c_Wq B Rq t) ob Bo Ro (c_p0 B) ∧ ∀ M', fr215 M M' → m_inv B M' → m_lim M' → m_brkW B (c_Wq B Rq t) M' → f 0 M')) : b215_21 d h f b 0 u3 M := by
  obtain ⟨hI, hl, h76, h78, ⟨h20, h21, h23⟩, hw1, hw0⟩ := hH
  have cb := c_cnt_b (B := B) (at' := at') (wd := wd) (Rq := Rq) ht.1
  refine t215_21 hS (n := t) h20 ht (fun M1 O1 v1 => w215_21 hS ⟨fun q => absurd q (by decide), fun _ => ?_⟩)
  have O1' : ∀ (k : Nat) (m s : Int), k ≠ 78 → M1 k m s = M k m s := fun k m s q => O1 k m s (fun z => q z.1)
  have fr1 : fr215 M M1 := fun k m s q => O1 k m s (by omega)
  have past : ∀ s y, 0 ≤ s → s < t + 1 → 0 ≤ y → y < 600 → M1 78 0 (600 * s + y) = c_Wq B Rq s y := fun s y s0 s1 y0 y1 => by
    by_cases q : s = t
    · rw [q, v1 y y0 y1]; exact h76 y y0 y1
    · rw [O1 _ _ _ (by omega)]; exact h78 s y s0 (by omega) y0 y1
  have lim1 : m_lim M1 := ⟨fun i => by rw [O1' _ _ _ (by decide)]; exact hl.1 i, fun s => by
    by_cases q : 600 * t ≤ s ∧ s < 600 * t + 600
    · have := v1 (s - 600 * t) (by omega) (by omega)
      rw [show 600 * t + (s - 600 * t) = s by omega] at this
      rw [this]
      have := hl.1 (s - 600 * t); omega
    · rw [O1 _ _ _ (by omega)]; exact hl.2 s⟩
  have inv1 : m_inv B M1 := ⟨m_brk_fr hI.1 (fun k s a b => O1' _ _ _ (by omega)), fun k => by rw [O1' _ _ _ (by decide)]; exact hI.2.1 k, fun s => by rw [O1' _ _ _ (by decide)]; exact hI.2.2 s⟩
  have rgs := m_rgs (W := c_Wq B Rq t) hw1 hw0 ht.1
  have e79 : (fun x => M1 79 0 x) = fun x => M 79 0 x := by funext x; exact O1' _ _ _ (by decide)
  have e80 : (fun x => M1 80 0 x) = fun x => M 80 0 x := by funext x; exact O1' _ _ _ (by decide)
  refine t204 hS (W := c_Wq B Rq t) hB hB2 (m_env_fr hE fr1) inv1 lim1.1 (fun y a b => by rw [O1' _ _ _ (by decide)]; exact h76 y a b) (by rw [O1' _ _ _ (by decide), h23]; omega) ?_
  rcases H with ⟨v, out, fv, H⟩ | ⟨fail, H⟩
  · refine Or.inl ⟨Rq t, out, fun M2 O2 ed bw inv2 c23 => ⟨fun q => absurd q (by decide), fun _ => ?_⟩⟩
    have f20 : M2 11 0 20 = t := by rw [O2 _ _ _ (by omega), O1' _ _ _ (by decide)]; exact h20
    rw [f20]
    refine ⟨⟨by omega, by omega⟩, fun M3 f3 => ?_⟩
    have O3 : ∀ (k : Nat) (m s : Int), ¬ (k = 11 ∧ m = 0 ∧ s = 20) → M3 k m s = M2 k m s := fun k m s q => by rw [f3]; unfold qU; rw [if_neg q]
    have v20 : M3 11 0 20 = t + 1 := by rw [f3, qU_s]
    have fr3 : fr215 M M3 := fun k m s q => by rw [O3 k m s (by omega), O2 k m s (by omega), fr1 k m s q]
    have env3 := m_env_fr hE fr3
    have pb := c_p0_b hB
    have ed3 : m_edm B (Rq t) (c_p0 B) M3 := by
      refine ⟨fun x a b c q => ?_, fun c a b => ?_, by rw [O3 _ _ _ (by omega)]; exact ed.2.2.1, fun p p1 p2 => by rw [O3 _ _ _ (by omega)]; exact ed.2.2.2 p p1 p2⟩
      · rw [O3 _ _ _ (by omega), O3 _ _ _ (by omega)]
        exact ⟨(ed.1 x a b c q).1, (ed.1 x a b c q).2.1, fun s s0 s1 => by rw [O3 _ _ _ (by omega)]; exact (ed.1 x a b c q).2.2 s s0 s1⟩
      · exact m_cd_fr (pm := 100000) (c_okB hB out.1 ⟨a, b⟩) (fun q => ⟨B 8 1, ((out.2 c a b).1.2 q).2.2⟩) (ed.2.1 c a b) (fun q => by have := c_fi_bd hB ⟨pb.2.2.1, by omega⟩ out ⟨a, b⟩; omega) (fun k s q => O3 _ _ _ (by omega))
    refine t212 hS (K := c_K B) (V := B 5) (G := c_G B (Rq t)) (m_bk_wd hB2 env3.1) (fun y y0 y1 k => m_edm_at hB out ed3 ⟨y0, y1⟩ (c_K_there k)) (fun y y0 y1 k => by have := c_G_b hB ⟨pb.2.2.1, by omega⟩ out ⟨y0, y1⟩ (c_K_there k); omega) (fun M4 O4 v77 => ?_)
    have e3 : M3 11 0 3 = B 8 2 := env3.1.2.2.2.2.2
    rw [e3] at v77
    have wq : ∀ y, 0 ≤ y → y < 600 → M4 77 0 y = c_Wq B Rq (t + 1) y := fun y a b => by
      rw [v77 y a b]
      unfold c_Wq
      rw [if_neg (by omega), show t + 1 - 1 = t by omega]
      rfl
    have O4' : ∀ (k : Nat) (m s : Int), k ≠ 77 → M4 k m s = M3 k m s := fun k m s q => O4 k m s (fun z => q z.1)
    have past4 : ∀ s y, 0 ≤ s → s < t + 1 → 0 ≤ y → y < 600 → M4 78 0 (600 * s + y) = c_Wq B Rq s y := fun s y s0 s1 y0 y1 => by
      rw [O4' _ _ _ (by decide), O3 _ _ _ (by omega), O2 _ _ _ (by omega)]; exact past s y s0 s1 y0 y1
    have v20' : M4 11 0 20 = t + 1 := by rw [O4' _ _ _ (by decide)]; exact v20
    refine t213 hS (n := t + 1) ⟨by omega, by omega⟩ v20' (fun w hw => ?_)
    have hw2 := m_first_of past4 wq hw
    have ev : w = v := b_first_u hw2 fv
    subst ev
    rw [v20']
    have fr4 : fr215 M M4 := fun k m s q => by rw [O4 k m s (by omega)]; exact fr3 k m s q
    have ed4 : m_edm B (Rq t) (c_p0 B) M4 := by
      refine ⟨fun x a b c q => ?_, fun c a b => ?_, by rw [O4' _ _ _ (by decide)]; exact ed3.2.2.1, fun p p1 p2 => by rw [O4' _ _ _ (by decide)]; exact ed3.2.2.2 p p1 p2⟩
      · rw [O4' _ _ _ (by decide), O4' _ _ _ (by decide)]
        exact ⟨(ed3.1 x a b c q).1, (ed3.1 x a b c q).2.1, fun s s0 s1 => by rw [O4' _ _ _ (by decide)]; exact (ed3.1 x a b c q).2.2 s s0 s1⟩
      · exact m_cd_fr (pm := 100000) (c_okB hB out.1 ⟨a, b⟩) (fun q => ⟨B 8 1, ((out.2 c a b).1.2 q).2.2⟩) (ed3.2.1 c a b) (fun q => by have := c_fi_bd hB ⟨pb.2.2.1, by omega⟩ out ⟨a, b⟩; omega) (fun k s q => O4' _ _ _ (by omega))
    have cnt4 : M4 11 0 23 = c_cnt B at' wd Rq (t + 1) := by
      have e1 : c_cnt B at' wd Rq (t + 1) = c_cnt B at' wd Rq t + p_sum (c_rg B (c_at B at' t) (c_wd B wd Rq t) (c_Wq B Rq t)) 30 := p_sum_s ht.1
      rw [O4' _ _ _ (by decide), O3 _ _ _ (by omega), c23, e79, e80, rgs, e1, O1' _ _ _ (by decide), h23]
    have go := H M4 u3 fr4 ed4 ⟨m_brk_fr inv2.1 (fun k s a b => by rw [O4' _ _ _ (by omega), O3 _ _ _ (by omega)]), fun k => by rw [O4' _ _ _ (by decide), O3 _ _ _ (by omega)]; exact inv2.2.1 k, fun s => by rw [O4' _ _ _ (by decide), O3 _ _ _ (by omega)]; exact inv2.2.2 s⟩ ⟨fun i => by rw [O4' _ _ _ (by decide), O3 _ _ _ (by omega), O2 _ _ _ (by omega)]; exact lim1.1 i, fun s => by rw [O4' _ _ _ (by decide), O3 _ _ _ (by omega), O2 _ _ _ (by omega)]; exact lim1.2 s⟩ wq past4 v20' (by rw [O4' _ _ _ (by decide), O3 _ _ _ (by omega), O2 _ _ _ (by omega), O1' _ _ _ (by decide)]; exact h21) cnt4 (m_brkW_fr bw (fun k s a b => by rw [O4' _ _ _ (by omega), O3 _ _ _ (by omega)])) (fun y a b => by rw [O4' _ _ _ (by decide), O3 _ _ _ (by omega), O2 _ _ _ (by omega), O1' _ _ _ (by decide)]; exact h76 y a b)
    refine ⟨⟨by omega, by omega⟩, fun q => go.1 (by omega), fun q => ⟨fun q2 => ⟨fun q3 => go.2.2 (by omega) (Or.inr q3), fun q3 => go.2.1 (by omega) q2 (by omega)⟩, fun q2 => go.2.2 (by omega) (Or.inl q2)⟩⟩
  · exact Or.inr ⟨fail, fun M2 O2 inv2 bw2 => ⟨fun _ => H M2 (fun k m s q => by rw [O2 k m s (by omega)]; exact fr1 k m s q) inv2 ⟨fun i => by rw [O2 _ _ _ (by omega)]; exact lim1.1 i, fun s => by rw [O2 _ _ _ (by omega)]; exact lim1.2 s⟩ bw2, fun q => absurd rfl q⟩⟩
