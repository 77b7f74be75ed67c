/-! ===== Composer.readPages ===== -/
theorem p_xs_end {A : pA} {cnt c : Int} (hA : p_okA A cnt) (hc : 0 ≤ c) : (200 * c ≤ p_xs A c (p_SR A cnt) ∧ p_xs A c (p_SR A cnt) ≤ 200 * (c + 1)) ∧ ∀ y, p_xs A c (p_SR A cnt) ≤ y → y < 200 * (c + 1) → cnt ≤ y / 20 - 10 * c ∨ A 6 (y / 20 - 10 * c) 0 ≤ y % 20 := by
  have hcn := hA.1
  by_cases q : cnt = 0
  · have z0 : p_SR A cnt = 0 := by rw [q]; rfl
    unfold p_xs
    rw [z0, if_pos (by omega)]
    exact ⟨⟨by omega, by omega⟩, fun y y0 y1 => Or.inl (by omega)⟩
  · have b6 := p_okA_6 hA (i := cnt - 1) ⟨by omega, by omega⟩
    have s2 := p_SR_s (A := A) (i := cnt - 1) (by omega)
    rw [show cnt - 1 + 1 = cnt by omega] at s2
    have at1 := p_rc_at hA (cnt - 1) (A 2 (cnt - 1) 0 - 1) (by omega) (by omega) (by omega) (by omega)
    rw [show p_SR A (cnt - 1) + (A 2 (cnt - 1) 0 - 1) = p_SR A cnt - 1 by omega] at at1
    have e1 : p_ri A (p_SR A cnt - 1) = cnt - 1 := by unfold p_ri; rw [at1.1]
    have e2 : p_rl A (p_SR A cnt - 1) = A 2 (cnt - 1) 0 - 1 := by unfold p_rl; rw [at1.1]
    have t1 : p_to A (p_SR A cnt - 1) = A 6 (cnt - 1) 0 := by
      unfold p_to
      rw [e1, e2]
      rcases (hA.2.1 (cnt - 1) (by omega) (by omega)).2 with ⟨k1, k2, k3, k4⟩ | ⟨k1, k2, k3, k4, k5, k6⟩
      · rw [if_neg (by omega)]; exact k3.symm
      · rw [if_pos k1]; exact k6
    have := at1.2
    unfold p_xs
    rw [if_neg (by omega), e1, t1]
    refine ⟨⟨by omega, by omega⟩, fun y y0 y1 => ?_⟩
    by_cases q1 : y / 20 - 10 * c = cnt - 1
    · right; rw [q1]; omega
    · left; omega
/-- a chapter, as it stands in the class' memory, and the pages of its words -/
def b_chap (M : qM) (A : pA) (P : pT) (G : Int → Int) (cnt wo fi c e : Int) : Prop := p_okA A cnt ∧ M 1 c 1 = cnt ∧ (∀ i, 0 ≤ i → i < cnt → p_rep A M (1 + 10 * c + i) i) ∧ (∀ q, 0 ≤ q → q < p_SR A cnt → M 48 (1 + 3 * e + c) q = p_ri A q ∧ M 49 (1 + 3 * e + c) q = p_fr A q ∧ M 50 (1 + 3 * e + c) q = p_to A q) ∧ (0 ≤ wo ∧ wo ≤ 86) ∧ M 8 (0 + 3 * e + c) 2 = wo ∧ M 8 (0 + 3 * e + c) 0 = fi ∧ (0 ≤ fi ∧ fi ≤ 500) ∧ (∀ k, 0 ≤ k → k < wo → M 43 (0 + 3 * e + c) k = P 0 k ∧ g_bf P 0 k ≤ P 0 k ∧ P 0 k ≤ p_SR A cnt ∧ ∀ r, g_bf P 0 k ≤ r → r < P 0 k → ∀ w, p_fr A r ≤ w → w < p_to A r → G (200 * c + 20 * p_ri A r + w) = fi + k) ∧ g_bf P 0 wo = p_SR A cnt
theorem b_bf_s {P : pT} {k : Int} (h : 0 ≤ k) : g_bf P 0 (k + 1) = P 0 k := by
  unfold g_bf
  rw [if_neg (by omega), show k + 1 - 1 = k by omega]; rfl
theorem b_bf_b {M : qM} {A : pA} {P : pT} {G : Int → Int} {cnt wo fi c e k : Int} (h : b_chap M A P G cnt wo fi c e) (hk : 0 ≤ k ∧ k ≤ wo) : 0 ≤ g_bf P 0 k ∧ g_bf P 0 k ≤ p_SR A cnt ∧ ∀ r, 0 ≤ r → r < g_bf P 0 k → ∀ w, p_fr A r ≤ w → w < p_to A r → G (200 * c + 20 * p_ri A r + w) < fi + k := by
  obtain ⟨hA, h1, h2, h3, h4, h5, h6, h7, h8, h9⟩ := h
  have z : g_bf P 0 0 = 0 := by unfold g_bf; rw [if_pos (by omega)]
  have b0 : 0 ≤ p_SR A cnt := by
    have := p_SR_le hA (i := 0) ⟨by omega, hA.1.1⟩
    have : p_SR A 0 = 0 := rfl
    omega
  have st : ∀ n : Nat, (n : Int) ≤ wo → 0 ≤ g_bf P 0 n ∧ g_bf P 0 n ≤ p_SR A cnt ∧ ∀ r, 0 ≤ r → r < g_bf P 0 n → ∀ w, p_fr A r ≤ w → w < p_to A r → G (200 * c + 20 * p_ri A r + w) < fi + n := by
    intro n
    induction n with
    | zero =>
      intro _
      rw [show ((0 : Nat) : Int) = 0 from rfl, z]
      exact ⟨Int.le_refl _, b0, fun r a b => by omega⟩
    | succ n ih =>
      intro hn
      have i := ih (by omega)
      have p := h8 n (by omega) (by omega)
      rw [show ((n + 1 : Nat) : Int) = (n : Int) + 1 by omega, b_bf_s (by omega)]
      refine ⟨by omega, p.2.2.1, fun r a b w w0 w1 => ?_⟩
      by_cases q : r < g_bf P 0 n
      · have := i.2.2 r a q w w0 w1; omega
      · have := p.2.2.2 r (by omega) b w w0 w1; omega
  have := st k.toNat (by omega)
  rw [show (k.toNat : Int) = k by omega] at this
  exact this
theorem b_cover {M : qM} {A : pA} {P : pT} {G : Int → Int} {cnt wo fi c e k : Int} (h : b_chap M A P G cnt wo fi c e) (hc : 0 ≤ c ∧ c < 3) (hk : 0 ≤ k ∧ k ≤ wo) : ∀ y, 200 * c ≤ y → y < p_xs A c (g_bf P 0 k) → b_real M y → G y < fi + k := by
  have bb := b_bf_b h hk
  obtain ⟨hA, h1, h2, h3, h4, h5, h6, h7, h8, h9⟩ := h
  have st : ∀ n : Nat, (n : Int) ≤ g_bf P 0 k → ∀ y, 200 * c ≤ y → y < p_xs A c n → b_real M y → G y < fi + k := by
    intro n
    induction n with
    | zero =>
      intro _ y y0 y1
      unfold p_xs at y1
      rw [if_pos (by omega)] at y1
      omega
    | succ n ih =>
      intro hn y y0 y1 hy
      rw [show ((n + 1 : Nat) : Int) = (n : Int) + 1 by omega, p_xs_s (by omega)] at y1
      have gp := p_xs_gap (c := c) hA (r := n) ⟨by omega, by omega⟩
      have ri := p_row_in hA (r := n) ⟨by omega, by omega⟩
      have hcn := hA.1
      by_cases q : y < p_xs A c n
      · exact ih (by omega) y y0 q hy
      · by_cases q1 : y < 200 * c + 20 * p_ri A n + p_fr A n
        · exfalso
          have g := gp.2.2 y (by omega) q1
          have hy2 := hy.2
          have hy1 := hy.1
          rw [show y / 200 = c by omega, h1] at hy1
          have r4 := (h2 (y / 20 - 10 * c) (by omega) (by omega)).2.2.2.1
          rw [show 1 + 10 * c + (y / 20 - 10 * c) = 1 + y / 20 by omega] at r4
          omega
        · have := bb.2.2 n (by omega) (by omega) (y - (200 * c + 20 * p_ri A n)) (by omega) (by omega)
          rw [show 200 * c + 20 * p_ri A n + (y - (200 * c + 20 * p_ri A n)) = y by omega] at this
          exact this
  have := st (g_bf P 0 k).toNat (by omega)
  rw [show ((g_bf P 0 k).toNat : Int) = g_bf P 0 k by omega] at this
  exact this
theorem b_nt_0 {K G : Int → Int} {p p' : Int} : b_nt K G 0 p = b_nt K G 0 p' := by
  funext y
  unfold b_nt
  by_cases q : K y = 2
  · rw [if_pos ⟨q, Or.inl rfl⟩, if_pos ⟨q, Or.inl rfl⟩]
  · rw [if_neg (fun z => q z.1), if_neg (fun z => q z.1)]
theorem t20 {d : Nat} {h : qH} (hS : qSe h) {K V G : Int → Int} {A : Int → pA} {P : Int → pT} {cnt wo fi : Int → Int} {e bp : Int} {M : qM} {F : qM → Prop} (hw : b_cw K V M) (hl : b_ls K M) (h6 : 0 < M 2 0 6) (he : 0 ≤ e) (h7 : M 2 0 7 = e + 1) (h180 : b_n K 600 ≤ 180) (hV : ∀ y, 0 ≤ y → y < 600 → K y = 1 ∨ K y = 6 → 0 ≤ V y ∧ V y < 10) (hbp : M 3 e 2 = bp) (hch : ∀ c, 0 ≤ c → c < 3 → b_chap M (A c) (P c) G (cnt c) (wo c) (fi c) c e) (hG : ∀ y, 0 ≤ y → y < 600 → b_real M y → 1 ≤ G y ∧ G y ≤ 1000)
    (H : ∀ M', fr21 e M M' → (∀ y, 0 ≤ y → y < 600 → b_real M y → M' 24 e y = G y ∧ M' 26 e y = (if K y = 2 then b_num K G bp y else 0) ∧ M' 25 e y = if K y = 6 then b_text K V G y else -1) → F M') : e20 (d + 3) h M F := by
  have b0 : 0 ≤ b_n K 600 := by
    have := b_sum_le (g := b_ch K) (a := 0) (b := 600) (fun _ => b_ch_b) (by omega) (by omega)
    have z : p_sum (b_ch K) 0 = 0 := rfl
    have nd : b_n K 600 = p_sum (b_ch K) 600 := rfl
    omega
  have realK : ∀ y, 0 ≤ y → y < 600 → K y ≠ 0 → b_real M y := fun y y0 y1 hy => by
    by_cases q : b_real M y
    · exact q
    · exact absurd (b_cw_0 hw ⟨y0, y1⟩ q) hy
  have lp := fun l => b_lab_p (K := K) (V := V) (l := l) 600
  rw [show ((600 : Nat) : Int) = 600 from rfl] at lp
  refine w20 hS (t267 (k := 19) (len := 10) rfl ⟨by omega, by omega⟩ (fun M0 O0 v0 => ?_))
  have R0 : b_rd K V G bp e M M0 0 := ⟨fun k m s q => O0 k m s (by omega), fun y a b => by omega, fun l l0 l1 => by rw [v0 l l0 l1]; rfl⟩
  refine q_upto (P := fun c => 0 ≤ c → ∀ M1 u2 u3 u4, b_rd K V G bp e M M1 (200 * c) → b20_10 d h F c u2 u3 u4 M1) (a := 0) (b := 3) (by omega) (fun _ M1 u2 u3 u4 R1 => w20_10 hS ⟨fun q => by omega, fun _ => ?_⟩) (fun c c0 c3 ih _ M1 u2 u3 u4 R1 => ?_) (by omega) M0 _ _ _ (by rw [show (200 : Int) * 0 = 0 by omega]; exact R0)
  · rw [show (200 : Int) * 3 = 600 by omega] at R1
    have pos : ∀ {y}, 0 ≤ y → 0 ≤ b_n K y := fun {y} y0 => by
      have := b_sum_le (g := b_ch K) (a := 0) (b := y) (fun _ => b_ch_b) (by omega) y0
      have z : p_sum (b_ch K) 0 = 0 := rfl
      have nd : b_n K y = p_sum (b_ch K) y := rfl
      omega
    refine q_upto (P := fun v => 0 ≤ v → ∀ M2 u2 u3 u4, (∀ (k : Nat) (m s : Int), ¬ (k = 25 ∧ m = e) → M2 k m s = M1 k m s) → (∀ y, 0 ≤ y → y < 600 → b_real M y → M2 25 e y = if K y = 6 ∧ b_n K y < v then b_text K V G y else -1) → b20_71 d h F v u2 u3 u4 M2) (a := 0) (b := b_n K 600) b0 (fun _ M2 u2 u3 u4 O2 v2 => ?_) (fun v v0 v1 ih _ M2 u2 u3 u4 O2 v2 => ?_) (by omega) M1 _ _ _ (fun _ _ _ _ => rfl) (fun y y0 y1 hy => by rw [(R1.2.1 y y0 y1 hy).2.2, if_neg (fun z => by have := pos y0; omega)])
    · refine w20_71 hS ⟨fun q => ?_, fun _ => H M2 (fun k m s q => by rw [O2 k m s (by omega)]; exact R1.1 k m s q) (fun y y0 y1 hy => ?_)⟩
      · rw [O2 2 0 3 (by omega), R1.1 2 0 3 (by omega), hl.1] at q; omega
      · have r := R1.2.1 y y0 y1 hy
        refine ⟨by rw [O2 _ _ _ (by omega)]; exact r.1, by rw [O2 _ _ _ (by omega)]; exact r.2.1, ?_⟩
        rw [v2 y y0 y1 hy]
        by_cases q : K y = 6
        · have c1 : b_ch K y = 1 := by unfold b_ch; rw [if_pos (Or.inr q)]
          rw [if_pos q, if_pos ⟨q, b_n_lt ⟨y0, y1⟩ c1⟩]
        · rw [if_neg q, if_neg (fun z => q z.1)]
    · obtain ⟨y, y1, y2, y3⟩ := b_n_sur6 ⟨v0, v1⟩
      have OM : ∀ (k : Nat) (m s : Int), ¬ ((24 ≤ k ∧ k ≤ 26 ∧ m = e) ∨ (k = 19 ∧ m = 0)) → M2 k m s = M k m s := fun k m s q => by rw [O2 k m s (by omega)]; exact R1.1 k m s q
      have e16 : M2 16 0 v = y := by rw [OM _ _ _ (by omega), ← y3]; exact hl.2 y y1.1 y1.2 y2
      have e3 : M2 2 0 3 = b_n K 600 := by rw [OM _ _ _ (by omega)]; exact hl.1
      have e6 : M2 2 0 6 = M 2 0 6 := OM _ _ _ (by omega)
      have e7 : M2 2 0 7 = e + 1 := by rw [OM _ _ _ (by omega)]; exact h7
      have ky := b_ch_ne y2
      have cw := b_cw_k hw y1 (by omega)
      have ry := realK y y1.1 y1.2 (by omega)
      have e33 : M2 33 (1 + y / 20) (y % 20) = K y := by rw [OM _ _ _ (by omega)]; exact cw.1
      have e34 : M2 34 (1 + y / 20) (y % 20) = V y := by rw [OM _ _ _ (by omega)]; exact cw.2.1
      have e24 : M2 24 e y = G y := by rw [O2 _ _ _ (by omega)]; exact (R1.2.1 y y1.1 y1.2 ry).1
      refine w20_71 hS ⟨fun _ => ⟨⟨by omega, by omega⟩, ?_⟩, fun q => by omega⟩
      rw [e16]
      refine t13 hS (by omega) y1 ⟨y1.1, ⟨by omega, by omega⟩, ?_⟩
      rw [e33, e34, e7, show e + 1 - 1 = e by omega, e24]
      have inj : ∀ z, 0 ≤ z → K z = 6 → (b_n K z < v + 1 ↔ b_n K z < v ∨ z = y) := fun z z0 hz => by
        have cz : b_ch K z = 1 := by unfold b_ch; rw [if_pos (Or.inr hz)]
        refine ⟨fun q => ?_, fun q => ?_⟩
        · by_cases q2 : b_n K z < v
          · exact Or.inl q2
          · exact Or.inr (b_n_inj z0 y1.1 cz y2 (by omega))
        · rcases q with q | q
          · omega
          · rw [q]; omega
      refine ⟨fun q6 => ?_, fun q6 => ⟨⟨by omega, by omega⟩, ih (by omega) M2 _ _ _ O2 (fun z z0 z1 hz => ?_)⟩⟩
      · have vy := hV y y1.1 y1.2 (Or.inr q6)
        have gy := hG y y1.1 y1.2 ry
        have e19 : M2 19 0 (V y) = if b_lab K V (V y) 600 = -1 then 0 else G (b_lab K V (V y) 600) := by rw [O2 _ _ _ (by omega)]; exact R1.2.2 (V y) vy.1 vy.2
        have lb : b_lab K V (V y) 600 ≠ -1 → 1 ≤ G (b_lab K V (V y) 600) ∧ G (b_lab K V (V y) 600) ≤ 1000 := fun q => by
          have l := (lp (V y)).resolve_left q
          exact hG _ l.1 l.2.1 (realK _ l.1 l.2.1 (by omega))
        have b19 : 0 ≤ M2 19 0 (V y) ∧ M2 19 0 (V y) ≤ 1000 := by
          rw [e19]
          by_cases q : b_lab K V (V y) 600 = -1
          · rw [if_pos q]; omega
          · rw [if_neg q]; have := lb q; omega
        refine ⟨y1.1, ⟨by omega, by omega⟩, vy, fun q => by omega, fun _ => ⟨fun q => by omega, fun _ => ⟨y1, t22 hS ⟨by omega, gy.2⟩ b19 ⟨y1, fun M3 f3 => ⟨⟨by omega, by omega⟩, ih (by omega) M3 _ _ _ (fun k m s q => by rw [f3]; unfold qU; rw [if_neg (by omega)]; exact O2 k m s q) (fun z z0 z1 hz => ?_)⟩⟩⟩, fun q => by omega⟩, fun q => by omega⟩
        by_cases q : z = y
        · rw [q, f3, qU_s, show (if K y = 6 ∧ b_n K y < v + 1 then b_text K V G y else -1) = b_text K V G y from if_pos ⟨q6, by omega⟩, e19]
          unfold b_text
          by_cases q2 : b_lab K V (V y) 600 = -1
          · rw [if_pos q2, if_pos rfl, if_pos q2]
          · rw [if_neg q2, if_neg (by have := lb q2; omega), if_neg q2]
        · rw [f3, qU_l (fun z => q z), v2 z z0 z1 hz]
          by_cases k6 : K z = 6
          · have := inj z z0 k6
            by_cases q2 : b_n K z < v
            · rw [if_pos ⟨k6, q2⟩, if_pos ⟨k6, by omega⟩]
            · rw [if_neg (fun w => q2 w.2), if_neg (fun w => (this.mp w.2).elim q2 q)]
          · rw [if_neg (fun w => k6 w.1), if_neg (fun w => k6 w.1)]
      · rw [v2 z z0 z1 hz]
        by_cases k6 : K z = 6
        · have := inj z z0 k6
          have zy : z ≠ y := fun w => q6 (by rw [← w]; exact k6)
          by_cases q2 : b_n K z < v
          · rw [if_pos ⟨k6, q2⟩, if_pos ⟨k6, by omega⟩]
          · rw [if_neg (fun w => q2 w.2), if_neg (fun w => (this.mp w.2).elim q2 zy)]
        · rw [if_neg (fun w => k6 w.1), if_neg (fun w => k6 w.1)]
  · have ch := hch c c0 c3
    have bbf := fun k hk => b_bf_b (k := k) ch hk
    have cov := fun k hk => b_cover (k := k) ch ⟨c0, c3⟩ hk
    obtain ⟨hA, h1, h2, h3, h4, h5, hfi, hfb, h8, h9⟩ := ch
    have xe := p_xs_end (c := c) hA c0
    have hcn := hA.1
    refine w20_10 hS ⟨fun _ => ?_, fun q => by omega⟩
    have xb : ∀ k, 0 ≤ k → k ≤ wo c → 200 * c ≤ p_xs (A c) c (g_bf (P c) 0 k) ∧ p_xs (A c) c (g_bf (P c) 0 k) ≤ 200 * (c + 1) := fun k k0 k1 => by
      have b := bbf k ⟨k0, k1⟩
      by_cases q : g_bf (P c) 0 k < p_SR (A c) (cnt c)
      · have g := p_xs_gap (c := c) hA (r := g_bf (P c) 0 k) ⟨b.1, q⟩
        have ri := p_row_in hA (r := g_bf (P c) 0 k) ⟨b.1, q⟩
        omega
      · rw [show g_bf (P c) 0 k = p_SR (A c) (cnt c) by omega]; exact xe.1
    have z0 : g_bf (P c) 0 0 = 0 := by unfold g_bf; rw [if_pos (by omega)]
    have x00 : p_xs (A c) c 0 = 200 * c := by unfold p_xs; rw [if_pos (by omega)]; omega
    refine q_upto (P := fun k => 0 ≤ k → ∀ n M2 u4, b_rd K V G bp e M M2 (p_xs (A c) c (g_bf (P c) 0 k)) → (bp = 0 → n = p_sum (b_nt K G bp 0) (p_xs (A c) c (g_bf (P c) 0 k)) - p_sum (b_nt K G bp 0) (200 * c)) → b20_19 d h F c n k u4 M2) (a := 0) (b := wo c) h4.1 (fun _ n M2 u4 R2 _ => ?_) (fun k k0 k1 ihk _ n M2 u4 R2 hn => ?_) (by omega) 0 M1 _ (by rw [z0, x00]; exact R1) (fun _ => by rw [z0, x00]; omega)
    · have e7 : M2 2 0 7 = e + 1 := by rw [R2.1 _ _ _ (by omega)]; exact h7
      have e8 : M2 8 (0 + 3 * e + c) 2 = wo c := by rw [R2.1 _ _ _ (by omega)]; exact h5
      refine w20_19 hS ⟨fun q => by omega, fun _ => ⟨⟨c0, c3⟩, ?_⟩, fun q => by omega⟩
      rw [e7, show e + 1 - 1 = e by omega, e8]
      rw [h9] at R2
      refine ⟨fun q => by omega, fun _ => ⟨⟨by omega, by omega⟩, ih (by omega) M2 _ _ _ (b_rd_gap hw ⟨by omega, xe.1.2, by omega⟩ (fun y y0 y1 hy => ?_) R2)⟩⟩
      have g := xe.2 y y0 y1
      have hy2 := hy.2
      have hy1 := hy.1
      rw [show y / 200 = c by omega, h1] at hy1
      rcases g with g | g
      · omega
      · have r4 := (h2 (y / 20 - 10 * c) (by omega) (by omega)).2.2.2.1
        rw [show 1 + 10 * c + (y / 20 - 10 * c) = 1 + y / 20 by omega] at r4
        omega
    · have e7 : M2 2 0 7 = e + 1 := by rw [R2.1 _ _ _ (by omega)]; exact h7
      have e8 : M2 8 (0 + 3 * e + c) 2 = wo c := by rw [R2.1 _ _ _ (by omega)]; exact h5
      have e32 : M2 3 e 2 = bp := by rw [R2.1 _ _ _ (by omega)]; exact hbp
      have h8k := h8 k k0 k1
      have bb := bbf k ⟨k0, by omega⟩
      have xk := xb k k0 (by omega)
      refine w20_19 hS ⟨fun q => by omega, fun _ => ⟨⟨c0, c3⟩, ?_⟩, fun q => by omega⟩
      rw [e7, show e + 1 - 1 = e by omega, e8, e32]
      refine ⟨fun _ => ⟨fun q => by omega, fun _ n1 hn1 => ?_, fun q => by omega⟩, fun q => by omega⟩
      have en : n1 = p_sum (b_nt K G bp (fi c + k)) (p_xs (A c) c (g_bf (P c) 0 k)) - p_sum (b_nt K G bp (fi c + k)) (200 * c) := by
        by_cases q : bp = 0
        · rw [if_pos q] at hn1
          rw [hn1, hn q, q, b_nt_0 (p := 0) (p' := fi c + k)]
        · rw [if_neg q] at hn1
          rw [hn1, b_gap (g := b_nt K G bp (fi c + k)) (a := 200 * c) (b := p_xs (A c) c (g_bf (P c) 0 k)) (by omega) xk.1 (fun y y0 y1 => ?_)]
          · omega
          · unfold b_nt
            by_cases q2 : K y = 2
            · have := cov k ⟨k0, by omega⟩ y y0 y1 (realK y (by omega) (by omega) (by omega))
              rw [if_neg (by omega)]
            · rw [if_neg (fun z => q2 z.1)]
      rw [en]
      refine t21 hS (M := M) (A := A c) (P := P c) (fi := fi c) hA ⟨c0, c3⟩ h1 h6 he h7 hw (fun y y0 y1 hy => hV y y0 y1 (Or.inl hy)) h2 h3 ⟨k0, by omega⟩ h8k.1 ?_ ⟨bb.1, h8k.2.1, h8k.2.2.1⟩ hfi rfl hfb h8k.2.2.2 R2 (fun M3 R3 => ⟨⟨by omega, by omega⟩, ihk (by omega) _ M3 _ (by rw [b_bf_s k0]; exact R3) (fun q => ?_)⟩)
      · by_cases q : k = 0
        · exact Or.inr q
        · left
          have p := h8 (k - 1) (by omega) (by omega)
          have := b_bf_s (P := P c) (k := k - 1) (by omega)
          rw [show k - 1 + 1 = k by omega] at this
          rw [this]; exact p.1
      · rw [b_bf_s k0, q, b_nt_0 (p := 0) (p' := fi c + k)]
