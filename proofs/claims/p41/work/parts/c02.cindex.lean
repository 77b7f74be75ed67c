/-! ===== the words of the book in their order; the index of the class ===== -/
theorem c_words {B : pT} (hB : c_ok B) : p_sum (fun y => @ite Int (c_there B y) (Classical.propDecidable _) 1 0) 600 ≤ 180 := by
  obtain ⟨b1, b2, _⟩ := hB
  let g : Int → Int := fun y => @ite Int (c_there B y) (Classical.propDecidable _) 1 0
  show p_sum g 600 ≤ 180
  have item : ∀ c i, 0 ≤ c → c < 3 → 0 ≤ i → i < 10 → p_sum g (20 * (10 * c + i) + 20) = p_sum g (20 * (10 * c + i)) + (if i < B 0 c then B 3 (10 * c + i) else 0) := fun c i c0 c3 i0 i1 => by
    rw [p_sum_sh (by omega) (by decide)]
    have b := b2 (10 * c + i)
    have th : ∀ k, 0 ≤ k → k < 20 → (c_there B (20 * (10 * c + i) + k) ↔ i < B 0 c ∧ k < B 3 (10 * c + i)) := fun k a z => by
      unfold c_there
      rw [show (20 * (10 * c + i) + k) / 20 = 10 * c + i by omega, show (20 * (10 * c + i) + k) / 200 = c by omega, show (20 * (10 * c + i) + k) % 20 = k by omega, show (10 * c + i) % 10 = i by omega]
    rw [p_sum_th (g := fun k => g (20 * (10 * c + i) + k)) (t := if i < B 0 c then B 3 (10 * c + i) else 0) (fun k k0 k1 => ?_) (fun k k0 k1 => ?_) (by split <;> omega)]
    · show @ite Int (c_there B _) (Classical.propDecidable _) 1 0 = 1
      have : i < B 0 c := Classical.byContradiction fun z => by rw [if_neg z] at k1; omega
      rw [if_pos this] at k1
      rw [if_pos ((th k k0 (by omega)).mpr ⟨this, k1⟩)]
    · show @ite Int (c_there B _) (Classical.propDecidable _) 1 0 = 0
      rw [if_neg (fun z => by
        have zz := (th k (by split at k0 <;> omega) k1).mp z
        rw [if_pos zz.1] at k0
        omega)]
  have chap : ∀ c, 0 ≤ c → c < 3 → p_sum g (200 * (c + 1)) ≤ p_sum g (200 * c) + 60 := fun c c0 c3 => by
    have bc := b1 c c0 c3
    have main : ∀ i : Int, 0 ≤ i → i ≤ 10 → p_sum g (200 * c + 20 * i) = p_sum g (200 * c) + p_sum (fun i => if i < B 0 c then B 3 (10 * c + i) else 0) i := fun i i0 i1 => by
      refine q_upto (P := fun x => 0 ≤ x → x ≤ i → p_sum g (200 * c + 20 * x) = p_sum g (200 * c) + p_sum (fun i => if i < B 0 c then B 3 (10 * c + i) else 0) x → p_sum g (200 * c + 20 * i) = p_sum g (200 * c) + p_sum (fun i => if i < B 0 c then B 3 (10 * c + i) else 0) i) i0 (fun _ _ q => q) (fun x x0 x1 ih _ _ q => ih (by omega) (by omega) ?_) (Int.le_refl _) i0 (by rw [p_sum_0]; simp)
      have it := item c x c0 c3 x0 (by omega)
      have s := p_sum_s (g := fun i => if i < B 0 c then B 3 (10 * c + i) else 0) x0
      rw [show 20 * (10 * c + x) + 20 = 200 * c + 20 * (x + 1) by omega, show 20 * (10 * c + x) = 200 * c + 20 * x by omega] at it
      rw [it, q, s]
      show p_sum g (200 * c) + p_sum (fun i => if i < B 0 c then B 3 (10 * c + i) else 0) x + (if x < B 0 c then B 3 (10 * c + x) else 0) = p_sum g (200 * c) + (p_sum (fun i => if i < B 0 c then B 3 (10 * c + i) else 0) x + (if x < B 0 c then B 3 (10 * c + x) else 0))
      omega
    have m := main 10 (by decide) (by decide)
    rw [show 200 * c + 20 * 10 = 200 * (c + 1) by omega] at m
    have gp : p_sum (fun i => if i < B 0 c then B 3 (10 * c + i) else 0) 10 = p_sum (fun i => if i < B 0 c then B 3 (10 * c + i) else 0) (B 0 c) := b_gap bc.1.1 bc.1.2 (fun y a b => if_neg (by omega))
    have cg : p_sum (fun i => if i < B 0 c then B 3 (10 * c + i) else 0) (B 0 c) = p_sum (fun i => B 3 (10 * c + i)) (B 0 c) := p_sum_cg bc.1.1 (fun k a b => if_pos b)
    omega
  have c0 := chap 0 (by decide) (by decide)
  have c1 := chap 1 (by decide) (by decide)
  have c2 := chap 2 (by decide) (by decide)
  have z : p_sum g (200 * 0) = 0 := rfl
  rw [show (200 : Int) * (2 + 1) = 600 by decide, show (200 : Int) * 2 = 200 * (1 + 1) by decide] at c2
  rw [show (200 : Int) * 1 = 200 * (0 + 1) by decide] at c1
  omega
theorem p_sum_le2 {g g' : Int → Int} {n : Int} (hn : 0 ≤ n) (h : ∀ k, 0 ≤ k → k < n → g k ≤ g' k) : p_sum g n ≤ p_sum g' n := by
  refine q_upto (P := fun x => 0 ≤ x → p_sum g x ≤ p_sum g' x → p_sum g n ≤ p_sum g' n) hn (fun _ q => q) (fun x x0 x1 ih _ q => ih (by omega) ?_) (Int.le_refl _) (Int.le_refl _)
  have := h x x0 x1
  rw [p_sum_s x0, p_sum_s x0]; omega
theorem c_180 {B : pT} (hB : c_ok B) : b_n (c_K B) 600 ≤ 180 := by
  have w := c_words hB
  have l : b_n (c_K B) 600 ≤ p_sum (fun y => @ite Int (c_there B y) (Classical.propDecidable _) 1 0) 600 := p_sum_le2 (by decide) (fun k a b => by
    have bb := b_ch_b (K := c_K B) (x := k)
    by_cases q : c_there B k
    · rw [if_pos q]; exact bb.2
    · rw [if_neg q]
      have : c_K B k = 0 := Classical.byContradiction fun z => q (c_K_there z)
      unfold b_ch
      rw [if_neg (by omega)]; exact Int.le_refl _)
  omega
/-- pages of words go up -/
theorem c_G_mono {B : pT} {W : Int → Int} {ob : Prop} {Bo : pT} {Ro R : c_R} {p0 y z : Int} (hB : c_ok B) (hp : 0 ≤ p0) (h : c_out B W ob Bo Ro p0 R) (hy : 0 ≤ y) (hyz : y < z) (hz : z < 600) (ty : c_there B y) (tz : c_there B z) : c_G B R y ≤ c_G B R z := by
  obtain ⟨k, r, k1, k2, r1, r2, r3, k6⟩ := c_G_ex hB h ⟨hy, by omega⟩ ty
  obtain ⟨k', r', k1', k2', r1', r2', r3', k6'⟩ := c_G_ex hB h ⟨by omega, hz⟩ tz
  by_cases q : y / 200 = z / 200
  · rw [← q] at k1' k2' r1' r2' r3' k6'
    rw [k6, k6']
    have ok := c_okB hB h.1 (c := y / 200) ⟨by omega, by omega⟩
    have rr : r ≤ r' := Classical.byContradiction fun e => by
      have l := p_row_lt ok.1 (q := r') (r := r) r1'.1 (by omega) r1.2
      have e1 : p_ri (c_A B (r_L R) (r_E R) (y / 200)) r = y / 20 % 10 := r2
      have e2 : p_ri (c_A B (r_L R) (r_E R) (y / 200)) r' = z / 20 % 10 := r2'
      have e3 : p_fr (c_A B (r_L R) (r_E R) (y / 200)) r ≤ y % 20 := r3.1
      have e4 : z % 20 < p_to (c_A B (r_L R) (r_E R) (y / 200)) r' := r3'.2
      rw [e1, e2] at l
      omega
    have N0 : 0 < B 0 (y / 200) := by have := ty.1; omega
    have pg := ((h.2 (y / 200) (by omega) (by omega)).1.2 N0).2.2
    have kk : k ≤ k' := Classical.byContradiction fun e => by
      have m := g_pages_mono pg k1'.1 (show k' ≤ k - 1 by omega) (by have := pg.1; omega)
      have e2 : g_bf (w_P (r_W R (y / 200))) 0 (k - 1 + 1) = w_P (r_W R (y / 200)) 0 (k - 1) := g_bf_s (by omega)
      rw [show k - 1 + 1 = k by omega] at e2
      omega
    omega
  · have st := fun n n0 n1 => c_la_st hB h.1 (Int.le_refl _) h.2 n n0 n1
    have a := st (y / 200) (by omega) (by omega)
    have b := st (z / 200) (by omega) (by omega)
    have Ny : 0 < B 0 (y / 200) := by have := ty.1; omega
    have Nz : 0 < B 0 (z / 200) := by have := tz.1; omega
    have a2 := a.2 Ny
    have b2 := b.2 Nz
    have pgy := ((h.2 (y / 200) (by omega) (by omega)).1.2 Ny).2.2.1
    have l0 := c_la_bd2 hB h.1 hp (Int.le_refl _) h.2 (z / 200).toNat (by omega)
    have mono : c_la (r_W R) p0 (y / 200 + 1).toNat ≤ c_la (r_W R) p0 (z / 200).toNat := by
      by_cases e : z / 200 = y / 200 + 1
      · rw [e]; exact Int.le_refl _
      · have s := st (y / 200 + 1) (by omega) (by omega)
        rw [show z / 200 = y / 200 + 1 + 1 by omega]
        by_cases zz : B 0 (y / 200 + 1) ≤ 0
        · rw [s.1 zz]; exact Int.le_refl _
        · have l1 := c_la_bd2 hB h.1 hp (Int.le_refl _) h.2 (y / 200 + 1).toNat (by omega)
          have := s.2 (by omega); omega
    rw [k6, k6']
    omega
/-- page p has an entry of t among the words before x -/
def x_on (K V G : Int → Int) (t x p : Int) : Prop := ∃ y, (0 ≤ y ∧ y < x) ∧ K y = 4 ∧ V y = t ∧ G y = p
def x_idx (K V G : Int → Int) (t x : Int) (M : qM) : Prop := (0 ≤ M 27 0 t ∧ M 27 0 t ≤ p_sum (fun y => if K y = 4 then 1 else 0) x) ∧ (∀ i, 0 ≤ i → i < M 27 0 t → 1 ≤ M 29 t i ∧ M 29 t i ≤ M 31 t i ∧ M 31 t i ≤ 1000) ∧ (∀ i, 0 ≤ i → i + 1 < M 27 0 t → M 31 t i + 1 < M 29 t (i + 1)) ∧ ∀ p, x_on K V G t x p ↔ ∃ i, (0 ≤ i ∧ i < M 27 0 t) ∧ M 29 t i ≤ p ∧ p ≤ M 31 t i
theorem x_idx_fr {K V G : Int → Int} {t x x' : Int} {M M' : qM} (h : x_idx K V G t x M) (hx : 0 ≤ x ∧ x ≤ x') (hz : ∀ y, x ≤ y → y < x' → ¬ (K y = 4 ∧ V y = t)) (h27 : M' 27 0 t = M 27 0 t) (hf : ∀ (k : Nat) (s : Int), (k = 29 ∨ k = 31) → M' k t s = M k t s) : x_idx K V G t x' M' := by
  obtain ⟨h1, h2, h3, h4⟩ := h
  have e29 : M' 29 t = M 29 t := by funext s; exact hf _ _ (by omega)
  have e31 : M' 31 t = M 31 t := by funext s; exact hf _ _ (by omega)
  unfold x_idx
  rw [h27, e29, e31]
  refine ⟨⟨h1.1, ?_⟩, h2, h3, fun p => ?_⟩
  · have m := p_sum_mono (g := fun y => if K y = 4 then (1 : Int) else 0) (a := x) (b := x') (fun y a b => by show 0 ≤ (if K y = 4 then (1 : Int) else 0); split <;> omega) hx.1 hx.2
    omega
  · rw [← h4 p]
    refine ⟨fun ⟨y, y1, y2, y3, y4⟩ => ⟨y, ⟨y1.1, Classical.byContradiction fun z => hz y (by omega) y1.2 ⟨y2, y3⟩⟩, y2, y3, y4⟩, fun ⟨y, y1, y2⟩ => ⟨y, ⟨y1.1, by omega⟩, y2⟩⟩
def fr38 (M M' : qM) : Prop := ∀ (k : Nat) (m s : Int), ¬ (k = 27 ∧ m = 0) → ¬ (k = 29 ∨ k = 31) → M' k m s = M k m s
theorem t38 {d : Nat} {h : qH} (hS : qSe h) {B : pT} {G : Int → Int} {e : Int} {M : qM} {F : qM → Prop} (hB : c_ok B) (hM : c_bk B M) (hG : ∀ y, 0 ≤ y → y < 600 → c_there B y → M 24 e y = G y ∧ 1 ≤ G y ∧ G y ≤ 1000) (hmono : ∀ y z, 0 ≤ y → y < z → z < 600 → c_there B y → c_there B z → G y ≤ G z)
    (H : ∀ M', fr38 M M' → (∀ t, 0 ≤ t → t < 10 → x_idx (c_K B) (B 5) G t 600 M') → F M') : e38 (d + 2) h e M F := by
  obtain ⟨b1, b2, b3, b4, _⟩ := id hB
  refine w38 hS (t267 (len := 10) (x := (0, 0, 0)) rfl ⟨by decide, by decide⟩ (fun M1 O1 v1 => ?_))
  have cwr := c_words hB
  have ne : ∀ x, 0 ≤ x → x < 600 → c_K B x = 4 → p_sum (fun y => if c_K B y = 4 then (1 : Int) else 0) x < 180 := fun x x0 x1 q => by
    have l : p_sum (fun y => if c_K B y = 4 then (1 : Int) else 0) 600 ≤ p_sum (fun y => @ite Int (c_there B y) (Classical.propDecidable _) 1 0) 600 := p_sum_le2 (by decide) (fun k a b => by
      by_cases q : c_K B k = 4
      · rw [if_pos q, if_pos (c_K_there (by omega))]; exact Int.le_refl _
      · rw [if_neg q]; split <;> omega)
    have m := p_sum_lt (g := fun y => if c_K B y = 4 then (1 : Int) else 0) (a := x) (b := 600) (fun y a b => by show 0 ≤ (if c_K B y = 4 then (1 : Int) else 0); split <;> omega) x0 x1
    have e1 : (if c_K B x = 4 then (1 : Int) else 0) = 1 := if_pos q
    have m' : p_sum (fun y => if c_K B y = 4 then (1 : Int) else 0) x + (if c_K B x = 4 then (1 : Int) else 0) ≤ p_sum (fun y => if c_K B y = 4 then (1 : Int) else 0) 600 := m
    omega
  have bkN : ∀ N, fr38 M N → c_bk B N := fun N O => ⟨fun c a b => by rw [O _ _ _ (by omega) (by omega)]; exact hM.1 c a b, fun x a b => by rw [O _ _ _ (by omega) (by omega), O _ _ _ (by omega) (by omega), O _ _ _ (by omega) (by omega), O _ _ _ (by omega) (by omega)]; exact hM.2.1 x a b, fun y a b => by rw [O _ _ _ (by omega) (by omega), O _ _ _ (by omega) (by omega), O _ _ _ (by omega) (by omega)]; exact hM.2.2 y a b⟩
  let I : Int → qM → Prop := fun x N => fr38 M N ∧ ∀ t, 0 ≤ t → t < 10 → x_idx (c_K B) (B 5) G t x N
  have gap : ∀ x x' N, 0 ≤ x → x ≤ x' → (∀ y, x ≤ y → y < x' → c_K B y = 0) → I x N → I x' N := fun x x' N x0 hx hz hI => ⟨hI.1, fun t a b => x_idx_fr (hI.2 t a b) ⟨x0, hx⟩ (fun y p q z => by have := hz y p q; omega) rfl (fun _ _ _ => rfl)⟩
  refine q_upto (P := fun c => 0 ≤ c → ∀ N u4 u5 u6, I (200 * c) N → b38_10 d h F e c u4 u5 u6 N) (a := 0) (b := 3) (by decide) (fun _ N u4 u5 u6 hI => w38_10 hS ⟨fun q => absurd q (by decide), fun _ => by
    have hI' : I 600 N := by rw [show (600 : Int) = 200 * 3 by decide]; exact hI
    exact H N hI'.1 hI'.2⟩) (fun c c0 c3 ih _ N u4 u5 u6 hI => w38_10 hS ⟨fun _ => ?_, fun q => absurd c3 q⟩) (Int.le_refl _) M1 _ _ _ ⟨fun k m s q1 q2 => O1 k m s (by omega), fun t a b => ?_⟩
  · have bc := b1 c c0 c3
    refine q_upto (P := fun i => 0 ≤ i → ∀ N u5 u6, I (200 * c + 20 * i) N → b38_18 d h F e c i u5 u6 N) (a := 0) (b := B 0 c) bc.1.1 (fun _ N u5 u6 hI => ?_) (fun i i0 i1 ihi _ N u5 u6 hI => ?_) (Int.le_refl _) N _ _ (by rw [show 200 * c + 20 * 0 = 200 * c by omega]; exact hI)
    · refine w38_18 hS ⟨⟨c0, c3⟩, fun q => by rw [(bkN N hI.1).1 c c0 c3] at q; omega, fun _ => ⟨⟨by omega, by omega⟩, ih (by omega) N _ _ _ (gap _ _ N (by omega) (by omega) (fun y a b => ?_) hI)⟩⟩
      unfold c_K
      rw [if_neg (by rw [show y / 200 = c by omega]; omega)]
    · have bk := bkN N hI.1
      have nx := b2 (10 * c + i)
      refine w38_18 hS ⟨⟨c0, c3⟩, fun _ => ⟨⟨c0, c3⟩, ⟨i0, by omega⟩, ?_⟩, fun q => by rw [bk.1 c c0 c3] at q; omega⟩
      rw [show 1 + 10 * c + i = 1 + (10 * c + i) by omega]
      refine q_upto (P := fun w => 0 ≤ w → ∀ N, I (200 * c + 20 * i + w) N → b38_43 d h F e c i (1 + (10 * c + i)) w N) (a := 0) (b := B 3 (10 * c + i)) nx.1 (fun _ N hI => ?_) (fun w w0 w1 ihw _ N hI => ?_) (Int.le_refl _) N (by rw [show 200 * c + 20 * i + 0 = 200 * c + 20 * i by omega]; exact hI)
      · have bk := bkN N hI.1
        refine w38_43 hS ⟨fun q => by rw [(bk.2.1 (10 * c + i) (by omega) (by omega)).2.2.1] at q; omega, fun _ => ⟨⟨by omega, by omega⟩, ihi (by omega) N _ _ (gap _ _ N (by omega) (by omega) (fun y a b => ?_) hI)⟩⟩
        unfold c_K
        rw [if_neg (by rw [show y / 20 = 10 * c + i by omega]; omega)]
      · have bk := bkN N hI.1
        have y := bk.2.2 (200 * c + 20 * i + w) (by omega) (by omega)
        rw [show (200 * c + 20 * i + w) / 20 = 10 * c + i by omega, show (200 * c + 20 * i + w) % 20 = w by omega] at y
        have there : c_there B (200 * c + 20 * i + w) := by
          unfold c_there
          rw [show (200 * c + 20 * i + w) / 20 % 10 = i by omega, show (200 * c + 20 * i + w) / 200 = c by omega, show (200 * c + 20 * i + w) % 20 = w by omega, show (200 * c + 20 * i + w) / 20 = 10 * c + i by omega]
          exact ⟨i1, w1⟩
        have kx : c_K B (200 * c + 20 * i + w) = B 4 (200 * c + 20 * i + w) := if_pos there
        have nxt : ∀ N', I (200 * c + 20 * i + w + 1) N' → qIn (w + 1) ∧ b38_43 d h F e c i (1 + (10 * c + i)) (w + 1) N' := fun N' hI' => ⟨⟨by omega, by omega⟩, ihw (by omega) N' (by rw [show 200 * c + 20 * i + (w + 1) = 200 * c + 20 * i + w + 1 by omega]; exact hI')⟩
        refine w38_43 hS ⟨fun _ => ⟨⟨w0, by omega⟩, fun q => ?_, fun q => nxt N ⟨hI.1, fun t a b => x_idx_fr (hI.2 t a b) ⟨by omega, by omega⟩ (fun z z0 z1 zz => ?_) rfl (fun _ _ _ => rfl)⟩⟩, fun q => by rw [(bk.2.1 (10 * c + i) (by omega) (by omega)).2.2.1] at q; omega⟩
        · rw [y.1] at q
          rw [y.2.1]
          refine ⟨⟨w0, by omega⟩, w147 hS ⟨⟨by omega, by omega⟩, ⟨by omega, by omega⟩, ⟨by omega, by omega⟩, ⟨by omega, by omega⟩, ?_⟩⟩
          have ex : (c * 10 + i) * 20 + w = 200 * c + 20 * i + w := by omega
          generalize hx : 200 * c + 20 * i + w = x at *
          have x0 : 0 ≤ x ∧ x < 600 := by omega
          have gx := hG x x0.1 x0.2 there
          have l := b4 x
          have k4 : c_K B x = 4 := by rw [kx]; exact q
          rw [ex]
          refine ⟨x0, ?_⟩
          rw [hI.1 24 _ _ (by omega) (by omega), gx.1]
          obtain ⟨i1', i2, i3, i4⟩ := hI.2 (B 5 x) l.1 (by omega)
          have lim := ne x x0.1 x0.2 k4
          have s := p_sum_s (g := fun y => if c_K B y = 4 then (1 : Int) else 0) x0.1
          have s' : p_sum (fun y => if c_K B y = 4 then (1 : Int) else 0) (x + 1) = p_sum (fun y => if c_K B y = 4 then (1 : Int) else 0) x + 1 := by rw [s, if_pos k4]
          have onx : ∀ p, x_on (c_K B) (B 5) G (B 5 x) (x + 1) p ↔ x_on (c_K B) (B 5) G (B 5 x) x p ∨ p = G x := fun p => by
            refine ⟨fun ⟨z, z1, z2, z3, z4⟩ => ?_, fun zz => ?_⟩
            · by_cases ez : z = x
              · rw [ez] at z4; exact Or.inr z4.symm
              · exact Or.inl ⟨z, by omega, z2, z3, z4⟩
            · rcases zz with ⟨z, z1, z2⟩ | zz
              · exact ⟨z, by omega, z2⟩
              · exact ⟨x, by omega, k4, rfl, zz.symm⟩
          have below : ∀ p, x_on (c_K B) (B 5) G (B 5 x) x p → p ≤ G x := fun p ⟨z, z1, z2, z3, z4⟩ => by
            rw [← z4]; exact hmono z x z1.1 z1.2 x0.2 (c_K_there (by omega)) there
          refine t39 hS ⟨l.1, by omega⟩ rfl ⟨i1'.1, by omega⟩ (fun z => by have := i2 (N 27 0 (B 5 x) - 1) (by omega) (by omega); omega) (fun C0 hp M4 O4 v4 => ?_) (fun hp M4 O4 v4 v5 v6 => ?_)
          · have others : fr38 M M4 := fun k m s q1 q2 => by rw [O4 k m s (by omega)]; exact hI.1 k m s q1 q2
            refine nxt M4 ⟨others, fun t a b => ?_⟩
            by_cases et : t = B 5 x
            · rw [et]
              have e27 : M4 27 0 (B 5 x) = N 27 0 (B 5 x) := O4 _ _ _ (by omega)
              have e29 : ∀ s, M4 29 (B 5 x) s = N 29 (B 5 x) s := fun s => O4 _ _ _ (by omega)
              have e31 : ∀ s, s ≠ N 27 0 (B 5 x) - 1 → M4 31 (B 5 x) s = N 31 (B 5 x) s := fun s z => O4 _ _ _ (by omega)
              have lst := i2 (N 27 0 (B 5 x) - 1) (by omega) (by omega)
              have lon := below _ ((i4 (N 31 (B 5 x) (N 27 0 (B 5 x) - 1))).mpr ⟨N 27 0 (B 5 x) - 1, by omega, lst.2.1, Int.le_refl _⟩)
              unfold x_idx
              rw [e27]
              refine ⟨⟨i1'.1, by omega⟩, fun i a b => ?_, fun i a b => ?_, fun p => ?_⟩
              · rw [e29]
                by_cases ei : i = N 27 0 (B 5 x) - 1
                · rw [ei, v4]; omega
                · rw [e31 i ei]; exact i2 i a b
              · rw [e29, e31 i (by omega)]; exact i3 i a b
              · rw [onx p]
                refine ⟨fun zz => ?_, fun ⟨i, j1, j2, j3⟩ => ?_⟩
                · rcases zz with zz | zz
                  · obtain ⟨i, j1, j2, j3⟩ := (i4 p).mp zz
                    refine ⟨i, j1, by rw [e29]; exact j2, ?_⟩
                    by_cases ei : i = N 27 0 (B 5 x) - 1
                    · rw [ei] at j3; rw [ei, v4]; omega
                    · rw [e31 i ei]; exact j3
                  · exact ⟨N 27 0 (B 5 x) - 1, by omega, by rw [e29]; omega, by rw [v4]; omega⟩
                · rw [e29] at j2
                  by_cases ei : i = N 27 0 (B 5 x) - 1
                  · rw [ei, v4] at j3
                    rw [ei] at j2
                    by_cases ep : p = G x
                    · exact Or.inr ep
                    · exact Or.inl ((i4 p).mpr ⟨i, j1, by rw [ei]; exact j2, by rw [ei]; omega⟩)
                  · rw [e31 i ei] at j3
                    exact Or.inl ((i4 p).mpr ⟨i, j1, j2, j3⟩)
            · exact x_idx_fr (hI.2 t a b) ⟨x0.1, by omega⟩ (fun z z0 z1 zz => et (by rw [← zz.2, show z = x by omega])) (O4 _ _ _ (by omega)) (fun k s q => O4 _ _ _ (by omega))
          · have others : fr38 M M4 := fun k m s q1 q2 => by rw [O4 k m s (by omega)]; exact hI.1 k m s q1 q2
            refine nxt M4 ⟨others, fun t a b => ?_⟩
            by_cases et : t = B 5 x
            · rw [et]
              have e29 : ∀ s, s ≠ N 27 0 (B 5 x) → M4 29 (B 5 x) s = N 29 (B 5 x) s := fun s z => O4 _ _ _ (by omega)
              have e31 : ∀ s, s ≠ N 27 0 (B 5 x) → M4 31 (B 5 x) s = N 31 (B 5 x) s := fun s z => O4 _ _ _ (by omega)
              unfold x_idx
              rw [v6]
              refine ⟨⟨by omega, by omega⟩, fun i a b => ?_, fun i a b => ?_, fun p => ?_⟩
              · by_cases ei : i = N 27 0 (B 5 x)
                · rw [ei, v4, v5]; omega
                · rw [e29 i ei, e31 i ei]; exact i2 i a (by omega)
              · rw [e31 i (by omega)]
                by_cases ei : i + 1 = N 27 0 (B 5 x)
                · rw [ei, v4]
                  have := hp (by omega)
                  rw [show N 27 0 (B 5 x) - 1 = i by omega] at this
                  omega
                · rw [e29 _ ei]; exact i3 i a (by omega)
              · rw [onx p]
                refine ⟨fun zz => ?_, fun ⟨i, j1, j2, j3⟩ => ?_⟩
                · rcases zz with zz | zz
                  · obtain ⟨i, j1, j2, j3⟩ := (i4 p).mp zz
                    exact ⟨i, by omega, by rw [e29 i (by omega)]; exact j2, by rw [e31 i (by omega)]; exact j3⟩
                  · exact ⟨N 27 0 (B 5 x), by omega, by rw [v4]; omega, by rw [v5]; omega⟩
                · by_cases ei : i = N 27 0 (B 5 x)
                  · rw [ei, v4] at j2
                    rw [ei, v5] at j3
                    exact Or.inr (by omega)
                  · rw [e29 i ei] at j2
                    rw [e31 i ei] at j3
                    exact Or.inl ((i4 p).mpr ⟨i, by omega, j2, j3⟩)
            · exact x_idx_fr (hI.2 t a b) ⟨x0.1, by omega⟩ (fun z z0 z1 zz => et (by rw [← zz.2, show z = x by omega])) (O4 _ _ _ (by omega)) (fun k s q => O4 _ _ _ (by omega))
        · rw [show z = 200 * c + 20 * i + w by omega, kx, ← y.1] at zz
          exact q zz.1
  · have e27 : M1 27 0 t = 0 := v1 t a b
    unfold x_idx
    rw [e27]
    exact ⟨⟨Int.le_refl _, Int.le_refl _⟩, fun i a b => by omega, fun i a b => by omega, fun p => ⟨fun ⟨y, y1, _⟩ => by omega, fun ⟨i, j1, _⟩ => by omega⟩⟩
