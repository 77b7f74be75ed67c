/-! ===== Facingleaf.widthOfText; Composer.itemOf, listWord, listChanging ===== -/
theorem b_dg_b {x : Int} : 1 ≤ b_dg x ∧ b_dg x ≤ 3 := by
  unfold b_dg
  split
  · omega
  · split <;> omega
theorem t148 {d : Nat} {h : qH} (hS : qSe h) {x : Int} {M : qM} {F : Int → qM → Prop} (H : F (b_dg x) M) : e148 (d + 1) h x M F := by
  unfold b_dg at H
  refine w148 hS ⟨fun q => ?_, fun q y hy => ?_⟩
  · rw [if_pos q] at H; exact H
  · rw [if_neg q] at H; rw [hy]; exact H
theorem t149 {d : Nat} {h : qH} (hS : qSe h) {x : Int} {M : qM} {F : Int → qM → Prop} (hx : -1000000 ≤ x ∧ x ≤ 1000000) (H : F (b_tw x) M) : e149 (d + 2) h x M F := by
  unfold b_tw at H
  by_cases hk : x < 0 ∨ 2 < x
  · rw [if_neg (by omega), if_neg (by omega), if_neg (by omega)] at H
    have b := b_dg_b (x := x - 10)
    have hq : qIn (5 + b_dg (x - 10)) := ⟨by omega, by omega⟩
    refine qJ.body (Nat.le_of_ble_eq_true rfl) (qWq (fun _ => false) 60 (And.intro (fun _ => And.intro (show qIn (x - 10) from ⟨by omega, by omega⟩) ?_) (fun z => absurd hk z)))
    exact And.intro rfl (qEi.go (t148 (d := d) (F := fun v M' => qIn (5 + v) ∧ F (5 + v) M') hS ⟨hq, H⟩) (Nat.le_refl _) (fun v M' hv => And.intro hv.1 ⟨_, _, rfl, rfl, hv.2⟩))
  · rcases (show x = 0 ∨ x = 1 ∨ x = 2 by omega) with rfl | rfl | rfl
    · rw [if_pos rfl] at H
      exact qJ.body (Nat.le_of_ble_eq_true rfl) (qWq (fun _ => false) 60 (And.intro (fun z => absurd z hk) (fun _ => ⟨_, _, rfl, rfl, H⟩)))
    · rw [if_neg (by decide), if_pos rfl] at H
      exact qJ.body (Nat.le_of_ble_eq_true rfl) (qWq (fun _ => false) 60 (And.intro (fun z => absurd z hk) (fun _ => ⟨_, _, rfl, rfl, H⟩)))
    · rw [if_neg (by decide), if_neg (by decide), if_pos rfl] at H
      exact qJ.body (Nat.le_of_ble_eq_true rfl) (qWq (fun _ => false) 60 (And.intro (fun z => absurd z hk) (fun _ => ⟨_, _, rfl, rfl, H⟩)))
theorem t13 {d : Nat} {h : qH} (hS : qSe h) {x : Int} {M : qM} {F : Int → qM → Prop} (h6 : 0 < M 2 0 6) (hx : 0 ≤ x ∧ x < 600) (H : F (1 + x / 20) M) : e13 (d + 1) h x M F := by
  have e : 1 + 10 * ((x / 20) / 10) + ((x / 20) % 10) = 1 + x / 20 := by omega
  refine w13 hS ⟨fun q => by omega, fun _ => ⟨hx.1, by omega, ⟨by omega, by omega⟩, hx.1, by omega, ⟨by omega, by omega⟩, ?_⟩, fun q => by omega⟩
  rw [e]; exact H
def fr14 (M M' : qM) : Prop := ∀ (k : Nat) (m s : Int), ¬ ((k = 2 ∧ m = 0 ∧ s = 3) ∨ (k = 16 ∧ m = 0) ∨ (k = 18 ∧ m = 0)) → M' k m s = M k m s
theorem t15 {d : Nat} {h : qH} (hS : qSe h) {x w n : Int} {M : qM} {F : qM → Prop} (h3 : M 2 0 3 = n) (hn : 0 ≤ n ∧ n < 180)
    (H : ∀ M', fr14 M M' → M' 2 0 3 = n + 1 → M' 16 0 n = x → M' 18 0 n = w → (∀ j, j ≠ n → M' 16 0 j = M 16 0 j ∧ M' 18 0 j = M 18 0 j) → F M') : e15 (d + 1) h x w M F := by
  refine w15 hS ⟨fun _ => ⟨⟨by omega, by omega⟩, fun M1 f1 => ?_⟩, fun q => by omega⟩
  have a1 : M1 2 0 3 = n := by rw [f1, qU_k (by decide)]; exact h3
  refine ⟨⟨by omega, by omega⟩, fun M2 f2 => ?_⟩
  have a2 : M2 2 0 3 = n := by rw [f2, qU_k (by decide)]; exact a1
  refine ⟨⟨by omega, by omega⟩, fun M3 f3 => ?_⟩
  rw [h3] at f1; rw [a1] at f2; rw [a2] at f3
  refine H M3 (fun k m s q => ?_) (by rw [f3, qU_s]) (by rw [f3, qU_k (by decide), f2, qU_k (by decide), f1, qU_s]) (by rw [f3, qU_k (by decide), f2, qU_s]) (fun j hj => ⟨by rw [f3, qU_k (by decide), f2, qU_k (by decide), f1, qU_l (by omega)], by rw [f3, qU_k (by decide), f2, qU_l (by omega), f1, qU_k (by decide)]⟩)
  rw [f3, f2, f1]; unfold qU; rw [if_neg (by omega), if_neg (by omega), if_neg (by omega)]
/-- the words of the book in the class' memory -/
def b_cw (K V : Int → Int) (M : qM) : Prop := ∀ x, 0 ≤ x → x < 600 → (if x / 20 % 10 < M 1 (x / 200) 1 ∧ x % 20 < M 5 (1 + x / 20) 2 then M 33 (1 + x / 20) (x % 20) else 0) = K x ∧ (K x ≠ 0 → M 34 (1 + x / 20) (x % 20) = V x)
def b_ch (K : Int → Int) (x : Int) : Int := if K x = 2 ∨ K x = 6 then 1 else 0
/-- how many words before x have widths that depend on pages -/
def b_n (K : Int → Int) (x : Int) : Int := p_sum (b_ch K) x
theorem b_ch_b {K : Int → Int} {x : Int} : 0 ≤ b_ch K x ∧ b_ch K x ≤ 1 := by unfold b_ch; split <;> omega
theorem b_gap {g : Int → Int} {a b : Int} (ha : 0 ≤ a) (hab : a ≤ b) (hg : ∀ y, a ≤ y → y < b → g y = 0) : p_sum g b = p_sum g a := by
  refine q_upto (P := fun x => a ≤ x → p_sum g x = p_sum g a → p_sum g b = p_sum g a) hab (fun _ q => q) (fun x x0 x1 ih _ q => ?_) (Int.le_refl _) rfl
  have := p_sum_s (g := g) (x := x) (by omega)
  have := hg x x0 x1
  exact ih (by omega) (by omega)
/-- what is listed before x -/
def b_li (K : Int → Int) (W : Int → Int) (x : Int) (M : qM) : Prop := M 2 0 3 = b_n K x ∧ ∀ y, 0 ≤ y → y < x → b_ch K y = 1 → M 16 0 (b_n K y) = y ∧ M 18 0 (b_n K y) = W y
theorem b_li_gap {K W : Int → Int} {a b : Int} {M : qM} (ha : 0 ≤ a) (hab : a ≤ b) (hg : ∀ y, a ≤ y → y < b → b_ch K y = 0) (H : b_li K W a M) : b_li K W b M := by
  refine ⟨?_, fun y y0 y1 hy => ?_⟩
  · rw [H.1]; unfold b_n; rw [b_gap ha hab hg]
  · by_cases q : y < a
    · exact H.2 y y0 q hy
    · have := hg y (by omega) y1; omega
theorem b_n_lt {K : Int → Int} {y x : Int} (hy : 0 ≤ y ∧ y < x) (h : b_ch K y = 1) : b_n K y < b_n K x := by
  have := p_sum_lt (g := b_ch K) (a := y) (b := x) (fun z _ _ => b_ch_b.1) hy.1 hy.2
  unfold b_n; omega
theorem t14 {d : Nat} {h : qH} (hS : qSe h) {K V : Int → Int} {e : Int} {M : qM} {F : qM → Prop} (hw : b_cw K V M) (h6 : 0 < M 2 0 6) (he : 0 ≤ e) (h7 : M 2 0 7 = e + 1) (hcn : ∀ c, 0 ≤ c → c < 3 → 0 ≤ M 1 c 1 ∧ M 1 c 1 ≤ 10) (hn : ∀ it, 0 ≤ M 5 it 2 ∧ M 5 it 2 ≤ 20) (h180 : b_n K 600 ≤ 180)
    (H : ∀ M', fr14 M M' → b_li K (b_w0 K (M 3 e 2)) 600 M' → F M') : e14 (d + 3) h M F := by
  refine w14 hS (fun M0 f0 => ?_)
  have O0 : fr14 M M0 := fun k m s q => by rw [f0]; unfold qU; rw [if_neg (by omega)]
  have L0 : b_li K (b_w0 K (M 3 e 2)) 0 M0 := ⟨by rw [f0, qU_s]; rfl, fun y a b => by omega⟩
  refine q_upto (P := fun c => 0 ≤ c → ∀ M1 u2 u3 u4 u5, fr14 M M1 → b_li K (b_w0 K (M 3 e 2)) (200 * c) M1 → b14_7 d h F c u2 u3 u4 u5 M1) (a := 0) (b := 3) (by omega) (fun _ M1 u2 u3 u4 u5 O1 L1 => w14_7 hS ⟨fun q => by omega, fun _ => H M1 O1 (by rw [show (600 : Int) = 200 * 3 by omega]; exact L1)⟩) (fun c c0 c3 ih _ M1 u2 u3 u4 u5 O1 L1 => ?_) (by omega) M0 _ _ _ _ O0 (by rw [show (200 : Int) * 0 = 0 by omega]; exact L0)
  refine w14_7 hS ⟨fun _ => ?_, fun q => by omega⟩
  have cc := hcn c c0 c3
  have z0 : ∀ (v : Int), v = p_sum (b_nt K (fun _ => 0) 0 0) (200 * c + 20 * 0) - p_sum (b_nt K (fun _ => 0) 0 0) (200 * c) → v = 0 := fun v hv => by rw [show 200 * c + 20 * 0 = 200 * c by omega] at hv; omega
  have st : ∀ (nn : Int) u4 u5, nn = p_sum (b_nt K (fun _ => 0) 0 0) (200 * c + 20 * 0) - p_sum (b_nt K (fun _ => 0) 0 0) (200 * c) → b14_16 d h F c nn 0 u4 u5 M1 := by
    refine q_upto (P := fun i => 0 ≤ i → ∀ M2, fr14 M M2 → b_li K (b_w0 K (M 3 e 2)) (200 * c + 20 * i) M2 → ∀ nn u4 u5, nn = p_sum (b_nt K (fun _ => 0) 0 0) (200 * c + 20 * i) - p_sum (b_nt K (fun _ => 0) 0 0) (200 * c) → b14_16 d h F c nn i u4 u5 M2) (a := 0) (b := M 1 c 1) cc.1 (fun _ M2 O2 L2 nn u4 u5 hnn => ?_) (fun i i0 i1 ihi _ M2 O2 L2 nn u4 u5 hnn => ?_) (by omega) M1 O1 (by rw [show 200 * c + 20 * 0 = 200 * c by omega]; exact L1)
    · have e6 : M2 2 0 6 = M 2 0 6 := O2 _ _ _ (by omega)
      have e1 : M2 1 c 1 = M 1 c 1 := O2 _ _ _ (by omega)
      refine w14_16 hS ⟨fun q => by omega, fun _ => ⟨⟨c0, c3⟩, fun q => by omega, fun _ => ⟨⟨by omega, by omega⟩, ih (by omega) M2 _ _ _ _ O2 (b_li_gap (by omega) (by omega) (fun y y0 y1 => ?_) L2)⟩⟩, fun q => by omega⟩
      have ky := hw y (by omega) (by omega)
      rw [if_neg (fun z => by have z1 := z.1; rw [show y / 200 = c by omega] at z1; omega)] at ky
      unfold b_ch; rw [if_neg (by omega)]
    · have e6 : M2 2 0 6 = M 2 0 6 := O2 _ _ _ (by omega)
      have e1 : M2 1 c 1 = M 1 c 1 := O2 _ _ _ (by omega)
      have hni := hn (1 + 10 * c + i)
      refine w14_16 hS ⟨fun q => by omega, fun _ => ⟨⟨c0, c3⟩, fun _ => ⟨fun q => by omega, fun _ => ⟨⟨c0, c3⟩, ⟨by omega, by omega⟩, ?_⟩, fun q => by omega⟩, fun q => by omega⟩, fun q => by omega⟩
      refine q_upto (P := fun w => 0 ≤ w → ∀ M3, fr14 M M3 → b_li K (b_w0 K (M 3 e 2)) (200 * c + 20 * i + w) M3 → ∀ nn, nn = p_sum (b_nt K (fun _ => 0) 0 0) (200 * c + 20 * i + w) - p_sum (b_nt K (fun _ => 0) 0 0) (200 * c) → b14_45 d h F c nn i (1 + 10 * c + i) w M3) (a := 0) (b := M 5 (1 + 10 * c + i) 2) hni.1 (fun _ M3 O3 L3 nn hnn => ?_) (fun w w0 w1 ihw _ M3 O3 L3 nn hnn => ?_) (by omega) M2 O2 (by rw [show 200 * c + 20 * i + 0 = 200 * c + 20 * i by omega]; exact L2) nn (by rw [show 200 * c + 20 * i + 0 = 200 * c + 20 * i by omega]; exact hnn)
      · have e2 : M3 5 (1 + 10 * c + i) 2 = M 5 (1 + 10 * c + i) 2 := O3 _ _ _ (by omega)
        have k0 : ∀ y, 200 * c + 20 * i + M 5 (1 + 10 * c + i) 2 ≤ y → y < 200 * c + 20 * (i + 1) → K y = 0 := fun y y0 y1 => by
          have ky := hw y (by omega) (by omega)
          rw [if_neg (fun z => by have z1 := z.2; rw [show 1 + y / 20 = 1 + 10 * c + i by omega] at z1; omega)] at ky
          omega
        refine w14_45 hS ⟨fun q => by omega, fun _ => ⟨⟨by omega, by omega⟩, ihi (by omega) M3 O3 (b_li_gap (by omega) (by omega) (fun y y0 y1 => ?_) L3) nn _ _ ?_⟩⟩
        · have := k0 y y0 y1
          unfold b_ch; rw [if_neg (by omega)]
        · rw [hnn, b_gap (g := b_nt K (fun _ => 0) 0 0) (a := 200 * c + 20 * i + M 5 (1 + 10 * c + i) 2) (b := 200 * c + 20 * (i + 1)) (by omega) (by omega) (fun y y0 y1 => ?_)]
          have := k0 y y0 y1
          unfold b_nt; rw [if_neg (by omega)]
      · have e2 : M3 5 (1 + 10 * c + i) 2 = M 5 (1 + 10 * c + i) 2 := O3 _ _ _ (by omega)
        have e33 : M3 33 (1 + 10 * c + i) w = M 33 (1 + 10 * c + i) w := O3 _ _ _ (by omega)
        have e7 : M3 2 0 7 = e + 1 := by rw [O3 _ _ _ (by omega)]; exact h7
        have e32 : M3 3 e 2 = M 3 e 2 := O3 _ _ _ (by omega)
        generalize hx : 200 * c + 20 * i + w = x at *
        have kx := hw x (by omega) (by omega)
        rw [show 1 + x / 20 = 1 + 10 * c + i by omega, show x % 20 = w by omega, show x / 200 = c by omega, if_pos ⟨by omega, w1⟩] at kx
        have sn := p_sum_s (g := b_nt K (fun _ => 0) 0 0) (x := x) (by omega)
        have bn := b_sum_le (g := b_nt K (fun _ => 0) 0 0) (a := 200 * c) (b := x) (fun _ => b_nt_b) (by omega) (by omega)
        have sc := p_sum_s (g := b_ch K) (x := x) (by omega)
        have id : c * 10 + i = x / 20 := by omega
        have eid : (c * 10 + i) * 20 + w = x := by omega
        have nnn : b_num K (fun _ => 0) 0 x = nn + 1 := by
          have nf : b_nt K (fun _ => 0) 0 ((fun _ => 0) x) = b_nt K (fun _ => 0) 0 0 := rfl
          unfold b_num
          rw [nf, show x / 200 * 200 = 200 * c by omega]; omega
        have step : b_ch K x = 1 → ∀ nn', nn' = p_sum (b_nt K (fun _ => 0) 0 0) (x + 1) - p_sum (b_nt K (fun _ => 0) 0 0) (200 * c) → ∀ wd, wd = b_w0 K (M 3 e 2) x → e15 (d + 1) h x wd M3 (fun M4 => qIn (w + 1) ∧ b14_45 d h F c nn' i (1 + 10 * c + i) (w + 1) M4) := fun hc1 nn' hn' wd hwd => by
          have lt := b_n_lt (K := K) (y := x) (x := 600) ⟨by omega, by omega⟩ hc1
          have b0 := b_sum_le (g := b_ch K) (a := 0) (b := x) (fun _ => b_ch_b) (by omega) (by omega)
          have z : p_sum (b_ch K) 0 = 0 := rfl
          have nd : b_n K x = p_sum (b_ch K) x := rfl
          have nd1 : b_n K (x + 1) = p_sum (b_ch K) (x + 1) := rfl
          refine t15 hS L3.1 ⟨by omega, by omega⟩ (fun M4 O4 a1 a2 a3 a4 => ⟨⟨by omega, by omega⟩, ihw (by omega) M4 (fun k m s q => by rw [O4 k m s q, O3 k m s q]) ?_ nn' ?_⟩)
          · rw [show 200 * c + 20 * i + (w + 1) = x + 1 by omega]
            refine ⟨by omega, fun y y0 y1 hy => ?_⟩
            by_cases q : y = x
            · rw [q]; exact ⟨a2, by rw [a3]; exact hwd⟩
            · have l := b_n_lt (K := K) (y := y) (x := x) ⟨y0, by omega⟩ hy
              have l3 := L3.2 y y0 (by omega) hy
              have a5 := a4 (b_n K y) (by omega)
              exact ⟨by rw [a5.1]; exact l3.1, by rw [a5.2]; exact l3.2⟩
          · rw [show 200 * c + 20 * i + (w + 1) = x + 1 by omega]; exact hn'
        refine w14_45 hS ⟨fun _ => ⟨⟨w0, by omega⟩, fun q2 => ?_, fun q2 => ⟨⟨w0, by omega⟩, fun q6 => ?_, fun q6 => ?_⟩⟩, fun q => by omega⟩
        · have k2 : K x = 2 := by omega
          have c1 : b_ch K x = 1 := by unfold b_ch; rw [if_pos (Or.inl k2)]
          have n1 : b_nt K (fun _ => 0) 0 0 x = 1 := by unfold b_nt; rw [if_pos ⟨k2, Or.inl rfl⟩]
          refine ⟨⟨by omega, by omega⟩, w147 hS ⟨⟨by omega, by omega⟩, ⟨by omega, by omega⟩, ⟨by omega, by omega⟩, ⟨by omega, by omega⟩, ?_⟩⟩
          rw [eid, e7, show e + 1 - 1 = e by omega, e32]
          refine ⟨fun q => by omega, fun _ => ⟨fun qb => t148 hS ?_, fun qb => ?_⟩, fun q => by omega⟩
          · exact step c1 _ (by omega) _ (by unfold b_w0; rw [if_neg (by omega), if_pos k2, if_pos qb, nnn])
          · exact step c1 _ (by omega) _ (by unfold b_w0; rw [if_neg (by omega), if_pos k2, if_neg qb])
        · have k6 : K x = 6 := by omega
          have c1 : b_ch K x = 1 := by unfold b_ch; rw [if_pos (Or.inr k6)]
          have n0 : b_nt K (fun _ => 0) 0 0 x = 0 := by unfold b_nt; rw [if_neg (by omega)]
          refine w147 hS ⟨⟨by omega, by omega⟩, ⟨by omega, by omega⟩, ⟨by omega, by omega⟩, ⟨by omega, by omega⟩, ?_⟩
          rw [eid]
          exact t149 hS ⟨by omega, by omega⟩ (step c1 _ (by omega) _ (by unfold b_w0; rw [if_pos k6]; rfl))
        · have c0 : b_ch K x = 0 := by unfold b_ch; rw [if_neg (by omega)]
          have n0 : b_nt K (fun _ => 0) 0 0 x = 0 := by unfold b_nt; rw [if_neg (by omega)]
          refine ⟨⟨by omega, by omega⟩, ihw (by omega) M3 O3 ?_ nn ?_⟩
          · rw [show 200 * c + 20 * i + (w + 1) = x + 1 by omega]
            exact b_li_gap (by omega) (by omega) (fun y y0 y1 => by rw [show y = x by omega]; exact c0) L3
          · rw [show 200 * c + 20 * i + (w + 1) = x + 1 by omega]; omega
  exact st 0 _ _ (by rw [show 200 * c + 20 * 0 = 200 * c by omega]; omega)
