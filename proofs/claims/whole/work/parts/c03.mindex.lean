/-! ===== ranges of pages; the index of the model ===== -/
def x_iv (n : Int) (a b : Int → Int) (on : Int → Prop) : Prop := 0 ≤ n ∧ (∀ i, 0 ≤ i → i < n → 1 ≤ a i ∧ a i ≤ b i ∧ b i ≤ 398) ∧ (∀ i, 0 ≤ i → i + 1 < n → b i + 1 < a (i + 1)) ∧ ∀ p, on p ↔ ∃ i, (0 ≤ i ∧ i < n) ∧ a i ≤ p ∧ p ≤ b i
theorem x_iv_lt {n : Int} {a b : Int → Int} {on : Int → Prop} (h : x_iv n a b on) {i j : Int} (hi : 0 ≤ i) (hij : i < j) (hj : j < n) : b i + 1 < a j := by
  obtain ⟨h1, h2, h3, h4⟩ := h
  refine q_upto (P := fun x => i + 1 ≤ x → b i + 1 < a x → b i + 1 < a j) (a := i + 1) (b := j) (by omega) (fun _ q => q) (fun x x0 x1 ih _ q => ih (by omega) ?_) (Int.le_refl _) (h3 i hi (by omega))
  have := h2 x (by omega) (by omega)
  have := h3 x (by omega) (by omega)
  omega
theorem x_iv_one {n : Int} {a b : Int → Int} {on : Int → Prop} (h : x_iv n a b on) {i j p : Int} (hi : 0 ≤ i ∧ i < n) (hj : 0 ≤ j ∧ j < n) (h1 : a i ≤ p ∧ p ≤ b i) (h2 : a j ≤ p ∧ p ≤ b j) : i = j := by
  refine Classical.byContradiction fun z => ?_
  by_cases q : i < j
  · have := x_iv_lt h hi.1 q hj.2; omega
  · have := x_iv_lt h hj.1 (show j < i by omega) hi.2; omega
/-- how many ranges begin up to p -/
def x_cn (n : Int) (a : Int → Int) (p : Int) : Int := p_sum (fun i => if a i ≤ p then 1 else 0) n
theorem x_iv_at {n : Int} {a b : Int → Int} {on : Int → Prop} (h : x_iv n a b on) {i p : Int} (hi : 0 ≤ i ∧ i < n) (hp : a i ≤ p) (hn : i + 1 < n → p < a (i + 1)) : x_cn n a p = i + 1 := by
  unfold x_cn
  refine p_sum_th (fun k k0 k1 => ?_) (fun k k0 k1 => ?_) (by omega)
  · by_cases q : k = i
    · rw [q, if_pos hp]
    · have := x_iv_lt h k0 (show k < i by omega) hi.2
      have := h.2.1 k k0 (by omega)
      rw [if_pos (by omega)]
  · have e := hn (by omega)
    by_cases q : k = i + 1
    · rw [q, if_neg (by omega)]
    · have := x_iv_lt h (i := i + 1) (by omega) (show i + 1 < k by omega) k1
      have := h.2.1 (i + 1) (by omega) (by omega)
      rw [if_neg (by omega)]
theorem x_cn_b {n : Int} {a : Int → Int} {p : Int} (hn : 0 ≤ n) : 0 ≤ x_cn n a p ∧ x_cn n a p ≤ n := by
  have := p_sum_bd (g := fun i => if a i ≤ p then 1 else 0) (b := 1) (n := n) (fun k => by show 0 ≤ (if a k ≤ p then (1 : Int) else 0) ∧ (if a k ≤ p then (1 : Int) else 0) ≤ 1; split <;> omega) hn
  unfold x_cn; omega
theorem x_iv_s {n : Int} {a b : Int → Int} {on : Int → Prop} (h : x_iv n a b on) (p : Int) : x_cn n a p = x_cn n a (p - 1) + @ite Int (on p ∧ ¬ on (p - 1)) (Classical.propDecidable _) 1 0 := by
  obtain ⟨h1, h2, h3, h4⟩ := id h
  by_cases q : ∃ i, (0 ≤ i ∧ i < n) ∧ a i = p
  · obtain ⟨i, i1, i2⟩ := q
    have ai := h2 i i1.1 i1.2
    have on1 : on p ∧ ¬ on (p - 1) := ⟨(h4 p).mpr ⟨i, i1, by omega, by omega⟩, fun z => by
      obtain ⟨j, j1, j2, j3⟩ := (h4 (p - 1)).mp z
      have aj := h2 j j1.1 j1.2
      by_cases e : j < i
      · have := x_iv_lt h j1.1 e i1.2; omega
      · by_cases e2 : i < j
        · have := x_iv_lt h i1.1 e2 j1.2; omega
        · have : i = j := by omega
          subst this; omega⟩
    rw [if_pos on1]
    have e1 : x_cn n a p = i + 1 := x_iv_at h i1 (by omega) (fun z => by have := h3 i i1.1 z; omega)
    have e2 : x_cn n a (p - 1) = i := by
      by_cases e : i = 0
      · unfold x_cn
        rw [e]
        exact p_sum_th (fun k k0 k1 => by omega) (fun k k0 k1 => by
          by_cases ek : k = i
          · rw [ek, if_neg (by omega)]
          · have := x_iv_lt h i1.1 (show i < k by omega) k1
            rw [if_neg (by omega)]) ⟨Int.le_refl _, h1⟩
      · have := h3 (i - 1) (by omega) (by omega)
        have := h2 (i - 1) (by omega) (by omega)
        rw [show i - 1 + 1 = i by omega] at *
        rw [x_iv_at h (i := i - 1) (by omega) (by omega) (fun _ => by rw [show i - 1 + 1 = i by omega]; omega)]
        omega
    omega
  · have no : ¬ (on p ∧ ¬ on (p - 1)) := fun ⟨z1, z2⟩ => by
      obtain ⟨i, i1, i2, i3⟩ := (h4 p).mp z1
      have : a i ≠ p := fun z => q ⟨i, i1, z⟩
      exact z2 ((h4 (p - 1)).mpr ⟨i, i1, by omega, by omega⟩)
    rw [if_neg no]
    have : x_cn n a p = x_cn n a (p - 1) := p_sum_cg h1 (fun k k0 k1 => by
      have : a k ≠ p := fun z => q ⟨k, ⟨k0, k1⟩, z⟩
      by_cases e : a k ≤ p
      · rw [if_pos e, if_pos (by omega)]
      · rw [if_neg e, if_neg (by omega)])
    omega
theorem x_cn_0 {n : Int} {a b : Int → Int} {on : Int → Prop} (h : x_iv n a b on) : x_cn n a 0 = 0 := p_sum_th (fun k k0 k1 => by omega) (fun k k0 k1 => by have := h.2.1 k k0 k1; rw [if_neg (by omega)]) ⟨Int.le_refl _, h.1⟩
theorem x_cn_n {n : Int} {a b : Int → Int} {on : Int → Prop} (h : x_iv n a b on) {p : Int} (hp : 398 ≤ p) : x_cn n a p = n := p_sum_th (fun k k0 k1 => by have := h.2.1 k k0 k1; rw [if_pos (by omega)]) (fun k k0 k1 => by omega) ⟨h.1, Int.le_refl _⟩
noncomputable def x_is (on : Int → Prop) (p : Int) : Int := @ite Int (on p) (Classical.propDecidable _) 1 0
def fr251 (M M' : qM) : Prop := ∀ (k : Nat) (m s : Int), ¬ (k = 117 ∧ m = 0) → M' k m s = M k m s
theorem t251 {d : Nat} {h : qH} (hS : qSe h) {K V G : Int → Int} {t : Int} {M : qM} {F : qM → Prop} (hw : b_wd K V M) (hp : b_pl K G M) (hG : ∀ y, 0 ≤ y → y < 600 → K y ≠ 0 → 1 ≤ G y ∧ G y ≤ 398)
    (H : ∀ M', fr251 M M' → (∀ p, 0 ≤ p → p < 400 → M' 117 0 p = x_is (x_on K V G t 600) p) → F M') : e251 (d + 2) h t M F := by
  refine w251 hS ?_
  refine q_upto (P := fun x => 0 ≤ x → ∀ N, fr251 M N → (∀ p, 0 ≤ p → p < x → N 117 0 p = 0) → b251_2 d h F t x N) (a := 0) (b := 400) (by decide) (fun _ N O z => w251_2 hS ⟨fun q => absurd q (by decide), fun _ => ?_⟩) (fun x x0 x1 ih _ N O z => w251_2 hS ⟨fun _ => ⟨⟨x0, x1⟩, fun N1 f1 => ⟨⟨by omega, by omega⟩, ih (by omega) N1 (fun k m s q => by rw [f1]; unfold qU; rw [if_neg (by omega)]; exact O k m s q) (fun p p0 p1 => ?_)⟩⟩, fun q => absurd x1 q⟩) (Int.le_refl _) M (fun _ _ _ _ => rfl) (fun p a b => by omega)
  · have z0 : ∀ p, 0 ≤ p → p < 400 → N 117 0 p = x_is (x_on K V G t 0) p := fun p a b => by
      rw [z p a b]
      unfold x_is
      rw [if_neg (fun ⟨y, y1, _⟩ => by omega)]
    refine q_upto (P := fun x => 0 ≤ x → ∀ N, fr251 M N → (∀ p, 0 ≤ p → p < 400 → N 117 0 p = x_is (x_on K V G t x) p) → b251_24 d h F t x N) (a := 0) (b := 600) (by decide) (fun _ N O v => w251_24 hS ⟨fun q => absurd q (by decide), fun _ => H N O v⟩) (fun x x0 x1 ih _ N O v => ?_) (Int.le_refl _) N O z0
    have kx := hw x x0 x1
    have skip : ¬ (K x = 4 ∧ V x = t) → ∀ p, 0 ≤ p → p < 400 → N 117 0 p = x_is (x_on K V G t (x + 1)) p := fun nz p a b => by
      rw [v p a b]
      unfold x_is
      have e : x_on K V G t x p ↔ x_on K V G t (x + 1) p := ⟨fun ⟨y, y1, y2⟩ => ⟨y, by omega, y2⟩, fun ⟨y, y1, y2, y3, y4⟩ => by
        by_cases ey : y = x
        · rw [ey] at y2 y3; exact absurd ⟨y2, y3⟩ nz
        · exact ⟨y, by omega, y2, y3, y4⟩⟩
      by_cases q : x_on K V G t x p
      · rw [if_pos q, if_pos (e.mp q)]
      · rw [if_neg q, if_neg (fun z => q (e.mpr z))]
    have nxt : ¬ (K x = 4 ∧ V x = t) → qIn (x + 1) ∧ b251_24 d h F t (x + 1) N := fun nz => ⟨⟨by omega, by omega⟩, ih (by omega) N O (skip nz)⟩
    refine w251_24 hS ⟨fun _ => t205 hS ⟨x0, x1⟩ ⟨fun q => nxt (fun z => ?_), fun q => ⟨⟨x0, x1⟩, fun q4 => ⟨⟨x0, x1⟩, fun qt => ?_, fun qt => nxt (fun z => qt ?_)⟩, fun q4 => nxt (fun z => q4 ?_)⟩⟩, fun q => absurd x1 q⟩
    · rw [O 67 _ _ (by omega)] at q
      have k := kx.1
      by_cases e : x % 20 < M 67 0 (x / 20)
      · rw [if_pos e] at q; exact absurd q (by decide)
      · rw [if_neg e] at k; omega
    · rw [O 67 _ _ (by omega)] at q
      rw [O 70 _ _ (by omega)] at q4
      rw [O 71 _ _ (by omega)] at qt
      have k := kx.1
      have k4 : K x = 4 := by
        by_cases e : x % 20 < M 67 0 (x / 20)
        · rw [if_pos e] at k; omega
        · rw [if_neg e] at q; exact absurd rfl q
      have vt : V x = t := by rw [← kx.2 (by omega)]; exact qt
      have pl := hp x x0 x1 (by omega)
      have g := hG x x0 x1 (by omega)
      refine t206 hS ⟨x0, x1⟩ (by rw [O 93 _ _ (by omega)]; exact pl.1) ?_
      rw [O 93 _ _ (by omega), O 92 _ _ (by omega), pl.2]
      refine ⟨⟨by omega, by omega⟩, fun N1 f1 => ⟨⟨by omega, by omega⟩, ih (by omega) N1 (fun k m s q => by rw [f1]; unfold qU; rw [if_neg (by omega)]; exact O k m s q) (fun p a b => ?_)⟩⟩
      unfold x_is
      by_cases ep : p = G x
      · rw [f1, ep, qU_s, if_pos ⟨x, by omega, k4, vt, rfl⟩]
      · rw [f1, qU_l ep, v p a b]
        unfold x_is
        have e : x_on K V G t x p ↔ x_on K V G t (x + 1) p := ⟨fun ⟨y, y1, y2⟩ => ⟨y, by omega, y2⟩, fun ⟨y, y1, y2, y3, y4⟩ => by
          by_cases ey : y = x
          · rw [ey] at y4; exact absurd y4.symm ep
          · exact ⟨y, by omega, y2, y3, y4⟩⟩
        by_cases q : x_on K V G t x p
        · rw [if_pos q, if_pos (e.mp q)]
        · rw [if_neg q, if_neg (fun z => q (e.mpr z))]
    · rw [O 71 _ _ (by omega), kx.2 (by omega)]; exact z.2
    · rw [O 70 _ _ (by omega)]
      have k := kx.1
      by_cases e : x % 20 < M 67 0 (x / 20)
      · rw [if_pos e] at k; omega
      · rw [if_neg e] at k; omega
  · by_cases e : p = x
    · rw [f1, e, qU_s]
    · rw [f1, qU_l e]; exact z p p0 (by omega)
theorem x_is_b {on : Int → Prop} {p : Int} : (x_is on p = 0 ↔ ¬ on p) ∧ (x_is on p = 0 ∨ x_is on p = 1) := by
  unfold x_is
  by_cases q : on p
  · rw [if_pos q]; exact ⟨⟨fun z => absurd z (by decide), fun z => absurd q z⟩, Or.inr rfl⟩
  · rw [if_neg q]; exact ⟨⟨fun _ => q, fun _ => rfl⟩, Or.inl rfl⟩
theorem t252 {d : Nat} {h : qH} (hS : qSe h) {K V G : Int → Int} {t n : Int} {a b : Int → Int} {M : qM} {F : Int → qM → Prop} (hw : b_wd K V M) (hp : b_pl K G M) (hG : ∀ y, 0 ≤ y → y < 600 → K y ≠ 0 → 1 ≤ G y ∧ G y ≤ 398) (hiv : x_iv n a b (x_on K V G t 600)) (hn : n ≤ 1000)
    (H : ∀ M', fr251 M M' → F n M') : e252 (d + 3) h t M F := by
  refine w252 hS (t251 hS hw hp hG (fun M1 O1 v1 => ?_))
  refine q_upto (P := fun p => 1 ≤ p → b252_9 d h F (.inl t) (x_cn n a (p - 1)) p M1) (a := 1) (b := 400) (by decide) (fun _ => w252_9 hS ⟨fun q => absurd q (by decide), fun _ => by rw [x_cn_n hiv (by decide)]; exact H M1 O1⟩) (fun p p0 p1 ih _ => ?_) (Int.le_refl _) |> fun z => by
    have e : x_cn n a (1 - 1) = 0 := x_cn_0 hiv
    rw [e] at z
    exact z
  have s := x_iv_s hiv p
  have cb := x_cn_b (a := a) (p := p - 1) hiv.1
  have cb2 := x_cn_b (a := a) (p := p) hiv.1
  refine w252_9 hS ⟨fun _ => ⟨⟨by omega, p1⟩, fun _ => ⟨⟨by omega, by omega⟩, by omega, by omega⟩, fun y hy => ?_⟩, fun q => absurd p1 q⟩
  rw [v1 p (by omega) p1, v1 (p - 1) (by omega) (by omega)] at hy
  have x1 := x_is_b (on := x_on K V G t 600) (p := p)
  have x2 := x_is_b (on := x_on K V G t 600) (p := p - 1)
  have ey : y = @ite Int (x_on K V G t 600 p ∧ ¬ x_on K V G t 600 (p - 1)) (Classical.propDecidable _) 1 0 := by
    rw [hy]
    by_cases q1 : x_on K V G t 600 p
    · have z1 : ¬ x_is (x_on K V G t 600) p = 0 := fun z => (x1.1.mp z) q1
      by_cases q2 : x_on K V G t 600 (p - 1)
      · have z2 : ¬ x_is (x_on K V G t 600) (p - 1) = 0 := fun z => (x2.1.mp z) q2
        rw [if_neg z1, if_neg z2, if_neg (fun z => z.2 q2)]
      · rw [if_neg z1, if_pos (x2.1.mpr q2), if_pos ⟨q1, q2⟩]
    · rw [if_pos (x1.1.mpr q1), if_neg (fun z => q1 z.1)]
  rw [← ey] at s
  rw [← s]
  refine ⟨⟨by omega, by omega⟩, ⟨by omega, by omega⟩, ?_⟩
  have := ih (by omega)
  rw [show p + 1 - 1 = p by omega] at this
  exact this
/-- range r of the term, its end or its beginning -/
theorem t255_61 {d : Nat} {h : qH} (hS : qSe h) {on : Int → Prop} {n r ie : Int} {a b : Int → Int} {M : qM} {f : Int → qM → Prop} (u1 u7 : qV) (hiv : x_iv n a b on) (hn : n ≤ 1000) (hr : 0 ≤ r) (v1 : ∀ p, 0 ≤ p → p < 400 → M 117 0 p = x_is on p)
    (H : f (if r < n then (if ie = 0 then a r else b r) else -1) M) : b255_61 d h f u1 r ie 0 (-1) 1 u7 M := by
  let res : Int → Int := fun p => if r < n then (if ie = 0 then (if a r < p then a r else -1) else (if b r < p then b r else -1)) else -1
  have e0 : x_cn n a (1 - 1) = 0 := x_cn_0 hiv
  have r0 : res 1 = -1 := by
    show (if r < n then (if ie = 0 then (if a r < 1 then a r else -1) else (if b r < 1 then b r else -1)) else -1) = -1
    by_cases q : r < n
    · have := hiv.2.1 r hr q
      rw [if_pos q]
      split
      · rw [if_neg (by omega)]
      · rw [if_neg (by omega)]
    · rw [if_neg q]
  have main : ∀ u7, b255_61 d h f u1 r ie (x_cn n a (1 - 1)) (res 1) 1 u7 M := by
    refine q_upto (P := fun p => 1 ≤ p → ∀ u7, b255_61 d h f u1 r ie (x_cn n a (p - 1)) (res p) p u7 M) (a := 1) (b := 399) (by decide) (fun _ u7 => w255_61 hS ⟨fun q => absurd q (by decide), fun _ => ?_⟩) (fun p p0 p1 ih _ u7 => ?_) (Int.le_refl _)
    · have e : res 399 = (if r < n then (if ie = 0 then a r else b r) else -1) := by
        show (if r < n then (if ie = 0 then (if a r < 399 then a r else -1) else (if b r < 399 then b r else -1)) else -1) = _
        by_cases q : r < n
        · have := hiv.2.1 r hr q
          rw [if_pos q, if_pos q]
          by_cases e : ie = 0
          · rw [if_pos e, if_pos e, if_pos (by omega)]
          · rw [if_neg e, if_neg e, if_pos (by omega)]
        · rw [if_neg q, if_neg q]
      rw [e]; exact H
    · have s := x_iv_s hiv p
      have cb := x_cn_b (a := a) (p := p - 1) hiv.1
      have cb2 := x_cn_b (a := a) (p := p) hiv.1
      have x1 := x_is_b (on := on) (p := p)
      have x2 := x_is_b (on := on) (p := p - 1)
      have x3 := x_is_b (on := on) (p := p + 1)
      refine w255_61 hS ⟨fun _ => ⟨⟨by omega, by omega⟩, fun _ => ⟨⟨by omega, by omega⟩, by omega, by omega⟩, fun y hy => ?_⟩, fun q => absurd p1 q⟩
      rw [v1 p (by omega) (by omega), v1 (p - 1) (by omega) (by omega)] at hy
      have ey : y = @ite Int (on p ∧ ¬ on (p - 1)) (Classical.propDecidable _) 1 0 := by
        rw [hy]
        by_cases q1 : on p
        · have z1 : ¬ x_is on p = 0 := fun z => (x1.1.mp z) q1
          by_cases q2 : on (p - 1)
          · have z2 : ¬ x_is on (p - 1) = 0 := fun z => (x2.1.mp z) q2
            rw [if_neg z1, if_neg z2, if_neg (fun z => z.2 q2)]
          · rw [if_neg z1, if_pos (x2.1.mpr q2), if_pos ⟨q1, q2⟩]
        · rw [if_pos (x1.1.mpr q1), if_neg (fun z => q1 z.1)]
      rw [← ey] at s
      rw [← s]
      refine ⟨⟨by omega, by omega⟩, ⟨by omega, by omega⟩, fun _ => ⟨⟨by omega, by omega⟩, fun _ => ⟨fun _ => ⟨⟨by omega, by omega⟩, by omega, by omega⟩, fun _ => ⟨⟨by omega, by omega⟩, by omega, by omega⟩⟩⟩, fun z hz w hw => ⟨⟨by omega, by omega⟩, ?_⟩⟩
      have ih' := ih (by omega)
      rw [show p + 1 - 1 = p by omega] at ih'
      have ew : w = res (p + 1) := by
        rw [v1 p (by omega) (by omega), v1 (p - 1) (by omega) (by omega), v1 (p + 1) (by omega) (by omega)] at hz
        by_cases q1 : on p
        · obtain ⟨i, i1, i2, i3⟩ := (hiv.2.2.2 p).mp q1
          have ci : x_cn n a p = i + 1 := x_iv_at hiv i1 i2 (fun z => by have := hiv.2.2.1 i i1.1 z; omega)
          have z1 : ¬ x_is on p = 0 := fun z => (x1.1.mp z) q1
          rw [if_neg z1, ci] at hz
          have ai := hiv.2.1 i i1.1 i1.2
          by_cases er : i = r
          · subst er
            rw [if_pos (by omega)] at hz
            show w = if i < n then (if ie = 0 then (if a i < p + 1 then a i else -1) else (if b i < p + 1 then b i else -1)) else -1
            rw [if_pos i1.2]
            have rp : res p = if ie = 0 then (if a i < p then a i else -1) else (if b i < p then b i else -1) := by show (if i < n then _ else _) = _; rw [if_pos i1.2]
            by_cases e : ie = 0
            · rw [if_pos e] at hz rp ⊢
              by_cases q2 : on (p - 1)
              · have z2 : ¬ x_is on (p - 1) = 0 := fun z => (x2.1.mp z) q2
                rw [if_neg z2] at hz
                rw [hw, hz, if_pos rfl, rp]
                obtain ⟨j, j1, j2, j3⟩ := (hiv.2.2.2 (p - 1)).mp q2
                have : a i < p := Classical.byContradiction fun zz => by
                  by_cases ej : j < i
                  · have := x_iv_lt hiv j1.1 ej i1.2; omega
                  · by_cases ej2 : i < j
                    · have := x_iv_lt hiv i1.1 ej2 j1.2
                      have := hiv.2.1 j j1.1 j1.2; omega
                    · have : i = j := by omega
                      subst this; omega
                rw [if_pos this, if_pos (by omega)]
              · rw [if_pos (x2.1.mpr q2)] at hz
                rw [hw, hz, if_neg (by decide)]
                have : a i = p := Classical.byContradiction fun zz => q2 ((hiv.2.2.2 (p - 1)).mpr ⟨i, i1, by omega, by omega⟩)
                rw [if_pos (by omega)]; exact this.symm
            · rw [if_neg e] at hz rp ⊢
              by_cases q2 : on (p + 1)
              · have z2 : ¬ x_is on (p + 1) = 0 := fun z => (x3.1.mp z) q2
                rw [if_neg z2] at hz
                rw [hw, hz, if_pos rfl, rp]
                have : p < b i := Classical.byContradiction fun zz => by
                  obtain ⟨j, j1, j2, j3⟩ := (hiv.2.2.2 (p + 1)).mp q2
                  by_cases ej : j < i
                  · have := x_iv_lt hiv j1.1 ej i1.2; omega
                  · by_cases ej2 : i < j
                    · have := x_iv_lt hiv i1.1 ej2 j1.2; omega
                    · have : i = j := by omega
                      subst this; omega
                rw [if_neg (by omega), if_neg (by omega)]
              · rw [if_pos (x3.1.mpr q2)] at hz
                rw [hw, hz, if_neg (by decide)]
                have : b i = p := Classical.byContradiction fun zz => q2 ((hiv.2.2.2 (p + 1)).mpr ⟨i, i1, by omega, by omega⟩)
                rw [if_pos (by omega)]; exact this.symm
          · rw [if_neg (by omega)] at hz
            rw [hw, hz, if_pos rfl]
            show (if r < n then (if ie = 0 then (if a r < p then a r else -1) else (if b r < p then b r else -1)) else -1) = if r < n then (if ie = 0 then (if a r < p + 1 then a r else -1) else (if b r < p + 1 then b r else -1)) else -1
            by_cases qr : r < n
            · have ar := hiv.2.1 r hr qr
              have n1 : a r ≠ p ∧ b r ≠ p := by
                by_cases ej : r < i
                · have := x_iv_lt hiv hr ej i1.2; omega
                · have := x_iv_lt hiv i1.1 (show i < r by omega) qr; omega
              rw [if_pos qr, if_pos qr]
              by_cases e : ie = 0
              · rw [if_pos e, if_pos e]
                by_cases e2 : a r < p
                · rw [if_pos e2, if_pos (by omega)]
                · rw [if_neg e2, if_neg (by omega)]
              · rw [if_neg e, if_neg e]
                by_cases e2 : b r < p
                · rw [if_pos e2, if_pos (by omega)]
                · rw [if_neg e2, if_neg (by omega)]
            · rw [if_neg qr, if_neg qr]
        · rw [if_pos (x1.1.mpr q1)] at hz
          rw [hw, hz, if_pos rfl]
          show (if r < n then (if ie = 0 then (if a r < p then a r else -1) else (if b r < p then b r else -1)) else -1) = if r < n then (if ie = 0 then (if a r < p + 1 then a r else -1) else (if b r < p + 1 then b r else -1)) else -1
          by_cases qr : r < n
          · have ar := hiv.2.1 r hr qr
            have n1 : a r ≠ p ∧ b r ≠ p := ⟨fun z => q1 ((hiv.2.2.2 p).mpr ⟨r, ⟨hr, qr⟩, by omega, by omega⟩), fun z => q1 ((hiv.2.2.2 p).mpr ⟨r, ⟨hr, qr⟩, by omega, by omega⟩)⟩
            rw [if_pos qr, if_pos qr]
            by_cases e : ie = 0
            · rw [if_pos e, if_pos e]
              by_cases e2 : a r < p
              · rw [if_pos e2, if_pos (by omega)]
              · rw [if_neg e2, if_neg (by omega)]
            · rw [if_neg e, if_neg e]
              by_cases e2 : b r < p
              · rw [if_pos e2, if_pos (by omega)]
              · rw [if_neg e2, if_neg (by omega)]
          · rw [if_neg qr, if_neg qr]
      rw [ew]
      exact ih' _
  have m := main u7
  rw [e0, r0] at m
  exact m
