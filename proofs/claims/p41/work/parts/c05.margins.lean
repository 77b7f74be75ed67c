/-! ===== margins: the pure machine ===== -/
/-- where margins stand; the words that wait, how many; where the last one ends -/
abbrev c_Mg : Type := (Int → Int) × (Int → Int) × Int × Int
def mg_p (s : c_Mg) : Int → Int := s.1
def mg_o (s : c_Mg) : Int → Int := s.2.1
def mg_n (s : c_Mg) : Int := s.2.2.1
def mg_e (s : c_Mg) : Int := s.2.2.2
def mg_step (dp pg x hi w : Int) (s : c_Mg) : c_Mg := if mg_e s ≤ b_at w (mg_e s) dp hi then (fun z => if z = x then 100 * pg + b_at w (mg_e s) dp hi else mg_p s z, mg_o s, mg_n s, b_at w (mg_e s) dp hi + hi) else (mg_p s, fun z => if z = mg_n s then x else mg_o s z, mg_n s + 1, mg_e s)
def mg_over (dp pg : Int) (V o : Int → Int) : Nat → c_Mg → c_Mg
  | 0, s => s
  | j + 1, s => mg_step dp pg (o j) (V (o j)) 0 (mg_over dp pg V o j s)
def mg_ws (dp pg : Int) (B : pT) (x0 w : Int) : Nat → c_Mg → c_Mg
  | 0, s => s
  | j + 1, s => if B 4 (x0 + j) = 5 then mg_step dp pg (x0 + j) (B 5 (x0 + j)) w (mg_ws dp pg B x0 w j s) else mg_ws dp pg B x0 w j s
def mg_rows (dp pg : Int) (B : pT) (A : pA) (c a : Int) (pl : Int → Int) : Nat → c_Mg → c_Mg
  | 0, s => s
  | j + 1, s => mg_ws dp pg B (200 * c + 20 * p_ri A (a + j) + p_fr A (a + j)) (pl (a + j)) (p_to A (a + j) - p_fr A (a + j)).toNat (mg_rows dp pg B A c a pl j s)
def mg_min (a b : Int) : Int := if a < b then a else b
def mg_base (T P : pT) (k : Int) : Int := if P 1 k ≤ g_bf P 1 k then 0 else T 4 (g_bf P 1 k + 1) - T 4 (g_bf P 1 k)
def mg_pl (T P : pT) (k r : Int) : Int := mg_base T P k + (r - g_bf P 0 k) + (T 0 (r + 1) - T 0 (g_bf P 0 k + 1)) + mg_min (T 0 (r + 1) - T 0 (g_bf P 0 k + 1)) (P 3 k)
def mg_begin (s : c_Mg) : c_Mg := (mg_p s, mg_o s, 0, 0)
def mg_page (dp : Int) (B : pT) (A : pA) (T P : pT) (fi c k : Int) (s : c_Mg) : c_Mg := mg_rows dp (fi + k) B A c (g_bf P 0 k) (mg_pl T P k) (P 0 k - g_bf P 0 k).toNat (mg_over dp (fi + k) (B 5) (mg_o s) (mg_n s).toNat (mg_begin s))
def mg_pages (dp : Int) (B : pT) (A : pA) (T P : pT) (fi c : Int) : Nat → c_Mg
  | 0 => (fun _ => -1, fun _ => 0, 0, 0)
  | k + 1 => mg_page dp B A T P fi c k (mg_pages dp B A T P fi c k)
/-- words of the chapter that wait; N bounds how many -/
def mg_ok (B : pT) (c N : Int) (s : c_Mg) : Prop := (0 ≤ mg_e s ∧ mg_e s ≤ 14) ∧ (0 ≤ mg_n s ∧ mg_n s ≤ N) ∧ ∀ i, 0 ≤ i → i < mg_n s → (200 * c ≤ mg_o s i ∧ mg_o s i < 200 * c + 200) ∧ c_there B (mg_o s i) ∧ B 4 (mg_o s i) = 5
theorem mg_step_ok {B : pT} {c N dp pg x hi w : Int} {s : c_Mg} (h : mg_ok B c N s) (hdp : 8 ≤ dp ∧ dp ≤ 14) (hhi : 0 ≤ hi) (hx : (200 * c ≤ x ∧ x < 200 * c + 200) ∧ c_there B x ∧ B 4 x = 5) : mg_ok B c (N + 1) (mg_step dp pg x hi w s) ∧ mg_n s ≤ mg_n (mg_step dp pg x hi w s) ∧ mg_n (mg_step dp pg x hi w s) ≤ mg_n s + 1 := by
  obtain ⟨h1, h2, h3⟩ := h
  unfold mg_step
  by_cases q : mg_e s ≤ b_at w (mg_e s) dp hi
  · rw [if_pos q]
    have : b_at w (mg_e s) dp hi ≤ dp - hi := by unfold b_at; split <;> omega
    exact ⟨⟨⟨show 0 ≤ b_at w (mg_e s) dp hi + hi by omega, show b_at w (mg_e s) dp hi + hi ≤ 14 by omega⟩, ⟨h2.1, show mg_n s ≤ N + 1 by omega⟩, h3⟩, Int.le_refl _, show mg_n s ≤ mg_n s + 1 by omega⟩
  · rw [if_neg q]
    refine ⟨⟨h1, ⟨show 0 ≤ mg_n s + 1 by omega, show mg_n s + 1 ≤ N + 1 by omega⟩, fun i i0 i1 => ?_⟩, show mg_n s ≤ mg_n s + 1 by omega, Int.le_refl _⟩
    have i1' : i < mg_n s + 1 := i1
    show (200 * c ≤ (if i = mg_n s then x else mg_o s i) ∧ (if i = mg_n s then x else mg_o s i) < 200 * c + 200) ∧ c_there B (if i = mg_n s then x else mg_o s i) ∧ B 4 (if i = mg_n s then x else mg_o s i) = 5
    by_cases e : i = mg_n s
    · rw [if_pos e]; exact hx
    · rw [if_neg e]; exact h3 i i0 (by omega)
theorem mg_ok_N {B : pT} {c N N' : Int} {s : c_Mg} (h : mg_ok B c N s) (hN : mg_n s ≤ N') : mg_ok B c N' s := ⟨h.1, ⟨h.2.1.1, hN⟩, h.2.2⟩
/-- words ahead of y in chapter c -/
noncomputable def mg_ct (B : pT) (c y : Int) : Int := p_sum (fun z => @ite Int (c_there B z) (Classical.propDecidable _) 1 0) y - p_sum (fun z => @ite Int (c_there B z) (Classical.propDecidable _) 1 0) (200 * c)
theorem mg_ct_mono {B : pT} {c y z : Int} (hy : 0 ≤ y) (hyz : y ≤ z) : mg_ct B c y ≤ mg_ct B c z := by
  have := p_sum_mono (g := fun z => @ite Int (c_there B z) (Classical.propDecidable _) 1 0) (a := y) (b := z) (fun x _ _ => by show 0 ≤ @ite Int (c_there B x) (Classical.propDecidable _) 1 0; split <;> omega) hy hyz
  unfold mg_ct; omega
theorem mg_ct_s {B : pT} {c y : Int} (hy : 0 ≤ y) (ht : c_there B y) : mg_ct B c (y + 1) = mg_ct B c y + 1 := by
  have := p_sum_s (g := fun z => @ite Int (c_there B z) (Classical.propDecidable _) 1 0) hy
  have e : (@ite Int (c_there B y) (Classical.propDecidable _) 1 0) = 1 := if_pos ht
  have e2 : p_sum (fun z => @ite Int (c_there B z) (Classical.propDecidable _) 1 0) (y + 1) = p_sum (fun z => @ite Int (c_there B z) (Classical.propDecidable _) 1 0) y + 1 := by rw [this]; show _ + (@ite Int (c_there B y) (Classical.propDecidable _) 1 0) = _; rw [e]
  unfold mg_ct; omega
theorem mg_ct_60 {B : pT} (hB : c_ok B) {c : Int} (hc : 0 ≤ c ∧ c < 3) : mg_ct B c (200 * (c + 1)) ≤ 60 := by
  obtain ⟨b1, b2, _⟩ := hB
  let g : Int → Int := fun y => @ite Int (c_there B y) (Classical.propDecidable _) 1 0
  have item : ∀ i, 0 ≤ i → i < 10 → p_sum g (20 * (10 * c + i) + 20) = p_sum g (20 * (10 * c + i)) + (if i < B 0 c then B 3 (10 * c + i) else 0) := fun i i0 i1 => by
    rw [p_sum_sh (by omega) (by decide)]
    have b := b2 (10 * c + i)
    have th : ∀ k, 0 ≤ k → k < 20 → (c_there B (20 * (10 * c + i) + k) ↔ i < B 0 c ∧ k < B 3 (10 * c + i)) := fun k a z => by
      unfold c_there
      rw [show (20 * (10 * c + i) + k) / 20 = 10 * c + i by omega, show (20 * (10 * c + i) + k) / 200 = c by omega, show (20 * (10 * c + i) + k) % 20 = k by omega, show (10 * c + i) % 10 = i by omega]
    rw [p_sum_th (g := fun k => g (20 * (10 * c + i) + k)) (t := if i < B 0 c then B 3 (10 * c + i) else 0) (fun k k0 k1 => ?_) (fun k k0 k1 => ?_) (by split <;> omega)]
    · show @ite Int (c_there B _) (Classical.propDecidable _) 1 0 = 1
      have : i < B 0 c := Classical.byContradiction fun z => by rw [if_neg z] at k1; omega
      rw [if_pos this] at k1
      rw [if_pos ((th k k0 (by omega)).mpr ⟨this, k1⟩)]
    · show @ite Int (c_there B _) (Classical.propDecidable _) 1 0 = 0
      rw [if_neg (fun z => by
        have zz := (th k (by split at k0 <;> omega) k1).mp z
        rw [if_pos zz.1] at k0
        omega)]
  have bc := b1 c hc.1 hc.2
  have main : ∀ i : Int, 0 ≤ i → i ≤ 10 → p_sum g (200 * c + 20 * i) = p_sum g (200 * c) + p_sum (fun i => if i < B 0 c then B 3 (10 * c + i) else 0) i := fun i i0 i1 => by
    refine q_upto (P := fun x => 0 ≤ x → x ≤ i → p_sum g (200 * c + 20 * x) = p_sum g (200 * c) + p_sum (fun i => if i < B 0 c then B 3 (10 * c + i) else 0) x → p_sum g (200 * c + 20 * i) = p_sum g (200 * c) + p_sum (fun i => if i < B 0 c then B 3 (10 * c + i) else 0) i) i0 (fun _ _ q => q) (fun x x0 x1 ih _ _ q => ih (by omega) (by omega) ?_) (Int.le_refl _) i0 (by rw [p_sum_0]; simp)
    have it := item x x0 (by omega)
    have s := p_sum_s (g := fun i => if i < B 0 c then B 3 (10 * c + i) else 0) x0
    rw [show 20 * (10 * c + x) + 20 = 200 * c + 20 * (x + 1) by omega, show 20 * (10 * c + x) = 200 * c + 20 * x by omega] at it
    rw [it, q, s]
    show p_sum g (200 * c) + p_sum (fun i => if i < B 0 c then B 3 (10 * c + i) else 0) x + (if x < B 0 c then B 3 (10 * c + x) else 0) = p_sum g (200 * c) + (p_sum (fun i => if i < B 0 c then B 3 (10 * c + i) else 0) x + (if x < B 0 c then B 3 (10 * c + x) else 0))
    omega
  have m := main 10 (by decide) (by decide)
  rw [show 200 * c + 20 * 10 = 200 * (c + 1) by omega] at m
  have gp : p_sum (fun i => if i < B 0 c then B 3 (10 * c + i) else 0) 10 = p_sum (fun i => if i < B 0 c then B 3 (10 * c + i) else 0) (B 0 c) := b_gap bc.1.1 bc.1.2 (fun y a b => if_neg (by omega))
  have cg : p_sum (fun i => if i < B 0 c then B 3 (10 * c + i) else 0) (B 0 c) = p_sum (fun i => B 3 (10 * c + i)) (B 0 c) := p_sum_cg bc.1.1 (fun k a b => if_pos b)
  have e : mg_ct B c (200 * (c + 1)) = p_sum g (200 * (c + 1)) - p_sum g (200 * c) := rfl
  rw [e]
  omega
/-! ===== margins in the class ===== -/
def mg_C (c dp pg : Int) (s : c_Mg) (M : qM) : Prop := (∀ y, 200 * c ≤ y → y < 200 * c + 200 → M 38 0 y = mg_p s y) ∧ (∀ i, 0 ≤ i → i < mg_n s → M 39 0 i = mg_o s i) ∧ M 6 0 2 = mg_n s ∧ M 6 0 5 = mg_e s ∧ M 6 0 4 = dp ∧ M 6 0 3 = pg
theorem t55s {d : Nat} {h : qH} (hS : qSe h) {c dp pg x hi w N : Int} {B : pT} {s : c_Mg} {M : qM} {F : qM → Prop} (hc : 0 ≤ c ∧ c < 3) (hx : 200 * c ≤ x ∧ x < 200 * c + 200) (hhi : 0 ≤ hi ∧ hi ≤ 9) (hw : 0 ≤ w ∧ w ≤ 1000) (hs : mg_C c dp pg s M) (hok : mg_ok B c N s) (hn : mg_n s < 60) (hdp : 8 ≤ dp ∧ dp ≤ 14) (hpg : 0 ≤ pg ∧ pg ≤ 1000)
    (H : ∀ M', (∀ (k : Nat) (m z : Int), ¬ (m = 0 ∧ ((k = 38 ∧ z = x) ∨ (k = 39 ∧ z = mg_n s) ∨ (k = 6 ∧ (z = 2 ∨ z = 5)))) → M' k m z = M k m z) → mg_C c dp pg (mg_step dp pg x hi w s) M' → F M') : e55 (d + 2) h x hi w M F := by
  obtain ⟨s1, s2, s3, s4, s5, s6⟩ := hs
  have h1 := hok.1
  have h2 := hok.2.1
  refine t55 hS (en := mg_e s) (dp := dp) (cn := mg_n s) (pg := pg) ⟨by omega, by omega⟩ ⟨hhi.1, by omega⟩ hw s4 s5 s3 s6 ⟨h1.1, by omega⟩ ⟨by omega, by omega⟩ ⟨h2.1, hn⟩ hpg (fun q M1 O1 v1 v2 => ?_) (fun q M1 O1 v1 v2 => ?_)
  · refine H M1 (fun k m z zz => O1 k m z (by omega)) ?_
    unfold mg_step
    rw [if_pos q]
    refine ⟨fun y a b => ?_, fun i a b => by rw [O1 _ _ _ (by omega)]; exact s2 i a b, by rw [O1 _ _ _ (by omega)]; exact s3, v2, by rw [O1 _ _ _ (by omega)]; exact s5, by rw [O1 _ _ _ (by omega)]; exact s6⟩
    show M1 38 0 y = if y = x then _ else mg_p s y
    by_cases e : y = x
    · rw [if_pos e, e, v1]
    · rw [if_neg e, O1 _ _ _ (by omega)]; exact s1 y a b
  · refine H M1 (fun k m z zz => O1 k m z (by omega)) ?_
    unfold mg_step
    rw [if_neg (by omega)]
    refine ⟨fun y a b => by rw [O1 _ _ _ (by omega)]; exact s1 y a b, fun i a b => ?_, v2, by rw [O1 _ _ _ (by omega)]; exact s4, by rw [O1 _ _ _ (by omega)]; exact s5, by rw [O1 _ _ _ (by omega)]; exact s6⟩
    have b' : i < mg_n s + 1 := b
    show M1 39 0 i = if i = mg_n s then x else mg_o s i
    by_cases e : i = mg_n s
    · rw [if_pos e, e, v1]
    · rw [if_neg e, O1 _ _ _ (by omega)]; exact s2 i a (by omega)
def fr52 (c : Int) (M M' : qM) : Prop := ∀ (k : Nat) (m s : Int), ¬ (m = 0 ∧ ((k = 38 ∧ 200 * c ≤ s ∧ s < 200 * c + 200) ∨ k = 39 ∨ (k = 6 ∧ 2 ≤ s ∧ s ≤ 5))) → M' k m s = M k m s
theorem c_bk_fr52 {B : pT} {c : Int} {M M' : qM} (h : c_bk B M) (O : fr52 c M M') : c_bk B M' := ⟨fun c a b => by rw [O _ _ _ (by omega)]; exact h.1 c a b, fun x a b => by rw [O _ _ _ (by omega), O _ _ _ (by omega), O _ _ _ (by omega), O _ _ _ (by omega)]; exact h.2.1 x a b, fun y a b => by rw [O _ _ _ (by omega), O _ _ _ (by omega), O _ _ _ (by omega)]; exact h.2.2 y a b⟩
theorem mg_over_ok {B : pT} {c dp pg N : Int} {s : c_Mg} (hB : c_ok B) (hdp : 8 ≤ dp ∧ dp ≤ 14) (h : mg_ok B c N s) : ∀ j : Nat, (j : Int) ≤ mg_n s → mg_ok B c j (mg_over dp pg (B 5) (mg_o s) j (mg_begin s))
  | 0, _ => ⟨⟨Int.le_refl _, show (0 : Int) ≤ 14 by decide⟩, ⟨Int.le_refl _, Int.le_refl _⟩, fun i a b => by have : i < 0 := b; omega⟩
  | j + 1, hj => by
    have ih := mg_over_ok (pg := pg) hB hdp h j (by omega)
    have := (mg_step_ok (pg := pg) (hi := B 5 (mg_o s j)) (w := 0) ih hdp (hB.2.2.2.1 _).1 (h.2.2 j (by omega) (by omega))).1
    rw [show ((j + 1 : Nat) : Int) = (j : Int) + 1 by omega]
    exact this
theorem t53 {d : Nat} {h : qH} (hS : qSe h) {B : pT} {c dp pg N : Int} {s : c_Mg} {M : qM} {F : qM → Prop} (hB : c_ok B) (hM : c_bk B M) (hc : 0 ≤ c ∧ c < 3) (hdp : 8 ≤ dp ∧ dp ≤ 14) (hpg : 0 ≤ pg ∧ pg ≤ 1000) (hok : mg_ok B c N s) (hN : N ≤ 60) (h38 : ∀ y, 200 * c ≤ y → y < 200 * c + 200 → M 38 0 y = mg_p s y) (h39 : ∀ i, 0 ≤ i → i < mg_n s → M 39 0 i = mg_o s i) (h2 : M 6 0 2 = mg_n s) (h5 : M 6 0 5 = 0) (h4 : M 6 0 4 = dp) (h3 : M 6 0 3 = pg)
    (H : ∀ M', fr52 c M M' → mg_C c dp pg (mg_over dp pg (B 5) (mg_o s) (mg_n s).toNat (mg_begin s)) M' → F M') : e53 (d + 3) h c M F := by
  have n0 := hok.2.1
  refine w53 hS (fun M1 f1 => ?_)
  rw [h2]
  have O1 : ∀ (k : Nat) (m z : Int), ¬ (k = 6 ∧ m = 0 ∧ z = 2) → M1 k m z = M k m z := fun k m z q => by rw [f1]; unfold qU; rw [if_neg q]
  refine q_upto (P := fun j => 0 ≤ j → ∀ N u4, fr52 c M N → (∀ i, j ≤ i → i < mg_n s → N 39 0 i = mg_o s i) → mg_C c dp pg (mg_over dp pg (B 5) (mg_o s) j.toNat (mg_begin s)) N → b53_12 d h F c (mg_n s) j u4 N) (a := 0) (b := mg_n s) n0.1 (fun _ N u4 O _ sc => w53_12 hS ⟨fun q => by omega, fun _ => H N O sc⟩) (fun j j0 j1 ih _ N2 u4 O ov sc => ?_) (Int.le_refl _) M1 _ (fun k m z q => O1 k m z (by omega)) (fun i a b => by rw [O1 _ _ _ (by omega)]; exact h39 i a b) ⟨fun y a b => by rw [O1 _ _ _ (by omega)]; exact h38 y a b, fun i a b => by have : i < 0 := b; omega, by rw [f1, qU_s]; rfl, by rw [O1 _ _ _ (by omega)]; exact h5, by rw [O1 _ _ _ (by omega)]; exact h4, by rw [O1 _ _ _ (by omega)]; exact h3⟩
  have ok := mg_over_ok (pg := pg) hB hdp hok j.toNat (by omega)
  have wd := hok.2.2 j j0 j1
  have ej := ov j (Int.le_refl _) j1
  have b5 := hB.2.2.2.1 (mg_o s j)
  have okn := ok.2.1
  refine w53_12 hS ⟨fun _ => ?_, fun q => by omega⟩
  rw [ej]
  have e34 : N2 34 (1 + 10 * c + mg_o s j / 20 % 10) (mg_o s j % 20) = B 5 (mg_o s j) := by
    have := ((c_bk_fr52 hM O).2.2 (mg_o s j) (by omega) (by omega)).2.1
    rw [show 1 + 10 * c + mg_o s j / 20 % 10 = 1 + mg_o s j / 20 by omega]
    exact this
  rw [e34]
  refine ⟨⟨j0, by omega⟩, by omega, by omega, ⟨by omega, by omega⟩, by omega, ⟨by omega, by omega⟩, ?_⟩
  refine t55s hS hc wd.1 b5 ⟨Int.le_refl _, by decide⟩ sc ok (by omega) hdp hpg (fun M3 O3 sc3 => ⟨⟨by omega, by omega⟩, ih (by omega) M3 _ (fun k m z q => by rw [O3 k m z (by omega)]; exact O k m z q) (fun i a b => by rw [O3 _ _ _ (by omega)]; exact ov i (by omega) b) ?_⟩)
  rw [show (j + 1).toNat = j.toNat + 1 by omega]
  show mg_C c dp pg (mg_step dp pg (mg_o s (j.toNat : Int)) (B 5 (mg_o s (j.toNat : Int))) 0 (mg_over dp pg (B 5) (mg_o s) j.toNat (mg_begin s))) M3
  rw [show ((j.toNat : Nat) : Int) = j by omega]
  exact sc3
