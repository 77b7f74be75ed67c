/-! ===== sums of words of a kind ===== -/
def y_wg (K V : Int → Int) (t w : Int) : Int := if t = -1 then 1 else if K w = t then (if t = 2 then V w else 1) else 0
def y_ws (K V : Int → Int) (t n : Int) : Int := p_sum (y_wg K V t) n
theorem y_ws_cg {K V K' V' : Int → Int} {t n : Int} (hn : 0 ≤ n) (h : ∀ w, 0 ≤ w → w < n → K' w = K w ∧ V' w = V w) : y_ws K' V' t n = y_ws K V t n := by
  refine p_sum_cg hn (fun w a b => ?_)
  show y_wg K' V' t w = y_wg K V t w
  unfold y_wg
  rw [(h w a b).1, (h w a b).2]
theorem y_wg_b {K V : Int → Int} {t w : Int} (h : 0 ≤ V w ∧ V w ≤ 9) : 0 ≤ y_wg K V t w ∧ y_wg K V t w ≤ 9 := by
  unfold y_wg
  repeat' split
  all_goals omega
theorem y_ws_b {K V : Int → Int} {t n : Int} (hn : 0 ≤ n) (h : ∀ w, 0 ≤ w → w < n → 0 ≤ V w ∧ V w ≤ 9) : 0 ≤ y_ws K V t n ∧ y_ws K V t n ≤ 9 * n := by
  refine q_upto (P := fun x => 0 ≤ x → (0 ≤ p_sum (y_wg K V t) x ∧ p_sum (y_wg K V t) x ≤ 9 * x) → (0 ≤ p_sum (y_wg K V t) n ∧ p_sum (y_wg K V t) n ≤ 9 * n)) hn (fun _ q => q) (fun x x0 x1 ih _ q => ih (by omega) ?_) (Int.le_refl _) (by rw [p_sum_0]; omega)
  have := y_wg_b (K := K) (t := t) (h x x0 x1)
  rw [p_sum_s x0]; omega
def y_item (B : pT) (t x : Int) : Int := y_ws (fun w => B 4 (20 * x + w)) (fun w => B 5 (20 * x + w)) t (B 3 x)
def y_cg (B : pT) (t c but i : Int) : Int := if i = but then 0 else y_item B t (10 * c + i)
def y_cs (B : pT) (t c but : Int) : Int := p_sum (y_cg B t c but) (B 0 c)
theorem y_item_b {B : pT} {t x : Int} (h : c_ok B) : 0 ≤ y_item B t x ∧ y_item B t x ≤ 180 := by
  have n := h.2.1 x
  have := y_ws_b (K := fun w => B 4 (20 * x + w)) (V := fun w => B 5 (20 * x + w)) (t := t) (n := B 3 x) n.1 (fun w _ _ => h.2.2.2.1 _)
  unfold y_item
  omega
theorem y_cg_b {B : pT} {t c but i : Int} (h : c_ok B) : 0 ≤ y_cg B t c but i ∧ y_cg B t c but i ≤ 180 := by
  have := y_item_b (t := t) (x := 10 * c + i) h
  unfold y_cg
  split <;> omega
theorem y_cs_b {B : pT} {t c but x : Int} (h : c_ok B) (hx : 0 ≤ x ∧ x ≤ 10) : 0 ≤ p_sum (y_cg B t c but) x ∧ p_sum (y_cg B t c but) x ≤ 180 * x := p_sum_bd (fun k => y_cg_b h) hx.1
/-- an item of the class, and of the model, has its words -/
theorem y_it_c {B : pT} {M : qM} {t x : Int} (h : c_bk B M) (hB : c_ok B) (hx : 0 ≤ x ∧ x < 30) : y_ws (M 33 (1 + x)) (M 34 (1 + x)) t (M 5 (1 + x) 2) = y_item B t x := by
  have n := hB.2.1 x
  rw [(h.2.1 x hx.1 hx.2).2.2.1]
  refine y_ws_cg n.1 (fun w w0 w1 => ?_)
  have z := h.2.2 (20 * x + w) (by omega) (by omega)
  rw [show (20 * x + w) / 20 = x by omega, show (20 * x + w) % 20 = w by omega] at z
  exact ⟨z.1, z.2.1⟩
theorem t48 {d : Nat} {h : qH} (hS : qSe h) {it t : Int} {M : qM} {f : Int → qM → Prop} (ht : t ≠ -1) (hn : 0 ≤ M 5 it 2 ∧ M 5 it 2 ≤ 20) (hb : ∀ w, 0 ≤ w → w < M 5 it 2 → 0 ≤ M 34 it w ∧ M 34 it w ≤ 9) (H : f (y_ws (M 33 it) (M 34 it) t (M 5 it 2)) M) : e48 (d + 1) h it t M f := by
  have bd := fun (x : Int) (x0 : 0 ≤ x) (x1 : x ≤ M 5 it 2) => y_ws_b (K := M 33 it) (V := M 34 it) (t := t) x0 (fun w a b => hb w a (by omega))
  refine w48 hS ?_
  refine q_upto (P := fun x => 0 ≤ x → b48_4 d h f it t (y_ws (M 33 it) (M 34 it) t x) x M) (a := 0) (b := M 5 it 2) hn.1 (fun _ => w48_4 hS ⟨fun q => by omega, fun _ => H⟩) (fun x x0 x1 ih _ => w48_4 hS ⟨fun _ => ?_, fun q => by omega⟩) (Int.le_refl _)
  have b0 := bd x x0 (by omega)
  have b1 := bd (x + 1) (by omega) (by omega)
  have vb := hb x x0 x1
  have s : y_ws (M 33 it) (M 34 it) t (x + 1) = y_ws (M 33 it) (M 34 it) t x + y_wg (M 33 it) (M 34 it) t x := p_sum_s x0
  refine ⟨⟨x0, by omega⟩, fun _ => ⟨fun _ => ⟨⟨x0, by omega⟩, ⟨by omega, by omega⟩⟩, fun _ => ⟨by omega, by omega⟩⟩, fun y hy => ⟨⟨by omega, by omega⟩, ?_⟩⟩
  have e : y = y_ws (M 33 it) (M 34 it) t (x + 1) := by
    rw [hy, s]
    unfold y_wg
    rw [if_neg ht]
    repeat' split
    all_goals omega
  rw [e]
  exact ih (by omega)
theorem t7 {d : Nat} {h : qH} (hS : qSe h) {c t but : Int} {B : pT} {M : qM} {f : Int → qM → Prop} (ht : t ≠ -1) (hB : c_ok B) (hM : c_bk B M) (hc : 0 ≤ c ∧ c < 3) (H : f (y_cs B t c but) M) : e7 (d + 2) h c t but M f := by
  have n10 := (hB.1 c hc.1 hc.2).1
  have e1 := hM.1 c hc.1 hc.2
  refine w7 hS ?_
  refine q_upto (P := fun i => 0 ≤ i → b7_5 d h f c t but (p_sum (y_cg B t c but) i) i M) (a := 0) (b := B 0 c) n10.1 (fun _ => w7_5 hS ⟨fun q => by omega, fun _ => H⟩) (fun i i0 i1 ih _ => w7_5 hS ⟨fun _ => ⟨fun q => ?_, fun q => ?_⟩, fun q => by omega⟩) (Int.le_refl _)
  · have b0 := y_cs_b (t := t) (c := c) (but := but) hB (x := i) ⟨i0, by omega⟩
    have s : p_sum (y_cg B t c but) (i + 1) = p_sum (y_cg B t c but) i + 0 := by
      rw [p_sum_s i0]; unfold y_cg; rw [if_pos q]
    rw [← s]
    exact ⟨by rw [s]; exact ⟨by omega, by omega⟩, ⟨by omega, by omega⟩, ih (by omega)⟩
  · have b1 := y_cs_b (t := t) (c := c) (but := but) hB (x := i + 1) ⟨by omega, by omega⟩
    refine ⟨⟨i0, by omega⟩, ?_⟩
    rw [show 1 + 10 * c + i = 1 + (10 * c + i) by omega]
    have n20 := hB.2.1 (10 * c + i)
    have e5 := (hM.2.1 (10 * c + i) (by omega) (by omega)).2.2.1
    refine t48 hS ht (by rw [e5]; exact n20) (fun w w0 w1 => ?_) ?_
    · have z := (hM.2.2 (20 * (10 * c + i) + w) (by omega) (by omega)).2.1
      rw [show (20 * (10 * c + i) + w) / 20 = 10 * c + i by omega, show (20 * (10 * c + i) + w) % 20 = w by omega] at z
      rw [z]; exact hB.2.2.2.1 _
    · rw [y_it_c hM hB ⟨by omega, by omega⟩]
      have s : p_sum (y_cg B t c but) (i + 1) = p_sum (y_cg B t c but) i + y_item B t (10 * c + i) := by
        rw [p_sum_s i0]; unfold y_cg; rw [if_neg q]
      rw [← s]
      exact ⟨⟨by omega, by omega⟩, ⟨by omega, by omega⟩, ih (by omega)⟩
theorem y_item_w {B : pT} {x : Int} (h : c_ok B) : y_item B (-1) x = B 3 x := by
  have n := h.2.1 x
  show p_sum (y_wg _ _ (-1)) (B 3 x) = B 3 x
  refine q_upto (P := fun z => 0 ≤ z → p_sum (y_wg (fun w => B 4 (20 * x + w)) (fun w => B 5 (20 * x + w)) (-1)) z = z → p_sum (y_wg (fun w => B 4 (20 * x + w)) (fun w => B 5 (20 * x + w)) (-1)) (B 3 x) = B 3 x) n.1 (fun _ q => q) (fun z z0 z1 ih _ q => ih (by omega) ?_) (Int.le_refl _) p_sum_0
  rw [p_sum_s z0, q]
  unfold y_wg
  rw [if_pos rfl]
theorem t6 {d : Nat} {h : qH} (hS : qSe h) {c but : Int} {B : pT} {M : qM} {f : Int → qM → Prop} (hB : c_ok B) (hM : c_bk B M) (hc : 0 ≤ c ∧ c < 3) (H : f (y_cs B (-1) c but) M) : e6 (d + 1) h c but M f := by
  have n10 := (hB.1 c hc.1 hc.2).1
  have e1 := hM.1 c hc.1 hc.2
  refine w6 hS ?_
  refine q_upto (P := fun i => 0 ≤ i → b6_4 d h f c but (p_sum (y_cg B (-1) c but) i) i M) (a := 0) (b := B 0 c) n10.1 (fun _ => w6_4 hS ⟨fun q => by omega, fun _ => H⟩) (fun i i0 i1 ih _ => w6_4 hS ⟨fun _ => ?_, fun q => by omega⟩) (Int.le_refl _)
  have b1 := y_cs_b (t := -1) (c := c) (but := but) hB (x := i + 1) ⟨by omega, by omega⟩
  refine ⟨fun _ => ⟨i0, by omega⟩, fun y hy => ?_⟩
  have s : p_sum (y_cg B (-1) c but) (i + 1) = p_sum (y_cg B (-1) c but) i + y := by
    rw [p_sum_s i0, hy]
    unfold y_cg
    split
    · rfl
    · rw [y_item_w hB, show 1 + 10 * c + i = 1 + (10 * c + i) by omega, (hM.2.1 (10 * c + i) (by omega) (by omega)).2.2.1]
  rw [← s]
  exact ⟨⟨by omega, by omega⟩, ⟨by omega, by omega⟩, ih (by omega)⟩
