/-! ===== the class between calls; its answers through the law's wrappers ===== -/
def z_lm (M : qM) : Prop := (∀ it i, 0 ≤ M 32 it i ∧ M 32 it i ≤ 8) ∧ ∀ it, 0 ≤ M 5 it 2 ∧ M 5 it 2 ≤ 20
/-- the class' book, measures, edition -/
def z_B (B : pT) (M : qM) : Prop := (c_ok B ∧ c_ok2 B) ∧ (c_bk B M ∧ c_ms B M) ∧ z_lm M ∧ c_ed M
/-- the class is composed -/
def z_x (B : pT) (en : Int) (W : Int → Int) (R : c_R) (L : Int) (M : qM) : Prop := M 10 0 8 = en + 1 ∧ (0 ≤ L ∧ L ≤ 1000) ∧ (∃ ob B1 R1, c_out B W ob B1 R1 (c_p0 B) R) ∧ c_edn B R (c_tot B R L) en M ∧ c_now B W R L M ∧ (M 2 0 10 = 0 ∨ M 2 0 10 = 1) ∧ c_35 B M ∧ c_brk B M
def z_cx (B : pT) (en : Int) (W : Int → Int) (R : c_R) (L : Int) (M : qM) : Prop := z_B B M ∧ (M 10 0 13 = 0 ∨ M 10 0 13 = 1) ∧ (M 10 0 13 ≠ 0 → z_x B en W R L M)
section
variable {B : pT} {M : qM} {c i w : Int}
theorem z_b (h : z_B B M) : (∀ c, 0 ≤ c → c < 3 → M 1 c 1 = B 0 c ∧ 0 ≤ B 0 c ∧ B 0 c ≤ 10) ∧ (∀ x, 0 ≤ x → x < 30 → M 5 (1 + x) 2 = B 3 x ∧ M 5 (1 + x) 0 = B 1 x ∧ 0 ≤ B 3 x ∧ B 3 x ≤ 20) ∧ ∀ c, 0 ≤ c → c < 3 → M 1 c 1 ≤ 10 := by
  obtain ⟨⟨b1, _⟩, ⟨k1, _⟩, _, _⟩ := h
  have e1 := fun c a b => And.intro (k1.1 c a b) (b1.1 c a b).1
  refine ⟨fun c a b => ⟨(e1 c a b).1, (e1 c a b).2.1, (e1 c a b).2.2⟩, fun x a b => ⟨(k1.2.1 x a b).2.2.1, (k1.2.1 x a b).1, (b1.2.1 x).1, (b1.2.1 x).2⟩, fun c a b => by have := e1 c a b; omega⟩
theorem z_it (h : z_B B M) : (0 ≤ c ∧ c < 3) ∧ 0 ≤ i ∧ i < M 1 c 1 ↔ c_it B c i := by
  unfold c_it
  by_cases q : 0 ≤ c ∧ c < 3
  · rw [((z_b h).1 c q.1 q.2).1]
  · exact ⟨fun z => absurd z.1 q, fun z => absurd z.1 q⟩
theorem z_itx (hB : c_ok B) (q : c_it B c i) : (0 ≤ 10 * c + i ∧ 10 * c + i < 30) ∧ (10 * c + i) % 10 < B 0 ((10 * c + i) / 10) ∧ i < 10 := by
  obtain ⟨q1, q2, q3⟩ := q
  have b := (hB.1 c q1.1 q1.2).1
  rw [show (10 * c + i) / 10 = c by omega, show (10 * c + i) % 10 = i by omega]
  exact ⟨⟨by omega, by omega⟩, q3, by omega⟩
theorem z_wo (h : z_B B M) : ((0 ≤ c ∧ c < 3) ∧ 0 ≤ i ∧ i < M 1 c 1) ∧ 0 ≤ w ∧ w < M 5 (1 + 10 * c + i) 2 ↔ c_wo B c i w := by
  unfold c_wo
  rw [z_it h]
  by_cases q : c_it B c i
  · have x := z_itx h.1.1 q
    have b := (z_b h).2.1 (10 * c + i) x.1.1 x.1.2
    rw [show 1 + 10 * c + i = 1 + (10 * c + i) by omega, b.1]
  · exact ⟨fun z => absurd z.1 q, fun z => absurd z.1 q⟩
theorem z_woy (hB : c_ok B) (q : c_wo B c i w) : (0 ≤ 200 * c + 20 * i + w ∧ 200 * c + 20 * i + w < 600) ∧ c_there B (200 * c + 20 * i + w) ∧ (0 ≤ w ∧ w < 20) ∧ (200 * c + 20 * i + w) / 20 = 10 * c + i ∧ (200 * c + 20 * i + w) % 20 = w := by
  obtain ⟨q1, q2, q3⟩ := q
  have x := z_itx hB q1
  have b := hB.2.1 (10 * c + i)
  have e1 : (200 * c + 20 * i + w) / 20 = 10 * c + i := by omega
  have e2 : (200 * c + 20 * i + w) % 20 = w := by omega
  refine ⟨⟨by omega, by omega⟩, ⟨?_, by rw [e1, e2]; exact q3⟩, ⟨q2, by omega⟩, e1, e2⟩
  rw [e1, show (200 * c + 20 * i + w) / 200 = (10 * c + i) / 10 by omega]
  exact x.2.1
end
section
variable {d : Nat} {h : qH} {B : pT} {M : qM} {c i w t p : Int} {g : Nat → qM → Prop}
theorem z_ai {f : Int → qM → Prop} (hS : qSe h) (hb : z_B B M) (H1 : c_it B c i → M 10 0 13 ≠ 0 → f (1 + (10 * c + i)) M) (H2 : c_it B c i → M 10 0 13 = 0 → g 1 M) (H0 : ¬ c_it B c i → g 2 M) : e134 (d + 2) h c i M (fun v M' => e138 (d + 1) h M' (fun M'' => f v M'') g) g :=
  t134 hS (z_b hb).2.2 (fun q => t138 hS (fun m => by rw [show 1 + 10 * c + i = 1 + (10 * c + i) by omega]; exact H1 ((z_it hb).mp q) m) (fun m => H2 ((z_it hb).mp q) m)) (fun q => H0 (fun z => q ((z_it hb).mpr z)))
theorem z_aw {f : qM → Prop} (hS : qSe h) (hb : z_B B M) (H1 : c_wo B c i w → M 10 0 13 ≠ 0 → f M) (H2 : c_wo B c i w → M 10 0 13 = 0 → g 1 M) (H0 : ¬ c_wo B c i w → g 2 M) : e135 (d + 3) h c i w M (fun M' => e138 (d + 1) h M' (fun M'' => f M'') g) g :=
  t135 hS (z_b hb).2.2 (fun q => t138 hS (fun m => H1 ((z_wo hb).mp q) m) (fun m => H2 ((z_wo hb).mp q) m)) (fun q => H0 (fun z => q ((z_wo hb).mpr z)))
theorem z_ac {f : qM → Prop} (hS : qSe h) (H1 : (0 ≤ c ∧ c < 3) → M 10 0 13 ≠ 0 → f M) (H2 : (0 ≤ c ∧ c < 3) → M 10 0 13 = 0 → g 1 M) (H0 : ¬ (0 ≤ c ∧ c < 3) → g 2 M) : e133 (d + 1) h c M (fun M' => e138 (d + 1) h M' (fun M'' => f M'') g) g :=
  t133 hS (fun q => t138 hS (fun m => H1 q m) (fun m => H2 q m)) (fun q => H0 q)
end
/-- what a thrown exception comes to -/
theorem l_g1 {h : qH} {f : Int → qH → qM → Prop} {a c : Bool} {M : qM} (H : f (-7300) (lBh h) M) : l_g h f a true c 1 M := Or.inr (Or.inl ⟨rfl, rfl, H⟩)
theorem l_g2 {h : qH} {f : Int → qH → qM → Prop} {a b : Bool} {M : qM} (H : f (-7100) (lBh h) M) : l_g h f a b true 2 M := Or.inr (Or.inr ⟨rfl, rfl, H⟩)
theorem l_g0 {h : qH} {f : Int → qH → qM → Prop} {b c : Bool} {M : qM} (H : f (-7200) (lBh h) M) : l_g h f true b c 0 M := Or.inl ⟨rfl, rfl, H⟩
section
variable {d : Nat} {h : qH} {B : pT} {en L : Int} {W : Int → Int} {R : c_R} {M : qM} {c i w : Int} {F : Int → qH → qM → Prop}
theorem A161 (hS : qSe h) (hb : z_B B M) (H1 : 0 ≤ c ∧ c < 3 → F (B 0 c) h M) (H0 : ¬ (0 ≤ c ∧ c < 3) → F (-7100) (lBh h) M) : e161 (d + 3) h c M F :=
  W161 (w107 hS (t133 hS (fun q => ⟨q, by rw [((z_b hb).1 c q.1 q.2).1]; exact H1 q⟩) (fun q => l_g2 (H0 q))))
theorem A162 (hS : qSe h) (hb : z_B B M) (H1 : c_it B c i → F (B 3 (10 * c + i)) h M) (H0 : ¬ c_it B c i → F (-7100) (lBh h) M) : e162 (d + 4) h c i M F :=
  W162 (w108 hS (t134 hS (z_b hb).2.2 (fun q => by
    have q' := (z_it hb).mp q
    have x := z_itx hb.1.1 q'
    rw [show 1 + 10 * c + i = 1 + (10 * c + i) by omega, ((z_b hb).2.1 (10 * c + i) x.1.1 x.1.2).1]
    exact H1 q') (fun q => l_g2 (H0 (fun z => q ((z_it hb).mpr z))))))
theorem A163 (hS : qSe h) (hx : z_cx B en W R L M) (H1 : c_wo B c i w → M 10 0 13 ≠ 0 → F (B 6 (200 * c + 20 * i + w) + W (200 * c + 20 * i + w)) h M) (H2 : c_wo B c i w → M 10 0 13 = 0 → F (-7300) (lBh h) M) (H0 : ¬ c_wo B c i w → F (-7100) (lBh h) M) : e163 (d + 5) h c i w M F := by
  refine W163 (w109 hS (z_aw hS hx.1 (fun q m => ?_) (fun q m => l_g1 (H2 q m)) (fun q => l_g2 (H0 q))))
  have x := z_itx hx.1.1.1 q.1
  have y := z_woy hx.1.1.1 q
  have z := hx.2.2 m
  have a := hx.1.2.2.1.1 (1 + (10 * c + i)) w
  have b := z.2.2.2.2.2.2.1.1 (1 + (10 * c + i)) w
  rw [show 1 + 10 * c + i = 1 + (10 * c + i) by omega]
  refine ⟨q.1.1, ⟨q.1.2.1, x.2.2⟩, t47 hS y.2.2.1 ⟨by omega, by omega⟩ ?_⟩
  have e1 := (hx.1.2.1.1.2.2 (200 * c + 20 * i + w) y.1.1 y.1.2).2.2
  have e2 := z.2.2.2.2.1.2.1 (200 * c + 20 * i + w) y.1.1 y.1.2 y.2.1
  rw [y.2.2.2.1, y.2.2.2.2] at e1 e2
  rw [e1, e2]
  exact H1 q m
theorem A164 (hS : qSe h) (hx : z_cx B en W R L M) (H1 : c_it B c i → M 10 0 13 ≠ 0 → F (r_L R (10 * c + i)) h M) (H2 : c_it B c i → M 10 0 13 = 0 → F (-7300) (lBh h) M) (H0 : ¬ c_it B c i → F (-7100) (lBh h) M) : e164 (d + 4) h c i M F := by
  refine W164 (w110 hS (z_ai hS hx.1 (fun q m => ?_) (fun q m => l_g1 (H2 q m)) (fun q => l_g2 (H0 q))))
  have x := z_itx hx.1.1.1 q
  rw [((hx.2.2 m).2.2.2.2.1.1 (10 * c + i) x.1.1 x.1.2).1]
  exact H1 q m
theorem A166 (hS : qSe h) (hx : z_cx B en W R L M) (H1 : c_it B c i → M 10 0 13 ≠ 0 → F (r_C R (10 * c + i)) h M) (H2 : c_it B c i → M 10 0 13 = 0 → F (-7300) (lBh h) M) (H0 : ¬ c_it B c i → F (-7100) (lBh h) M) : e166 (d + 4) h c i M F := by
  refine W166 (w112 hS (z_ai hS hx.1 (fun q m => ?_) (fun q m => l_g1 (H2 q m)) (fun q => l_g2 (H0 q))))
  have x := z_itx hx.1.1.1 q
  rw [((hx.2.2 m).2.2.2.2.1.1 (10 * c + i) x.1.1 x.1.2).2.1]
  exact H1 q m
/-- a line that there is -/
def z_ln (B : pT) (R : c_R) (M : qM) (c i l : Int) : Prop := c_it B c i ∧ 0 ≤ l ∧ (M 10 0 13 ≠ 0 → l < r_L R (10 * c + i))
theorem z_L_b (hB : c_ok B) (z : z_x B en W R L M) (q : c_it B c i) : 1 ≤ r_L R (10 * c + i) ∧ r_L R (10 * c + i) ≤ 20 := by
  have x := z_itx hB q
  obtain ⟨ob, B1, R1, out⟩ := z.2.2.1
  have ln := out.1 (10 * c + i) x.1.1 x.1.2 x.2.1
  by_cases b1 : B 1 (10 * c + i) = 0
  · have n1 : 1 ≤ B 3 (10 * c + i) := by
      rcases hB.2.2.1 (10 * c + i) x.1.1 x.1.2 x.2.1 with y | y
      · omega
      · exact y.2
    have ok := (p_lined_ok n1 (ln.1 b1)).1
    have n20 := hB.2.1 (10 * c + i)
    omega
  · rw [(ln.2 b1).1]; omega
theorem A165 (hS : qSe h) (hx : z_cx B en W R L M) {l : Int} (H1 : z_ln B R M c i l → M 10 0 13 ≠ 0 → F (r_E R (10 * c + i) l) h M) (H2 : z_ln B R M c i l → M 10 0 13 = 0 → F (-7300) (lBh h) M) (H0 : ¬ z_ln B R M c i l → F (-7100) (lBh h) M) : e165 (d + 4) h c i l M F := by
  have hB := hx.1.1.1
  refine W165 (w111 hS (t134 hS (z_b hx.1).2.2 (fun q => ?_) (fun q => l_g2 (H0 (fun z => q ((z_it hx.1).mpr z.1))))))
  have q' := (z_it hx.1).mp q
  have x := z_itx hB q'
  rw [show 1 + 10 * c + i = 1 + (10 * c + i) by omega]
  have go : z_ln B R M c i l → b111_38 d h (fun v M => F v h M) (l_g h F false true true) (.inl c) (.inl i) l (1 + (10 * c + i)) M := fun zl => by
    refine w111_38 hS (t138 hS (fun m => ⟨fun l20 => ⟨zl.2.1, l20⟩, fun v hv => ?_⟩) (fun m => l_g1 (H2 zl m)))
    have zb := z_L_b hB (hx.2.2 m) q'
    have lt := zl.2.2 m
    rw [if_pos (by omega)] at hv
    rw [hv, ((hx.2.2 m).2.2.2.2.1.1 (10 * c + i) x.1.1 x.1.2).2.2 l]
    exact H1 zl m
  refine ⟨fun l0 => w111_28 hS (l_g2 (H0 (fun z => by have := z.2.1; omega))), fun l0 => ⟨fun m => go ⟨q', by omega, fun z => absurd m z⟩, fun m => ?_⟩⟩
  rw [((hx.2.2 m).2.2.2.2.1.1 (10 * c + i) x.1.1 x.1.2).1]
  exact ⟨fun lt => go ⟨q', by omega, fun _ => lt⟩, fun lt => w111_28 hS (l_g2 (H0 (fun z => lt (z.2.2 m))))⟩
theorem z_en (hx : z_cx B en W R L M) : (M 10 0 8 = 0 → False) ∧ (M 10 0 8 < 0 → False) := by
  obtain ⟨e0, h8, he⟩ := hx.1.2.2.2
  exact ⟨fun z => by omega, fun z => by omega⟩
theorem A167 (hS : qSe h) (hx : z_cx B en W R L M) (H1 : 0 ≤ c ∧ c < 3 → M 10 0 13 ≠ 0 → F (p_SR (r_A B R c) (B 0 c)) h M) (H2 : 0 ≤ c ∧ c < 3 → M 10 0 13 = 0 → F (-7300) (lBh h) M) (H0 : ¬ (0 ≤ c ∧ c < 3) → F (-7100) (lBh h) M) : e167 (d + 3) h c M F := by
  refine W167 (w113 hS (z_ac hS (fun q m => ?_) (fun q m => l_g1 (H2 q m)) (fun q => l_g2 (H0 q))))
  have z := hx.2.2 m
  refine ⟨(z_en hx).1, fun _ => ⟨q, ?_⟩, (z_en hx).2⟩
  rw [show M 10 0 8 - 1 = en by have := z.1; omega, (z.2.2.2.1.1 c q.1 q.2).1.1.1]
  exact H1 q m
theorem A174 (hS : qSe h) (hx : z_cx B en W R L M) (H1 : 0 ≤ c ∧ c < 3 → M 10 0 13 ≠ 0 → F (w_co (r_W R c)) h M) (H2 : 0 ≤ c ∧ c < 3 → M 10 0 13 = 0 → F (-7300) (lBh h) M) (H0 : ¬ (0 ≤ c ∧ c < 3) → F (-7100) (lBh h) M) : e174 (d + 3) h c M F := by
  refine W174 (w120 hS (z_ac hS (fun q m => ?_) (fun q m => l_g1 (H2 q m)) (fun q => l_g2 (H0 q))))
  have z := hx.2.2 m
  refine ⟨(z_en hx).1, fun _ => ⟨q, ?_⟩, (z_en hx).2⟩
  rw [show M 10 0 8 - 1 = en by have := z.1; omega, (z.2.2.2.1.1 c q.1 q.2).2.2.2.2]
  exact H1 q m
theorem z_mk (hB : c_ok B) (z : z_x B en W R L M) {c : Int} (hc : 0 ≤ c ∧ c < 3) : (B 0 c ≤ 0 → w_fi (r_W R c) = 0 ∧ w_ct (r_W R c) = 0 ∧ w_wr (r_W R c) = 0 ∧ w_co (r_W R c) = 0) ∧ (0 < B 0 c → (0 < w_fi (r_W R c) ∧ w_fi (r_W R c) + w_ct (r_W R c) ≤ 300) ∧ (0 < w_ct (r_W R c) ∧ w_ct (r_W R c) ≤ 83) ∧ g_pages (p_T (r_A B R c) (B 0 c) (B 8 1)) (w_P (r_W R c)) (w_ct (r_W R c)) (w_wr (r_W R c))) := by
  obtain ⟨ob, B1, R1, out⟩ := z.2.2.1
  have mk := (out.2 c hc.1 hc.2).1
  refine ⟨mk.1, fun q => ?_⟩
  have y := (c_la_st hB out.1 (Int.le_refl _) out.2 c hc.1 hc.2).2 q
  have fl := c_fi_la hB out hc q
  have tb := c_tot_b hB out z.2.1
  exact ⟨⟨(mk.2 q).1, by omega⟩, ⟨by omega, y.2.2.2.2⟩, (mk.2 q).2.2⟩
theorem A171 (hS : qSe h) (hx : z_cx B en W R L M) {b : Int} (H1 : 0 ≤ c ∧ c < 3 → M 10 0 13 ≠ 0 → F (if B 0 c ≤ 0 then -1 else if b = 0 then w_fi (r_W R c) else w_fi (r_W R c) + w_ct (r_W R c) - 1) h M) (H2 : 0 ≤ c ∧ c < 3 → M 10 0 13 = 0 → F (-7300) (lBh h) M) (H0 : ¬ (0 ≤ c ∧ c < 3) → F (-7100) (lBh h) M) : e171 (d + 3) h c b M F := by
  refine W171 (w117 hS (z_ac hS (fun q m => ?_) (fun q m => l_g1 (H2 q m)) (fun q => l_g2 (H0 q))))
  have z := hx.2.2 m
  have mk := z_mk hx.1.1.1 z q
  have ch := z.2.2.2.1.1 c q.1 q.2
  rw [show M 10 0 8 - 1 = en by have := z.1; omega]
  have c8 : M 8 (0 + 3 * en + c) 1 = w_ct (r_W R c) := ch.2.1.1
  have f8 : M 8 (0 + 3 * en + c) 0 = w_fi (r_W R c) := ch.2.2.1
  rw [c8, f8]
  have hF := H1 q m
  refine ⟨(z_en hx).1, fun _ => ⟨q, fun y => ?_, fun y => ?_⟩, (z_en hx).2⟩
  · rw [if_pos (Classical.byContradiction fun k => by have := (mk.2 (by omega)).2.1; omega)] at hF
    exact hF
  · have z0 : 0 < B 0 c := Classical.byContradiction fun k => y (mk.1 (by omega)).2.1
    have mk2 := mk.2 z0
    refine ⟨fun _ => ⟨⟨by omega, by omega⟩, ⟨by omega, by omega⟩⟩, fun x hx' => ?_⟩
    rw [if_neg (by omega)] at hF
    rw [hx']
    exact hF
theorem A168 (hS : qSe h) (H1 : M 10 0 13 ≠ 0 → F (M 2 0 9) h M) (H2 : M 10 0 13 = 0 → F (-7300) (lBh h) M) : e168 (d + 3) h M F :=
  W168 (w114 hS (t138 hS (fun m => H1 m) (fun m => l_g1 (H2 m))))
theorem A176 (hS : qSe h) (hx : z_cx B en W R L M) (H1 : M 10 0 13 ≠ 0 → F (M 2 0 10) h M) (H2 : M 10 0 13 = 0 → F (-7300) (lBh h) M) : e176 (d + 3) h M F := by
  refine W176 (w122 hS (t138 hS (fun m => ?_) (fun m => l_g1 (H2 m))))
  have z := (hx.2.2 m).2.2.2.2.2.1
  have hF := H1 m
  refine ⟨z, fun e => ?_, fun e => ?_⟩
  · rw [e] at hF; exact hF
  · rw [show M 2 0 10 = 1 by omega] at hF; exact hF
theorem A169 (hS : qSe h) (hx : z_cx B en W R L M) (H1 : M 10 0 13 ≠ 0 → F (c_tot B R L) h M) (H2 : M 10 0 13 = 0 → F (-7300) (lBh h) M) : e169 (d + 3) h M F := by
  refine W169 (w115 hS (t138 hS (fun m => ?_) (fun m => l_g1 (H2 m))))
  have z := hx.2.2 m
  refine ⟨(z_en hx).1, fun _ => ?_, (z_en hx).2⟩
  rw [show M 10 0 8 - 1 = en by have := z.1; omega, z.2.2.2.1.2.2.2.2.2]
  exact H1 m
theorem A185 (hS : qSe h) (hx : z_cx B en W R L M) (H1 : M 10 0 13 ≠ 0 → F ((c_tot B R L + 3) / 4) h M) (H2 : M 10 0 13 = 0 → F (-7300) (lBh h) M) : e185 (d + 3) h M F := by
  refine W185 (w131 hS (t138 hS (fun m => ?_) (fun m => l_g1 (H2 m))))
  have z := hx.2.2 m
  obtain ⟨ob, B1, R1, out⟩ := z.2.2.1
  have tb := c_tot_b hx.1.1.1 out z.2.1
  have pb := c_p0_b hx.1.1.1
  refine ⟨(z_en hx).1, fun _ => ?_, (z_en hx).2⟩
  rw [show M 10 0 8 - 1 = en by have := z.1; omega, z.2.2.2.1.2.2.2.2.2]
  exact w144 hS ⟨⟨by omega, by omega⟩, by omega, H1 m⟩
theorem A183 (hS : qSe h) (hx : z_cx B en W R L M) (H1 : M 10 0 13 ≠ 0 → F L h M) (H2 : M 10 0 13 = 0 → F (-7300) (lBh h) M) : e183 (d + 3) h M F := by
  refine W183 (w129 hS (t138 hS (fun m => ?_) (fun m => l_g1 (H2 m))))
  rw [(hx.2.2 m).2.2.2.2.1.2.2.2.2.1]
  exact H1 m
end
