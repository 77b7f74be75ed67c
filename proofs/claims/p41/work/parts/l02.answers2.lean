/-! ===== the class' answers on pages, texts and the index ===== -/
/-- a page that there is -/
def z_pg (B : pT) (R : c_R) (L : Int) (M : qM) (p : Int) : Prop := 1 ≤ p ∧ (M 10 0 13 ≠ 0 → p ≤ c_tot B R L)
/-- the kind of a page -/
def z_kd (B : pT) (R : c_R) (p v : Int) : Prop := (p ≤ c_p0 B ∧ v = 3) ∨ (c_p0 B < p ∧ (0 ≤ v ∧ v < 3) ∧ (w_fi (r_W R v) ≤ p ∧ p < w_fi (r_W R v) + w_ct (r_W R v))) ∨ (c_p0 B < p ∧ (∀ c, 0 ≤ c → c < 3 → ¬ (w_fi (r_W R c) ≤ p ∧ p < w_fi (r_W R c) + w_ct (r_W R c))) ∧ v = if p ≤ c_lal B R then 4 else 5)
section
variable {d : Nat} {h : qH} {B : pT} {en L : Int} {W : Int → Int} {R : c_R} {M : qM} {c i w p : Int} {F : Int → qH → qM → Prop}
theorem z_ap {f : qM → Prop} {g : Nat → qM → Prop} (hS : qSe h) (hx : z_cx B en W R L M) (H1 : z_pg B R L M p → M 10 0 13 ≠ 0 → f M) (H2 : z_pg B R L M p → M 10 0 13 = 0 → g 1 M) (H0 : ¬ z_pg B R L M p → g 2 M) : e137 (d + 1) h p M (fun M' => e138 (d + 1) h M' (fun M'' => f M'') g) g := by
  obtain ⟨e0, h8, he⟩ := hx.1.2.2.2
  have eq : 1 ≤ p ∧ (M 10 0 13 ≠ 0 → p ≤ M 3 e0 5) ↔ z_pg B R L M p := by
    unfold z_pg
    by_cases m : M 10 0 13 = 0
    · exact ⟨fun z => ⟨z.1, fun q => absurd m q⟩, fun z => ⟨z.1, fun q => absurd m q⟩⟩
    · have z := hx.2.2 m
      have e : e0 = en := by have := z.1; omega
      rw [e, z.2.2.2.1.2.2.2.2.2]
  exact t137 hS h8 (by omega) (fun q => t138 hS (fun m => H1 (eq.mp q) m) (fun m => H2 (eq.mp q) m)) (fun q => H0 (fun z => q (eq.mpr z)))
theorem z_8 (hB : c_ok B) (z : z_x B en W R L M) : ∀ c, 0 ≤ c → c < 3 → M 8 (0 + 3 * en + c) 0 = w_fi (r_W R c) ∧ M 8 (0 + 3 * en + c) 1 = w_ct (r_W R c) ∧ (0 ≤ w_fi (r_W R c) ∧ w_fi (r_W R c) ≤ 1000) ∧ 0 ≤ w_ct (r_W R c) ∧ w_ct (r_W R c) ≤ 1000 := fun c c0 c3 => by
  have ch := z.2.2.2.1.1 c c0 c3
  have mk := z_mk hB z ⟨c0, c3⟩
  refine ⟨ch.2.2.1, ch.2.1.1, ?_⟩
  by_cases q : 0 < B 0 c
  · have := mk.2 q; omega
  · have := mk.1 (by omega); omega
theorem z_27 {f : Int → qM → Prop} (hS : qSe h) (hB : c_ok B) (z : z_x B en W R L M) (H : ∀ v, z_kd B R p v → f v M) : e27 (d + 1) h en p M f := by
  refine t27 hS (fi := fun c => w_fi (r_W R c)) (ct := fun c => w_ct (r_W R c)) (z_8 hB z) (fun v hv => ?_)
  have e3 : M 3 en 3 = c_p0 B := z.2.2.2.1.2.2.2.1.2.2.2
  have e4 : M 3 en 4 = c_lal B R := z.2.2.2.1.2.1
  rw [e3, e4] at hv
  exact H v hv
theorem A170 (hS : qSe h) (hx : z_cx B en W R L M) (H1 : z_pg B R L M p → M 10 0 13 ≠ 0 → ∀ v, z_kd B R p v → F v h M) (H2 : z_pg B R L M p → M 10 0 13 = 0 → F (-7300) (lBh h) M) (H0 : ¬ z_pg B R L M p → F (-7100) (lBh h) M) : e170 (d + 3) h p M F := by
  refine W170 (w116 hS (z_ap hS hx (fun q m => ?_) (fun q m => l_g1 (H2 q m)) (fun q => l_g2 (H0 q))))
  have z := hx.2.2 m
  refine ⟨(z_en hx).1, fun _ => ?_, (z_en hx).2⟩
  rw [show M 10 0 8 - 1 = en by have := z.1; omega]
  exact z_27 hS hx.1.1.1 z (fun v hv => H1 q m v hv)
/-- rows of a chapter -/
def z_rw (B : pT) (R : c_R) (M : qM) (c r : Int) : Prop := (0 ≤ c ∧ c < 3) ∧ 0 ≤ r ∧ (M 10 0 13 ≠ 0 → r < p_SR (r_A B R c) (B 0 c))
theorem A172 {r : Int} (hS : qSe h) (hx : z_cx B en W R L M) (H1 : z_rw B R M c r → M 10 0 13 ≠ 0 → ∀ k, (0 ≤ k ∧ k < w_ct (r_W R c)) → g_bf (w_P (r_W R c)) 0 k ≤ r → r < w_P (r_W R c) 0 k → F (w_fi (r_W R c) + k) h M) (H2 : z_rw B R M c r → M 10 0 13 = 0 → F (-7300) (lBh h) M) (H0 : ¬ z_rw B R M c r → F (-7100) (lBh h) M) : e172 (d + 3) h c r M F := by
  have hB := hx.1.1.1
  have go : z_rw B R M c r → b118_42 d h (fun v M => F v h M) (l_g h F false true true) c r M := fun q => by
    refine w118_42 hS (t138 hS (fun m => ?_) (fun m => l_g1 (H2 q m)))
    have z := hx.2.2 m
    have hc := q.1
    have ch := z.2.2.2.1.1 c hc.1 hc.2
    have mk := z_mk hB z hc
    have r1 := q.2.2 m
    have N0 : 0 < B 0 c := Classical.byContradiction fun y => by
      have b := (hB.1 c hc.1 hc.2).1
      have e0 : B 0 c = 0 := by omega
      rw [e0] at r1
      have : p_SR (r_A B R c) 0 = 0 := rfl
      have := q.2.1
      omega
    have mk2 := mk.2 N0
    refine ⟨(z_en hx).1, fun _ => ⟨hc, ?_⟩, (z_en hx).2⟩
    rw [show M 10 0 8 - 1 = en by have := z.1; omega]
    refine t85 hS (P := w_P (r_W R c)) ch.2.1 ⟨by omega, by omega⟩ ch.2.2.1 ⟨by omega, by omega⟩ (fun k hk => ?_)
    have pg := mk2.2.2
    have e8 : p_T (r_A B R c) (B 0 c) (B 8 1) 8 0 = p_SR (r_A B R c) (B 0 c) := rfl
    have q0 := q.2.1
    have kb : (0 ≤ k ∧ k < w_ct (r_W R c)) ∧ r < w_P (r_W R c) 0 k ∧ ∀ t, 0 ≤ t → t < k → ¬ r < w_P (r_W R c) 0 t := by
      rcases hk with hk | hk
      · exfalso
        have w0 := pg.2.2.2.1 (w_wr (r_W R c)) (Int.le_refl _) pg.1.2.1
        by_cases zw : w_wr (r_W R c) ≤ 0
        · have : g_bf (w_P (r_W R c)) 0 (w_wr (r_W R c)) = 0 := if_pos zw
          omega
        · have e1 : g_bf (w_P (r_W R c)) 0 (w_wr (r_W R c) - 1 + 1) = w_P (r_W R c) 0 (w_wr (r_W R c) - 1) := g_bf_s (by omega)
          rw [show w_wr (r_W R c) - 1 + 1 = w_wr (r_W R c) by omega] at e1
          exact hk.2 (w_wr (r_W R c) - 1) (by omega) (by have := pg.1.2.1; omega) (by omega)
      · exact hk
    have bf : g_bf (w_P (r_W R c)) 0 k ≤ r := by
      by_cases y : k ≤ 0
      · have : g_bf (w_P (r_W R c)) 0 k = 0 := if_pos y
        omega
      · have e1 : g_bf (w_P (r_W R c)) 0 k = w_P (r_W R c) 0 (k - 1) := if_neg y
        have := kb.2.2 (k - 1) (by omega) (by omega)
        omega
    rw [if_neg (by omega)]
    exact H1 q m k kb.1 bf kb.2.1
  refine W172 (w118 hS (t133 hS (fun q => ⟨fun r0 => w118_32 hS (l_g2 (H0 (fun z => by have := z.2.1; omega))), fun r0 => ⟨fun m => go ⟨q, by omega, fun z => absurd m z⟩, fun m => ?_⟩⟩) (fun q => l_g2 (H0 (fun z => q z.1)))))
  have z := hx.2.2 m
  have ch := (z.2.2.2.1.1 c q.1 q.2).1.1.1
  refine ⟨(z_en hx).1, fun _ => ⟨q, ?_⟩, (z_en hx).2⟩
  rw [show M 10 0 8 - 1 = en by have := z.1; omega, ch]
  exact ⟨fun y => go ⟨q, by omega, fun _ => y⟩, fun y => w118_32 hS (l_g2 (H0 (fun k => y (k.2.2 m))))⟩
/-- what is told of a page -/
def z_tell (R : c_R) (p v z : Int) : Int := if v < 3 then y_tell (w_P (r_W R v)) (p - w_fi (r_W R v)) z else 0
theorem z_kd3 {v : Int} (hv : z_kd B R p v) (v3 : v < 3) : c_p0 B < p ∧ (0 ≤ v ∧ v < 3) ∧ (w_fi (r_W R v) ≤ p ∧ p < w_fi (r_W R v) + w_ct (r_W R v)) := by
  rcases hv with z | z | z
  · omega
  · exact z
  · have := z.2.2; split at this <;> omega
theorem z_N (hB : c_ok B) (z : z_x B en W R L M) {v : Int} (hv : z_kd B R p v) (v3 : v < 3) : 0 < B 0 v ∧ (0 ≤ p - w_fi (r_W R v) ∧ p - w_fi (r_W R v) < w_ct (r_W R v)) ∧ (∀ j, 0 ≤ j → j < w_ct (r_W R v) → (0 ≤ g_bf (w_P (r_W R v)) 0 j ∧ g_bf (w_P (r_W R v)) 0 j ≤ w_P (r_W R v) 0 j ∧ w_P (r_W R v) 0 j ≤ p_SR (r_A B R v) (B 0 v)) ∧ (0 ≤ w_P (r_W R v) 0 j ∧ w_P (r_W R v) 0 j ≤ 70) ∧ (0 ≤ w_P (r_W R v) 1 j ∧ w_P (r_W R v) 1 j ≤ 4) ∧ 0 ≤ w_P (r_W R v) 2 j ∧ w_P (r_W R v) 2 j ≤ 12) := by
  have r1 := z_kd3 hv v3
  obtain ⟨ob, B1, R1, out⟩ := z.2.2.1
  have N0 : 0 < B 0 v := Classical.byContradiction fun y => by
    have := (z_mk hB z r1.2.1).1 (by omega); omega
  have ok : p_okB (r_A B R v) (B 0 v) := c_okB hB out.1 r1.2.1
  refine ⟨N0, ⟨by omega, by omega⟩, fun j j0 j1 => ?_⟩
  have b := c_pgb hB out r1.2.1 j j0 j1
  have o1 := ok.1.2.2.1
  have o2 := ok.1.2.2.2.1
  have o3 := ok.2.2
  exact ⟨b.2.1, by omega, by omega, by omega⟩
theorem A173 {a : Int} (hS : qSe h) (hx : z_cx B en W R L M) (H1 : z_pg B R L M p → (0 ≤ a ∧ a ≤ 4) → M 10 0 13 ≠ 0 → ∀ v, z_kd B R p v → F (z_tell R p v a) h M) (H2 : z_pg B R L M p → (0 ≤ a ∧ a ≤ 4) → M 10 0 13 = 0 → F (-7300) (lBh h) M) (H3 : z_pg B R L M p → ¬ (0 ≤ a ∧ a ≤ 4) → F (-7200) (lBh h) M) (H0 : ¬ z_pg B R L M p → F (-7100) (lBh h) M) : e173 (d + 4) h p a M F := by
  have hB := hx.1.1.1
  obtain ⟨e0, h8, he⟩ := hx.1.2.2.2
  have eq : 1 ≤ p ∧ (M 10 0 13 ≠ 0 → p ≤ M 3 e0 5) ↔ z_pg B R L M p := by
    unfold z_pg
    by_cases m : M 10 0 13 = 0
    · exact ⟨fun z => ⟨z.1, fun q => absurd m q⟩, fun z => ⟨z.1, fun q => absurd m q⟩⟩
    · have z := hx.2.2 m
      have e : e0 = en := by have := z.1; omega
      rw [e, z.2.2.2.1.2.2.2.2.2]
  refine W173 (w119 hS (t137 hS h8 (by omega) (fun q => ⟨fun a0 => w119_14 hS (l_g0 (H3 (eq.mp q) (by omega))), fun a0 => ⟨fun a1 => t138 hS (fun m => ?_) (fun m => l_g1 (H2 (eq.mp q) ⟨by omega, a1⟩ m)), fun a1 => w119_14 hS (l_g0 (H3 (eq.mp q) (by omega)))⟩⟩) (fun q => l_g2 (H0 (fun z => q (eq.mpr z))))))
  have z := hx.2.2 m
  have e : M 10 0 8 - 1 = en := by have := z.1; omega
  refine ⟨(z_en hx).1, fun _ => ?_, (z_en hx).2⟩
  rw [e]
  refine z_27 hS hB z (fun v hv => ?_)
  have hF := H1 (eq.mp q) ⟨by omega, a1⟩ m v hv
  unfold z_tell at hF
  refine ⟨fun v3 => ?_, fun v3 => by rw [if_neg v3] at hF; exact hF⟩
  rw [if_pos v3] at hF
  have r1 := z_kd3 hv v3
  have yn := z_N hB z hv v3
  have ch := z.2.2.2.1.1 v r1.2.1.1 r1.2.1.2
  have mk := (z_mk hB z r1.2.1).2 yn.1
  have f8 : M 8 (0 + 3 * en + v) 0 = w_fi (r_W R v) := ch.2.2.1
  refine ⟨(z_en hx).1, fun _ => ⟨r1.2.1, (z_en hx).1, fun _ => ⟨r1.2.1, ?_⟩, (z_en hx).2⟩, (z_en hx).2⟩
  rw [e, f8]
  exact ⟨⟨by omega, by omega⟩, t86 hS (P := w_P (r_W R v)) ch.2.1 ⟨yn.2.1.1, yn.2.1.2, by omega⟩ (fun j j0 j1 => (yn.2.2 j j0 j1).2) ⟨by omega, a1⟩ hF⟩
/-- the running head of a page -/
def z_hd (B : pT) (R : c_R) (p v b x : Int) : Prop := (v < 3 → ∃ f l q, h_fp (r_A B R v) (g_bf (w_P (r_W R v)) 0 (p - w_fi (r_W R v))) (w_P (r_W R v) 0 (p - w_fi (r_W R v))) f ∧ h_lp (r_A B R v) (g_bf (w_P (r_W R v)) 0 (p - w_fi (r_W R v))) (w_P (r_W R v) 0 (p - w_fi (r_W R v))) l ∧ h_lp (r_A B R v) 0 (g_bf (w_P (r_W R v)) 0 (p - w_fi (r_W R v))) q ∧ x = if f = -1 then h_it (r_A B R v) q else if b = 0 then h_it (r_A B R v) f else h_it (r_A B R v) l) ∧ (¬ v < 3 → x = -1)
theorem A179 {b : Int} (hS : qSe h) (hx : z_cx B en W R L M) (H1 : z_pg B R L M p → M 10 0 13 ≠ 0 → ∀ v x, z_kd B R p v → z_hd B R p v b x → F x h M) (H2 : z_pg B R L M p → M 10 0 13 = 0 → F (-7300) (lBh h) M) (H0 : ¬ z_pg B R L M p → F (-7100) (lBh h) M) : e179 (d + 4) h p b M F := by
  have hB := hx.1.1.1
  refine W179 (w125 hS (z_ap hS hx (fun q m => ?_) (fun q m => l_g1 (H2 q m)) (fun q => l_g2 (H0 q))))
  have z := hx.2.2 m
  have e : M 10 0 8 - 1 = en := by have := z.1; omega
  refine ⟨(z_en hx).1, fun _ => ?_, (z_en hx).2⟩
  rw [e]
  refine z_27 hS hB z (fun v hv => ?_)
  refine ⟨fun v3 => ⟨(z_en hx).1, fun _ => ?_, (z_en hx).2⟩, fun v3 => H1 q m v (-1) hv ⟨fun y => absurd y v3, fun _ => rfl⟩⟩
  have r1 := z_kd3 hv v3
  have yn := z_N hB z hv v3
  have ch := z.2.2.2.1.1 v r1.2.1.1 r1.2.1.2
  obtain ⟨ob, B1, R1, out⟩ := z.2.2.1
  have ok : p_okB (r_A B R v) (B 0 v) := c_okB hB out.1 r1.2.1
  have mk := (z_mk hB z r1.2.1).2 yn.1
  have bb := (yn.2.2 _ yn.2.1.1 yn.2.1.2).1
  rw [e]
  exact t28 hS (A := r_A B R v) (P := w_P (r_W R v)) (k := p - w_fi (r_W R v)) (cnt := B 0 v) (ct := w_ct (r_W R v)) (fi := w_fi (r_W R v)) ok.1 r1.2.1 (by omega) ⟨yn.2.1.1, yn.2.1.2, by omega⟩ ⟨by omega, by omega⟩ ch.1 ch.2.1 ch.2.2.1 bb (fun f l q' hf hl hq => H1 q m v _ hv ⟨fun _ => ⟨f, l, q', hf, hl, hq, rfl⟩, fun y => absurd v3 y⟩)
theorem z_there {y : Int} (h : c_there B y) : c_K B y = B 4 y := if_pos h
theorem A177 (hS : qSe h) (hx : z_cx B en W R L M) (H1 : c_wo B c i w → M 10 0 13 ≠ 0 → F (if B 4 (200 * c + 20 * i + w) = 6 then b_text (c_K B) (B 5) (c_G B R) (200 * c + 20 * i + w) else -1) h M) (H2 : c_wo B c i w → M 10 0 13 = 0 → F (-7300) (lBh h) M) (H0 : ¬ c_wo B c i w → F (-7100) (lBh h) M) : e177 (d + 5) h c i w M F := by
  refine W177 (w123 hS (z_aw hS hx.1 (fun q m => ?_) (fun q m => l_g1 (H2 q m)) (fun q => l_g2 (H0 q))))
  have z := hx.2.2 m
  have x := z_itx hx.1.1.1 q.1
  have y := z_woy hx.1.1.1 q
  refine ⟨(z_en hx).1, fun _ => t147 hS q.1.1 ⟨q.1.2.1, x.2.2⟩ y.2.2.1 ⟨y.1, ?_⟩, (z_en hx).2⟩
  rw [show M 10 0 8 - 1 = en by have := z.1; omega, (z.2.2.2.1.2.2.1 _ y.1.1 y.1.2 y.2.1).2.2, z_there y.2.1]
  exact H1 q m
theorem A178 (hS : qSe h) (hx : z_cx B en W R L M) (H1 : c_wo B c i w → M 10 0 13 ≠ 0 → F (if B 4 (200 * c + 20 * i + w) = 2 then b_num (c_K B) (c_G B R) (B 8 2) (200 * c + 20 * i + w) else 0) h M) (H2 : c_wo B c i w → M 10 0 13 = 0 → F (-7300) (lBh h) M) (H0 : ¬ c_wo B c i w → F (-7100) (lBh h) M) : e178 (d + 5) h c i w M F := by
  refine W178 (w124 hS (z_aw hS hx.1 (fun q m => ?_) (fun q m => l_g1 (H2 q m)) (fun q => l_g2 (H0 q))))
  have z := hx.2.2 m
  have x := z_itx hx.1.1.1 q.1
  have y := z_woy hx.1.1.1 q
  refine ⟨(z_en hx).1, fun _ => t147 hS q.1.1 ⟨q.1.2.1, x.2.2⟩ y.2.2.1 ⟨y.1, ?_⟩, (z_en hx).2⟩
  rw [show M 10 0 8 - 1 = en by have := z.1; omega, (z.2.2.2.1.2.2.1 _ y.1.1 y.1.2 y.2.1).2.1, z_there y.2.1]
  exact H1 q m
theorem A180 (hS : qSe h) (hx : z_cx B en W R L M) (H1 : c_wo B c i w → M 10 0 13 ≠ 0 → F (mg_p (c_mgn B R c (w_wr (r_W R c)).toNat) (200 * c + 20 * i + w)) h M) (H2 : c_wo B c i w → M 10 0 13 = 0 → F (-7300) (lBh h) M) (H0 : ¬ c_wo B c i w → F (-7100) (lBh h) M) : e180 (d + 5) h c i w M F := by
  refine W180 (w126 hS (z_aw hS hx.1 (fun q m => ?_) (fun q m => l_g1 (H2 q m)) (fun q => l_g2 (H0 q))))
  have z := hx.2.2 m
  have x := z_itx hx.1.1.1 q.1
  have y := z_woy hx.1.1.1 q
  refine t147 hS q.1.1 ⟨q.1.2.1, x.2.2⟩ y.2.2.1 ⟨y.1, ?_⟩
  have i0 := q.1.2.1
  have i1 := x.2.2
  have w0 := y.2.2.1
  rw [z.2.2.2.2.1.2.2.1 c q.1.1.1 q.1.1.2 _ (by omega) (by omega)]
  exact H1 q m
/-- the ranges of a term -/
theorem z_iv (hB : c_ok B) (z : z_x B en W R L M) {t : Int} (ht : 0 ≤ t ∧ t < 10) : x_iv (M 27 0 t) (M 29 t) (M 31 t) (x_on (c_K B) (B 5) (c_G B R) t 600) ∧ M 27 0 t ≤ 180 := by
  obtain ⟨ob, B1, R1, out⟩ := z.2.2.1
  have pb := c_p0_b hB
  have gb : ∀ y, 0 ≤ y → y < 600 → c_K B y ≠ 0 → 1 ≤ c_G B R y ∧ c_G B R y ≤ 398 := fun y y0 y1 k => by
    have := c_G_b hB ⟨pb.2.2.1, by omega⟩ out ⟨y0, y1⟩ (c_K_there k); omega
  have ix := z.2.2.2.2.1.2.2.2.1 t ht.1 ht.2
  refine ⟨x_idx_iv ix gb, ?_⟩
  have cw := c_words hB
  have x := ix.1
  have l : p_sum (fun y => if c_K B y = 4 then (1 : Int) else 0) 600 ≤ p_sum (fun y => @ite Int (c_there B y) (Classical.propDecidable _) 1 0) 600 := p_sum_le2 (by decide) (fun k a b => by
    by_cases q : c_K B k = 4
    · rw [if_pos q, if_pos (c_K_there (by omega))]; exact Int.le_refl _
    · rw [if_neg q]; split <;> omega)
  omega
theorem A181 {t : Int} (hS : qSe h) (hx : z_cx B en W R L M) (H1 : 0 ≤ t ∧ t < 10 → M 10 0 13 ≠ 0 → F (M 27 0 t) h M) (H2 : 0 ≤ t ∧ t < 10 → M 10 0 13 = 0 → F (-7300) (lBh h) M) (H0 : ¬ (0 ≤ t ∧ t < 10) → F (-7100) (lBh h) M) : e181 (d + 4) h t M F :=
  W181 (w127 hS (t136 hS (fun q => t138 hS (fun m => ⟨q, H1 q m⟩) (fun m => l_g1 (H2 q m))) (fun q => l_g2 (H0 q))))
theorem A182 {t r ie : Int} (hS : qSe h) (hx : z_cx B en W R L M) (H1 : 0 ≤ t ∧ t < 10 → 0 ≤ r → M 10 0 13 ≠ 0 → F (if r < M 27 0 t then (if ie = 0 then M 29 t r else M 31 t r) else -1) h M) (H2 : 0 ≤ t ∧ t < 10 → 0 ≤ r → M 10 0 13 = 0 → F (-7300) (lBh h) M) (H3 : 0 ≤ t ∧ t < 10 → r < 0 → F (-7200) (lBh h) M) (H0 : ¬ (0 ≤ t ∧ t < 10) → F (-7100) (lBh h) M) : e182 (d + 4) h t r ie M F := by
  refine W182 (w128 hS (t136 hS (fun q => ⟨fun r0 => l_g0 (H3 q r0), fun r0 => t138 hS (fun m => ⟨q, ?_⟩) (fun m => l_g1 (H2 q (by omega) m))⟩) (fun q => l_g2 (H0 q))))
  have iv := (z_iv hx.1.1.1 (hx.2.2 m) q).2
  have hF := H1 q (by omega) m
  refine ⟨fun y => ⟨⟨fun _ => ⟨q, by omega, by omega⟩, fun _ => ⟨q, by omega, by omega⟩⟩, fun x hx' => ?_⟩, fun y => by rw [if_neg y] at hF; exact hF⟩
  rw [if_pos y] at hF
  rw [hx']; exact hF
theorem A184 {x : Int} (hS : qSe h) (hx : z_cx B en W R L M) (H1 : 0 ≤ x → M 10 0 13 ≠ 0 → F (if x < L then 10 * (c_lal B R + 1 + x / (2 * B 8 1)) + x_col (B 8 1) L x else -1) h M) (H2 : 0 ≤ x → M 10 0 13 = 0 → F (-7300) (lBh h) M) (H3 : x < 0 → F (-7200) (lBh h) M) : e184 (d + 4) h x M F := by
  have hB := hx.1.1.1
  refine W184 (w130 hS ⟨fun x0 => l_g0 (H3 x0), fun x0 => t138 hS (fun m => ?_) (fun m => l_g1 (H2 (by omega) m))⟩)
  have z := hx.2.2 m
  obtain ⟨ob, B1, R1, out⟩ := z.2.2.1
  have e : M 10 0 8 - 1 = en := by have := z.1; omega
  have hD := hB.2.2.2.2.2.2.2.1
  have tb := c_tot_b hB out z.2.1
  have e34 : M 3 en 4 = c_lal B R := z.2.2.2.1.2.1
  have pb := c_p0_b hB
  have now := z.2.2.2.2.1.2.2.2.2
  have e3 : M 4 0 3 = L := now.1
  have hL := z.2.1
  have hF := H1 (by omega) m
  rw [e3, e]
  refine ⟨fun lt => ⟨(z_en hx).1, fun _ => ?_, (z_en hx).2⟩, fun lt => by rw [if_neg lt] at hF; exact hF⟩
  rw [if_pos lt] at hF
  rw [e34]
  have ib := ix_b hD ⟨(show 0 ≤ x by omega), lt⟩ hL.2
  have cb := x_col_b (D := B 8 1) (L := L) (x := x)
  refine ⟨⟨by omega, by omega⟩, t41 hS now.2.2.1 ⟨by omega, hD.2⟩ ⟨by omega, by omega⟩ ?_⟩
  rw [if_neg (show ¬ B 8 1 ≤ 0 by omega)]
  exact ⟨⟨by omega, by omega⟩, ⟨by omega, by omega⟩, t42 hS hD now.2.2.1 e3 now.2.1 ⟨by omega, lt⟩ hL.2 ⟨⟨by omega, by omega⟩, hF⟩⟩
/-- costByAll; its weighing is seen nowhere else -/
theorem A175 (hS : qSe h) (hx : z_cx B en W R L M) (H1 : 0 ≤ c ∧ c < 3 → M 10 0 13 ≠ 0 → p_SR (r_A B R c) (B 0 c) ≤ 8 → ∀ M', fr77 M M' → F (if p_SR (r_A B R c) (B 0 c) = 0 then 0 else g_V (p_T (r_A B R c) (B 0 c) (B 8 1)) g_I 0 0 0 15) h M') (H2 : 0 ≤ c ∧ c < 3 → (M 10 0 13 = 0 ∨ 8 < p_SR (r_A B R c) (B 0 c)) → F (-7300) (lBh h) M) (H0 : ¬ (0 ≤ c ∧ c < 3) → F (-7100) (lBh h) M) : e175 (d + 14) h c M F := by
  have hB := hx.1.1.1
  refine W175 (w121 (d := d + 8) hS (z_ac hS (fun q m => ?_) (fun q m => l_g1 (H2 q (Or.inl m))) (fun q => l_g2 (H0 q))))
  have z := hx.2.2 m
  have e : M 10 0 8 - 1 = en := by have := z.1; omega
  have ch := z.2.2.2.1.1 c q.1 q.2
  obtain ⟨ob, B1, R1, out⟩ := z.2.2.1
  have ok : p_okB (r_A B R c) (B 0 c) := c_okB hB out.1 q
  have e9 : M 9 (1 + 3 * en + c) 0 = p_SR (r_A B R c) (B 0 c) := ch.1.1.1
  have e31 : M 3 en 1 = B 8 1 := z.2.2.2.1.2.2.2.1.2.1
  have he : en = 0 ∨ en = 1 := by
    obtain ⟨e0, h8, he⟩ := hx.1.2.2.2
    have := z.1
    omega
  refine ⟨(z_en hx).1, fun _ => ⟨q, ?_⟩, (z_en hx).2⟩
  rw [e, e9, e31]
  refine ⟨fun z8 => ⟨(z_en hx).1, fun _ => ⟨q, (z_en hx).1, fun _ => ?_, (z_en hx).2⟩, (z_en hx).2⟩, fun z8 => l_g1 (H2 q (Or.inr (by omega)))⟩
  have hT : g_tab (p_T (r_A B R c) (B 0 c) (B 8 1)) := p_T_tab ok hB.2.2.2.2.2.2.2.1
  have key := t77 (d := d) (h := h) hS (F := fun v N => F v h N) (n := 1 + 3 * en + c) (M := M) hT (by omega) (p_T_c ok ch.1) z8 (fun M1 O1 => H1 q m z8 M1 O1)
  exact key
end
