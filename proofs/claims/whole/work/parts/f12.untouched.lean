/-! ===== wordsTo, untouched ===== -/
def c_lnq (B : pT) (M : qM) (c i l : Int) : Prop := c_it B c i ∧ 0 ≤ l ∧ (M 10 0 13 ≠ 0 → l < M 5 (1 + (10 * c + i)) 10)
theorem y_lines {n en L : Int} {B : pT} {W : Int → Int} {R : c_R} {M : qM} (hr : c_rl n B M) (hx : c_mdx B en W R L M) {c i : Int} (q : c_it B c i) : M 5 (1 + (10 * c + i)) 10 = (if M 65 0 (10 * c + i) = 0 then M 81 0 (10 * c + i) else 1) ∧ (1 ≤ M 5 (1 + (10 * c + i)) 10 ∧ M 5 (1 + (10 * c + i)) 10 ≤ 20) ∧ (∀ l, 0 ≤ l → l < M 5 (1 + (10 * c + i)) 10 → M 37 (1 + (10 * c + i)) l = if M 65 0 (10 * c + i) = 0 then M 82 0 (20 * (10 * c + i) + l) else 0) := by
  have x := c_it_x hr q
  obtain ⟨ob, B1, R1, out⟩ := hx.2.2.1
  have now := hx.2.2.2.2.1.1 (10 * c + i) x.1.1 x.1.2
  have ln := out.1 (10 * c + i) x.1.1 x.1.2 x.2.1
  rw [((y_b hr).2.1 (10 * c + i) x.1.1 x.1.2).2.2.1, now.1]
  by_cases z : B 1 (10 * c + i) = 0
  · have ed := hx.2.2.2.2.2.1.1.1 (10 * c + i) x.1.1 x.1.2 x.2.1 z
    rw [if_pos z]
    have n20 := ((y_b hr).2.1 (10 * c + i) x.1.1 x.1.2).2.2.2
    have n1 : 1 ≤ B 3 (10 * c + i) := by
      rcases hr.1.2.1.2.2.1 (10 * c + i) x.1.1 x.1.2 x.2.1 with y | y
      · omega
      · exact y.2
    have ok := (p_lined_ok n1 (ln.1 z)).1
    refine ⟨ed.1.symm, by omega, fun l l0 l1 => ?_⟩
    rw [if_pos z, now.2.2 l, ed.2.2 l l0 l1]
  · rw [if_neg z, (ln.2 z).1]
    refine ⟨rfl, by omega, fun l l0 l1 => ?_⟩
    rw [if_neg z, show l = 0 by omega]
    exact (hr.2.2.2.2.1.2.2.1.2 (10 * c + i) x.1.1 x.1.2 (fun y => z y.2)).2
theorem t229 {d : Nat} {h : qH} (hS : qSe h) {n c i l : Int} {B : pT} {M0 M : qM} {F : Int → qM → Prop} (h0 : c_rl n B M0) (f : c_fr M0 M)
    (H1 : c_lnq B M0 c i l → M 11 0 22 ≠ 0 → ∀ N, N = qU M 11 0 0 0 → F (M0 37 (1 + (10 * c + i)) l) N) (H2 : ¬ c_lnq B M0 c i l → ∀ b N, N = qU M 11 0 0 1 → F b N) (H3 : c_lnq B M0 c i l → M 11 0 22 = 0 → ∀ b N, N = qU M 11 0 0 2 → F b N) : e229 (d + 4) h c i l M F := by
  have hr := c_rl_fr f h0
  have y := (y_b h0).2.2.1
  have e22 : M 11 0 22 = M0 11 0 22 := f 11 0 22 (by unfold c_scr; omega)
  have fin : ∀ (k : Int) (N : qM), N = qU M 11 0 0 k → (0 < k → ∀ b, F b N) → (k = 0 → c_lnq B M0 c i l ∧ M 11 0 22 ≠ 0) → 0 ≤ k → b229_63 d h F c i l N := fun k N hN a1 a0 k0 => by
    have e : N 11 0 0 = k := by rw [hN, qU_s]
    refine w229_63 hS ?_
    rw [e]
    by_cases q : k = 0
    · obtain ⟨q1, q2⟩ := a0 q
      have m : M0 10 0 13 ≠ 0 := fun z => q2 (by rw [e22]; exact y.mp z)
      obtain ⟨en, W, R, L, hx⟩ := y_mdx h0 m
      have yl := y_lines h0 hx q1.1
      have x := c_it_x h0 q1.1
      have i0 := q1.1.1
      have i1 := q1.1.2.1
      have l1 := q1.2.2 m
      have l0 := q1.2.1
      have e65 : N 65 0 ((10 * c) + i) = M0 65 0 (10 * c + i) := by rw [hN, qU_k (by decide)]; exact f 65 0 _ (by unfold c_scr; omega)
      have e82 : N 82 0 ((20 * ((10 * c) + i)) + l) = M0 82 0 (20 * (10 * c + i) + l) := by rw [hN, qU_k (by decide)]; exact f 82 0 _ (by unfold c_scr; omega)
      rw [e65, e82]
      refine ⟨fun _ => ⟨⟨by omega, by omega⟩, ⟨by omega, by omega⟩, ⟨by omega, by omega⟩, fun _ => ⟨⟨by omega, by omega⟩, ⟨by omega, by omega⟩, ⟨by omega, by omega⟩, ⟨by omega, by omega⟩, ⟨by omega, by omega⟩⟩⟩, fun z hz => ?_⟩
      rw [hz, if_pos (by omega), ← yl.2.2 l l0 l1]
      exact H1 q1 q2 N (by rw [hN, q])
    · exact ⟨fun z => by omega, fun z _ => a1 (by omega) z⟩
  refine w229 hS (t156 hS (y_b hr).2.2.2.2.1 (fun q x hx N hN => ?_) (fun q x hx N hN => ?_))
  · have q' : c_it B c i := (y_it hr).2.mp q
    have e : N 11 0 0 = x := by rw [hN, qU_s]
    rw [e]
    rw [if_neg (by decide)] at hx
    by_cases l0 : l < 0
    · rw [if_pos l0] at hx
      exact ⟨fun z => by omega, fun _ => fin x N hN (fun _ b => H2 (fun z => by have := z.2.1; omega) b N (by rw [hN, hx])) (fun z => by omega) (by omega)⟩
    · rw [if_neg l0] at hx
      by_cases m : M 11 0 22 = 0
      · rw [if_pos m] at hx
        exact ⟨fun z => by omega, fun _ => fin x N hN (fun _ b => H3 ⟨q', by omega, fun z => absurd (y.mpr (by rw [← e22]; exact m)) z⟩ m b N (by rw [hN, hx])) (fun z => by omega) (by omega)⟩
      · rw [if_neg m] at hx
        refine ⟨fun _ => ?_, fun z => by omega⟩
        have m0 : M0 10 0 13 ≠ 0 := fun z => m (by rw [e22]; exact y.mp z)
        obtain ⟨en, W, R, L, hx'⟩ := y_mdx h0 m0
        have yl := (y_lines h0 hx' q').1
        have xx := c_it_x h0 q'
        have i0 := q'.1
        have i1 := q'.2.1
        refine ⟨⟨by omega, by omega⟩, ⟨by omega, by omega⟩, t227 hS ⟨by omega, by omega⟩ (fun y2 hy N2 hN2 => ?_)⟩
        have e65 : N 65 0 ((10 * c) + i) = M0 65 0 (10 * c + i) := by rw [hN, qU_k (by decide)]; exact f 65 0 _ (by unfold c_scr; omega)
        have e81 : N 81 0 ((10 * c) + i) = M0 81 0 (10 * c + i) := by rw [hN, qU_k (by decide)]; exact f 81 0 _ (by unfold c_scr; omega)
        rw [e65, e81, ← yl] at hy
        have eN : N2 = qU M 11 0 0 y2 := by
          rw [hN2, hN]
          funext k m s
          unfold qU
          split <;> simp_all
        by_cases z : l < M0 5 (1 + (10 * c + i)) 10
        · rw [if_pos z] at hy
          exact fin y2 N2 eN (fun z => by omega) (fun _ => ⟨⟨q', by omega, fun _ => z⟩, m⟩) (by omega)
        · rw [if_neg z] at hy
          exact fin y2 N2 eN (fun _ b => H2 (fun w => z (w.2.2 m0)) b N2 (by rw [eN, hy])) (fun z => by omega) (by omega)
  · have e : N 11 0 0 = x := by rw [hN, qU_s]
    rw [e]
    rw [if_pos rfl] at hx
    exact ⟨fun z => by omega, fun _ => fin x N hN (fun _ b => H2 (fun z => q ((y_it hr).2.mpr z.1)) b N (by rw [hN, hx])) (fun z => by omega) (by omega)⟩
theorem y111 {d d' : Nat} {h : qH} (hS : qSe h) {n c i l : Int} {B : pT} {M : qM} (hn : n < 512) (hr : c_rl n B M) : e111 (d + 3) h c i l M (p_ok (n + 1) (e229 (d' + 4) h c i l)) (p_ex (n + 1) (e229 (d' + 4) h c i l) 0 2 1) := by
  have y := (y_b hr).2.2.1
  have no : ¬ c_lnq B M c i l → p_ex (n + 1) (e229 (d' + 4) h c i l) 0 2 1 2 M := fun q => Or.inr (Or.inr ⟨rfl, by decide, p_exc hn hr (fun F H => t229 hS hr c_fr_0 (fun z => absurd z q) (fun _ => H) (fun z => absurd z q))⟩)
  have go : c_lnq B M c i l → ∀ u1 u2 : qV, b111_38 d h (p_ok (n + 1) (e229 (d' + 4) h c i l)) (p_ex (n + 1) (e229 (d' + 4) h c i l) 0 2 1) u1 u2 l (1 + (10 * c + i)) M := fun q u1 u2 => by
    refine w111_38 hS (t138 hS (fun m => ?_) (fun m => Or.inr (Or.inl ⟨rfl, by decide, p_exc hn hr (fun F H => t229 hS hr c_fr_0 (fun _ z => absurd (y.mp m) z) (fun z => absurd q z) (fun _ _ => H))⟩)))
    obtain ⟨en, W, R, L, hx⟩ := y_mdx hr m
    have yl := (y_lines hr hx q.1).2.1
    have l1 := q.2.2 m
    have l0 := q.2.1
    refine ⟨fun z => ⟨l0, z⟩, fun x hx' => ?_⟩
    rw [if_pos (by omega)] at hx'
    rw [hx']
    exact p_ans0 hn hr (fun M1 f1 h1 F H => t229 hS hr f1 (fun _ _ => H) (fun z => absurd q z) (fun _ z => absurd (y.mpr (by rw [← f1 11 0 22 (by unfold c_scr; omega)]; exact z)) m))
  refine w111 hS (t134 hS (y_b hr).2.2.2.1 (fun q => ?_) (fun q => no (fun z => q ((y_it hr).1.mpr z.1))))
  have q' := (y_it hr).1.mp q
  rw [show 1 + 10 * c + i = 1 + (10 * c + i) by omega]
  exact ⟨fun l0 => w111_28 hS (no (fun z => by have := z.2.1; omega)), fun l0 => ⟨fun m => go ⟨q', by omega, fun z => absurd m z⟩ _ _, fun m => ⟨fun z => go ⟨q', by omega, fun _ => z⟩ _ _, fun z => w111_28 hS (no (fun w => z (w.2.2 m)))⟩⟩⟩
theorem y_8g {B : pT} {W : Int → Int} {ob : Prop} {B1 : pT} {R1 R : c_R} {tot L e : Int} {M : qM} (hB : c_ok B) (out : c_out B W ob B1 R1 (c_p0 B) R) (hL : 0 ≤ L ∧ L ≤ 1000) (ed : c_edn B R tot e M) : ∀ c, 0 ≤ c → c < 3 → M 8 (0 + 3 * e + c) 0 = w_fi (r_W R c) ∧ M 8 (0 + 3 * e + c) 1 = w_ct (r_W R c) ∧ (0 ≤ w_fi (r_W R c) ∧ w_fi (r_W R c) ≤ 1000) ∧ 0 ≤ w_ct (r_W R c) ∧ w_ct (r_W R c) ≤ 86 := fun c c0 c3 => by
  have ch := ed.1 c c0 c3
  have mk := (out.2 c c0 c3).1
  refine ⟨ch.2.2.1, ch.2.1.1, ?_⟩
  by_cases q : 0 < B 0 c
  · have z := (c_la_st hB out.1 (Int.le_refl _) out.2 c c0 c3).2 q
    have fl := c_fi_la hB out ⟨c0, c3⟩ q
    have tb := c_tot_b hB out hL
    omega
  · have := mk.1 (by omega); omega
theorem y132 {d d' : Nat} {h : qH} (hS : qSe h) {n : Int} {B : pT} {M : qM} (hn : n < 512) (hr : c_rl n B M) : e132 (d + 6) h M (p_ok (n + 1) (e263 (d' + 7) h)) (p_ex (n + 1) (e263 (d' + 7) h) 0 1 0) := by
  have y := (y_b hr).2.2.1
  have hB := hr.1.2.1
  have HX : M 10 0 13 = 0 → p_ex (n + 1) (e263 (d' + 7) h) 0 1 0 1 M := fun m => Or.inr (Or.inl ⟨rfl, by decide, p_exc hn hr (fun F H => w263 hS (t233 hS (fun z => absurd (y.mp m) z) (fun _ N hN => ⟨fun _ => H 0 N hN, fun z => absurd rfl z⟩)))⟩)
  by_cases m : M 10 0 13 = 0
  · exact w132 hS (t138 hS (fun z => absurd m z) HX)
  · obtain ⟨en, W, R, L, hx⟩ := y_mdx hr m
    obtain ⟨e0, h8, he⟩ := hr.2.2.1.2.2.2
    have en01 : en = 0 ∨ en = 1 := by have := hx.1; omega
    have t := y_tot hB hx
    have pb := c_p0_b hB
    obtain ⟨ob, B1, R1, out⟩ := hx.2.2.1
    have un : ∀ M1, c_fr M M1 → M1 11 0 22 ≠ 0 := fun M1 f1 => by rw [f1 11 0 22 (by unfold c_scr; omega)]; exact fun z => m (y.mpr z)
    rcases hr.2.2.2.2.2.1 with q | ⟨Bo, Wo, Ro, Lo, e', N0, q1, q2, q3, q4⟩
    · refine t132 hS (C := fun _ => True) (e' := 0) (was := 0) (en := en) (tot := c_tot B R L) hx.1 (Or.inl q.1) (by omega) t.2.1 (fun z => absurd q.1 z) ⟨by omega, by omega⟩ (fun z => absurd q.1 z) (fun z => absurd q.1 z) HX (fun _ => ?_)
      rw [if_pos q.1]
      refine p_ans0 hn hr (fun M1 f1 h1 F H => ?_)
      have e73 : M1 11 0 73 = 0 := by rw [f1 11 0 73 (by unfold c_scr; omega)]; exact q.2
      refine t263 hS (tot := c_tot B R L) (was := 0) (Q := fun _ => True) (fun _ => by rw [f1 11 0 58 (by unfold c_scr; omega)]; exact t.1) (fun z => absurd e73 z) (fun _ => ⟨by omega, by omega⟩) (fun z => absurd e73 z) (fun _ z => absurd e73 z) (fun z => absurd z (un M1 f1)) (fun _ N hN => ?_)
      rw [if_pos e73]
      exact H N hN
    · obtain ⟨⟨o1, o2⟩, ⟨ob', B2, R2, out'⟩, hLo, ed', cpy, now', rel, st⟩ := q3
      have tb' := c_tot_b o1 out' hLo
      have pb' := c_p0_b o1
      have nz : M 10 0 9 ≠ 0 := by omega
      have was5 : M 3 e' 5 = c_tot Bo Ro Lo := ed'.2.2.2.2.2
      refine t132 hS (C := u_C M R Ro en e') (e' := e') (was := c_tot Bo Ro Lo) (en := en) (tot := c_tot B R L) hx.1 (Or.inr ⟨q1, by omega⟩) (by omega) t.2.1 (fun _ => was5) ⟨by omega, by omega⟩ (fun _ => ⟨by omega, by omega⟩) (fun _ p F p1 pt pw c1 c0 => ?_) HX (fun _ => ?_)
      · refine t31 hS (P := fun c => w_P (r_W R c)) (P' := fun c => w_P (r_W Ro c)) (fi := fun c => w_fi (r_W R c)) (fi' := fun c => w_fi (r_W Ro c)) (ct := fun c => w_ct (r_W R c)) (ct' := fun c => w_ct (r_W Ro c)) (fun c a b => ⟨y_8g hB out hx.2.1 hx.2.2.2.1 c a b, y_8g o1 out' hLo ed' c a b⟩) (fun c a b => ⟨c_ch_ed hB out ⟨a, b⟩ (hx.2.2.2.1.1 c a b), c_ch_ed o1 out' ⟨a, b⟩ (ed'.1 c a b)⟩) ⟨by omega, by omega⟩ (fun u u' k1 k2 pg => c1 ⟨u, u', k1, k2, pg⟩) (fun u u' k1 k2 npg => c0 (fun ⟨v, v', a, b, c⟩ => npg ?_))
        have z1 : M 105 0 p = u := u_kind hB out hx.2.1 hx.2.2.2.1 hx.2.2.2.2.2.1 ⟨p1, pt⟩ k1
        have z2 : M 105 0 p = v := u_kind hB out hx.2.1 hx.2.2.2.1 hx.2.2.2.2.2.1 ⟨p1, pt⟩ a
        have z3 : N0 105 0 p = u' := u_kind o1 out' hLo ed' now' ⟨p1, pw⟩ k2
        have z4 : N0 105 0 p = v' := u_kind o1 out' hLo ed' now' ⟨p1, pw⟩ b
        rw [show u = v by omega, show u' = v' by omega]
        exact c
      · rw [if_neg nz]
        refine p_ans0 hn hr (fun M1 f1 h1 F H => ?_)
        have e73 : M1 11 0 73 ≠ 0 := by rw [f1 11 0 73 (by unfold c_scr; omega), cpy.1.1]; decide
        refine t263 hS (tot := c_tot B R L) (was := c_tot Bo Ro Lo) (Q := u_C M R Ro en e') (fun _ => by rw [f1 11 0 58 (by unfold c_scr; omega)]; exact t.1) (fun _ => by rw [f1 11 0 74 (by unfold c_scr; omega)]; exact cpy.1.2.1) (fun _ => ⟨by omega, by omega⟩) (fun _ => ⟨by omega, by omega⟩) (fun _ _ N hN p F' p1 p2 c1 c0 => ?_) (fun z => absurd z (un M1 f1)) (fun _ N hN => ?_)
        · have fN := c_fr_t f1 (c_fr_0' hN).1
          have hxN := c_mdx_fr fN hx
          have hrN := c_rl_fr fN hr
          have p400 : 1 ≤ p ∧ p < 400 := by
            refine ⟨p1, ?_⟩
            split at p2 <;> omega
          exact t262u hS (W := W) (Wo := Wo) (N := N0) hB hr.1.2.2 out hx.2.1 o1 out' hLo hx.2.2.2.1 ed' hxN.2.2.2.2.2.1 hrN.2.1.2.1 now' (c_cg (fun _ => x_13) fN cpy) rel (c_cg (P := fun M => ∀ x, 0 ≤ x → x < 30 → x % 10 < Bo 0 (x / 10) → (M 68 0 x = M 120 0 x ↔ B 7 x = Bo 7 x)) (fun _ => rfl) fN st) p400 c1 c0
        · rw [if_neg e73]
          exact H N hN
