/-! ===== textOf, noteOf, marginOf, the index, sheets ===== -/
theorem y_mw {n en L : Int} {B : pT} {W : Int → Int} {R : c_R} {M : qM} (h : c_rl n B M) (hx : c_mdx B en W R L M) : b_wd (c_K B) (B 5) M ∧ b_pl (c_K B) (c_G B R) M ∧ (∀ y, 0 ≤ y → y < 600 → c_K B y ≠ 0 → 1 ≤ c_G B R y ∧ c_G B R y ≤ 398) ∧ ∀ t, 0 ≤ t → t < 10 → x_iv (M 27 0 t) (M 29 t) (M 31 t) (x_on (c_K B) (B 5) (c_G B R) t 600) ∧ M 27 0 t ≤ 180 := by
  have hB := h.1.2.1
  obtain ⟨ob, B1, R1, out⟩ := hx.2.2.1
  have pb := c_p0_b hB
  have gb : ∀ y, 0 ≤ y → y < 600 → c_K B y ≠ 0 → 1 ≤ c_G B R y ∧ c_G B R y ≤ 398 := fun y y0 y1 k => by
    have := c_G_b hB ⟨pb.2.2.1, by omega⟩ out ⟨y0, y1⟩ (c_K_there k); omega
  refine ⟨m_bk_wd h.1.2.2 h.2.1.2.1, fun y y0 y1 k => m_ed0_at hB out hx.2.2.2.2.2.1.1 ⟨y0, y1⟩ (c_K_there k), gb, fun t a b => ?_⟩
  have ix := hx.2.2.2.2.1.2.2.2.1 t a b
  refine ⟨x_idx_iv ix gb, ?_⟩
  have cw := c_words hB
  have x := ix.1
  have l : p_sum (fun y => if c_K B y = 4 then (1 : Int) else 0) 600 ≤ p_sum (fun y => @ite Int (c_there B y) (Classical.propDecidable _) 1 0) 600 := p_sum_le2 (by decide) (fun k a b => by
    by_cases q : c_K B k = 4
    · rw [if_pos q, if_pos (c_K_there (by omega))]; exact Int.le_refl _
    · rw [if_neg q]; split <;> omega)
  omega
theorem y_aw2 {d : Nat} {h : qH} (hS : qSe h) {n c i w : Int} {B : pT} {M : qM} {val : qM → Int} {mc : qM → (Int → qM → Prop) → Prop} {f : qM → Prop} (hn : n < 512) (hr : c_rl n B M) (hm : (c_wo B c i w → M 11 0 22 = 0) → y_ms n B M (c_wo B c i w) val mc) (H : c_wo B c i w → M 10 0 13 ≠ 0 → f M) : e135 (d + 3) h c i w M (fun M' => e138 (d + 1) h M' (fun M'' => f M'') (p_ex (n + 1) mc 0 2 1)) (p_ex (n + 1) mc 0 2 1) :=
  t135 hS (y_b hr).2.2.2.1 (fun q => t138 hS (fun m => H ((y_wo hr).1.mp q) m) (fun m => Or.inr (Or.inl ⟨rfl, by decide, y_ms_un hn hr (hm (fun _ => (y_b hr).2.2.1.mp m)) ((y_wo hr).1.mp q) m⟩))) (fun q => Or.inr (Or.inr ⟨rfl, by decide, y_ms_no hn hr (hm (fun z => absurd ((y_wo hr).1.mpr z) q)) (fun z => q ((y_wo hr).1.mpr z))⟩))
theorem t_ask {d : Nat} {h : qH} (hS : qSe h) {n c i w : Int} {B : pT} {M0 M1 : qM} {F : Int → qM → Prop} {f : Int → qM → Prop} (h1 : c_rl n B M1) (H1 : c_wo B c i w → M1 11 0 22 ≠ 0 → ∀ N, N = qU M1 11 0 0 0 → f 1 N) (H0 : ∀ N, ((¬ c_wo B c i w ∧ N = qU M1 11 0 0 1) ∨ (c_wo B c i w ∧ M1 11 0 22 = 0 ∧ N = qU M1 11 0 0 2)) → f 0 N) : e224 (d + 5) h c i w M1 f := by
  have b := y_b h1
  exact t224 hS b.2.2.2.2.1 b.2.2.2.2.2 (fun q m N hN => H1 ((y_wo h1).2.mp q) m N hN) (fun q N hN => H0 N (Or.inl ⟨fun z => q ((y_wo h1).2.mpr z), hN⟩)) (fun q m N hN => H0 N (Or.inr ⟨(y_wo h1).2.mp q, m, hN⟩))
theorem m_244 {d : Nat} {h : qH} (hS : qSe h) {n c i w : Int} {B : pT} {M : qM} (val : Int) (hv : ∀ M1, c_fr M M1 → c_rl n B M1 → M1 11 0 22 ≠ 0 → c_wo B c i w → ∀ N, c_fr M1 N → (B 4 (200 * c + 20 * i + w) = 6 → ∀ F : Int → qM → Prop, F val N → e208 (d + 3) h (200 * c + 20 * i + w) N F) ∧ (B 4 (200 * c + 20 * i + w) ≠ 6 → val = -1)) : y_ms n B M (c_wo B c i w) (fun _ => val) (e244 (d + 6) h c i w) := fun M1 f1 h1 F H1 H2 H3 => by
  refine w244 hS (t_ask hS (M0 := M) (F := F) h1 (fun q m N hN => ⟨fun z => absurd z (by decide), fun _ => ?_⟩) (fun N hN => ⟨fun _ => ?_, fun z => absurd rfl z⟩))
  · have z := c_fr_0' hN
    have y := c_wo_y h1 q
    have x := c_it_x h1 q.1
    refine t158 hS q.1.1 ⟨q.1.2.1, x.2.2⟩ (by have := y.2.2.1; omega) ?_
    rw [show p_id c i w = 200 * c + 20 * i + w by unfold p_id; omega]
    have v := hv M1 f1 h1 m q N z.1
    have e : N 70 0 (200 * c + 20 * i + w) = B 4 (200 * c + 20 * i + w) := by rw [hN, qU_k (by decide)]; exact (h1.2.1.2.1.2.2.1 _ y.1.1 y.1.2).1
    rw [e]
    have hF := H1 q m N z.1 z.2.1 z.2.2
    exact ⟨y.1, fun q6 => v.1 q6 F hF, fun q6 => by have := v.2 q6; rw [← this]; exact hF⟩
  · rcases hN with ⟨q, hN⟩ | ⟨q, m, hN⟩
    · exact H2 q 0 N hN
    · exact H3 q m 0 N hN
theorem m_245 {d : Nat} {h : qH} (hS : qSe h) {n c i w : Int} {B : pT} {M : qM} (val : Int) (hv : ∀ M1, c_fr M M1 → c_rl n B M1 → M1 11 0 22 ≠ 0 → c_wo B c i w → ∀ N, c_fr M1 N → (B 4 (200 * c + 20 * i + w) = 2 → ∀ F : Int → qM → Prop, F val N → e210 (d + 2) h (200 * c + 20 * i + w) (N 11 0 3) N F) ∧ (B 4 (200 * c + 20 * i + w) ≠ 2 → val = 0)) : y_ms n B M (c_wo B c i w) (fun _ => val) (e245 (d + 6) h c i w) := fun M1 f1 h1 F H1 H2 H3 => by
  refine w245 hS (t_ask hS (M0 := M) (F := F) h1 (fun q m N hN => ⟨fun z => absurd z (by decide), fun _ => ?_⟩) (fun N hN => ⟨fun _ => ?_, fun z => absurd rfl z⟩))
  · have z := c_fr_0' hN
    have y := c_wo_y h1 q
    have x := c_it_x h1 q.1
    refine t158 hS q.1.1 ⟨q.1.2.1, x.2.2⟩ (by have := y.2.2.1; omega) ?_
    rw [show p_id c i w = 200 * c + 20 * i + w by unfold p_id; omega]
    have v := hv M1 f1 h1 m q N z.1
    have e : N 70 0 (200 * c + 20 * i + w) = B 4 (200 * c + 20 * i + w) := by rw [hN, qU_k (by decide)]; exact (h1.2.1.2.1.2.2.1 _ y.1.1 y.1.2).1
    rw [e]
    have hF := H1 q m N z.1 z.2.1 z.2.2
    exact ⟨y.1, fun q6 => v.1 q6 F hF, fun q6 => by have := v.2 q6; rw [← this]; exact hF⟩
  · rcases hN with ⟨q, hN⟩ | ⟨q, m, hN⟩
    · exact H2 q 0 N hN
    · exact H3 q m 0 N hN
theorem c_there_KB {B : pT} {y : Int} (h : c_there B y) : c_K B y = B 4 y := if_pos h
theorem un_made {M M1 : qM} {Q : Prop} {P : Prop} (f1 : c_fr M M1) (z : Q → M 11 0 22 = 0) (m : M1 11 0 22 ≠ 0) (q : Q) : P := absurd (by rw [f1 11 0 22 (by unfold c_scr; omega)]; exact z q) m
theorem y123 {d d' : Nat} {h : qH} (hS : qSe h) {n c i w : Int} {B : pT} {M : qM} (hn : n < 512) (hr : c_rl n B M) : e123 (d + 4) h c i w M (p_ok (n + 1) (e244 (d' + 6) h c i w)) (p_ex (n + 1) (e244 (d' + 6) h c i w) 0 2 1) := by
  refine w123 hS (y_aw2 hS hn hr (fun z => m_244 hS 0 (fun M1 f1 _ m q _ _ => un_made f1 z m q)) (fun q m => ?_))
  obtain ⟨en, W, R, L, hx⟩ := y_mdx hr m
  obtain ⟨e0, h8, he⟩ := hr.2.2.1.2.2.2
  have e : M 10 0 8 - 1 = en := by have := hx.1; omega
  have y := c_wo_y hr q
  have x := c_it_x hr q.1
  refine ⟨fun z => by omega, fun _ => t147 hS q.1.1 ⟨q.1.2.1, x.2.2⟩ y.2.2.1 ⟨y.1, ?_⟩, fun z => by omega⟩
  rw [e, (hx.2.2.2.1.2.2.1 _ y.1.1 y.1.2 y.2.1).2.2, c_there_KB y.2.1]
  refine y_ms_v hn hr (m_244 hS _ (fun M1 f1 h1 m1 _ N fN => ⟨fun q6 F hF => ?_, fun q6 => if_neg q6⟩)) q m (fun _ _ _ => rfl)
  have hN := c_rl_fr fN h1
  have w := y_mw hN (c_mdx_fr (c_fr_t f1 fN) hx)
  rw [if_pos q6] at hF
  exact t208 hS w.1 w.2.1 y.1 (by rw [c_there_KB y.2.1, q6]; decide) (fun y a b k => by have := w.2.2.1 y a b k; omega) hF
theorem y124 {d d' : Nat} {h : qH} (hS : qSe h) {n c i w : Int} {B : pT} {M : qM} (hn : n < 512) (hr : c_rl n B M) : e124 (d + 4) h c i w M (p_ok (n + 1) (e245 (d' + 6) h c i w)) (p_ex (n + 1) (e245 (d' + 6) h c i w) 0 2 1) := by
  refine w124 hS (y_aw2 hS hn hr (fun z => m_245 hS 0 (fun M1 f1 _ m q _ _ => un_made f1 z m q)) (fun q m => ?_))
  obtain ⟨en, W, R, L, hx⟩ := y_mdx hr m
  obtain ⟨e0, h8, he⟩ := hr.2.2.1.2.2.2
  have e : M 10 0 8 - 1 = en := by have := hx.1; omega
  have y := c_wo_y hr q
  have x := c_it_x hr q.1
  refine ⟨fun z => by omega, fun _ => t147 hS q.1.1 ⟨q.1.2.1, x.2.2⟩ y.2.2.1 ⟨y.1, ?_⟩, fun z => by omega⟩
  rw [e, (hx.2.2.2.1.2.2.1 _ y.1.1 y.1.2 y.2.1).2.1, c_there_KB y.2.1]
  refine y_ms_v hn hr (m_245 hS _ (fun M1 f1 h1 m1 _ N fN => ⟨fun q6 F hF => ?_, fun q6 => if_neg q6⟩)) q m (fun _ _ _ => rfl)
  have hN := c_rl_fr fN h1
  have w := y_mw hN (c_mdx_fr (c_fr_t f1 fN) hx)
  rw [if_pos q6] at hF
  rw [hN.2.1.2.1.2.2.2.2.2]
  exact t210 hS w.1 (fun _ => w.2.1) y.1 (by rw [c_there_KB y.2.1, q6]; decide) hF
theorem m_250 {d : Nat} {h : qH} (hS : qSe h) {n c i w : Int} {B : pT} {M : qM} (val : Int) (hv : ∀ M1, c_fr M M1 → c_rl n B M1 → M1 11 0 22 ≠ 0 → c_wo B c i w → ∀ N, c_fr M1 N → N 11 0 95 = 0 → N 11 0 100 = 200 * c + 20 * i + w → N 11 0 101 = -1 → ∀ (u2 u3 : qV) (F : Int → qM → Prop), (∀ N', fr249 N N' → F val N') → b250_40 d h F c u2 u3 (N 114 0 c) N) : y_ms n B M (c_wo B c i w) (fun _ => val) (e250 (d + 6) h c i w) := fun M1 f1 h1 F H1 H2 H3 => by
  refine w250 hS (t_ask hS (M0 := M) (F := F) h1 (fun q m N hN => ⟨fun z => absurd z (by decide), fun _ => ?_⟩) (fun N hN => ⟨fun _ => ?_, fun z => absurd rfl z⟩))
  · have z := c_fr_0' hN
    have y := c_wo_y h1 q
    have x := c_it_x h1 q.1
    refine t158 hS q.1.1 ⟨q.1.2.1, x.2.2⟩ (by have := y.2.2.1; omega) ?_
    rw [show p_id c i w = 200 * c + 20 * i + w by unfold p_id; omega]
    intro N1 g1 N2 g2 N3 g3
    have O : ∀ (k : Nat) (m s : Int), ¬ (k = 11 ∧ m = 0 ∧ (s = 95 ∨ s = 100 ∨ s = 101)) → N3 k m s = N k m s := fun k m s q => by rw [g3, g2, g1]; unfold qU; rw [if_neg (by omega), if_neg (by omega), if_neg (by omega)]
    have fr3 : c_fr N N3 := fun k m s q => O k m s (fun z => q (Or.inr (Or.inr (Or.inr (Or.inr (Or.inr (Or.inr ⟨z.1, by omega⟩)))))))
    refine ⟨q.1.1, hv M1 f1 h1 m q N3 (c_fr_t z.1 fr3) (by rw [g3, qU_s]) (by rw [g3, qU_l (by decide), g2, qU_l (by decide), g1, qU_s]) (by rw [g3, qU_l (by decide), g2, qU_s]) _ _ _ (fun N' O' => ?_)⟩
    have fr4 : c_fr N3 N' := fun k m s q => O' k m s (fun z => q (by unfold c_scr; omega))
    refine H1 q m N' (c_fr_t z.1 (c_fr_t fr3 fr4)) ?_ ?_
    · rw [O' _ _ _ (by omega), O _ _ _ (by omega)]; exact z.2.1
    · rw [O' _ _ _ (by omega), O _ _ _ (by omega)]; exact z.2.2
  · rcases hN with ⟨q, hN⟩ | ⟨q, m, hN⟩
    · exact H2 q 0 N hN
    · exact H3 q m 0 N hN
theorem y126 {d d' : Nat} {h : qH} (hS : qSe h) {n c i w : Int} {B : pT} {M : qM} (hn : n < 512) (hr : c_rl n B M) : e126 (d + 4) h c i w M (p_ok (n + 1) (e250 (d' + 6) h c i w)) (p_ex (n + 1) (e250 (d' + 6) h c i w) 0 2 1) := by
  refine w126 hS (y_aw2 hS hn hr (fun z => m_250 hS 0 (fun M1 f1 _ m q _ _ => un_made f1 z m q)) (fun q m => ?_))
  obtain ⟨en, W, R, L, hx⟩ := y_mdx hr m
  have y := c_wo_y hr q
  have x := c_it_x hr q.1
  refine t147 hS q.1.1 ⟨q.1.2.1, x.2.2⟩ y.2.2.1 ⟨y.1, ?_⟩
  have i0 := q.1.2.1
  have i1 := x.2.2
  have w0 := y.2.2.1
  rw [hx.2.2.2.2.1.2.2.1 c q.1.1.1 q.1.1.2 _ (by omega) (by omega)]
  have hB := hr.1.2.1
  have pb := c_p0_b hB
  have N0 : 0 < B 0 c := by have := q.1.2; omega
  obtain ⟨ob, B1, R1, out⟩ := hx.2.2.1
  refine y_ms_v hn hr (m_250 hS _ (fun M1 f1 h1 m1 _ N fN e95 e100 e101 u2 u3 F hF => ?_)) q m (fun _ _ _ => rfl)
  have hN := c_rl_fr fN h1
  have hxN := c_mdx_fr (c_fr_t f1 fN) hx
  rw [((y_cd hxN q.1.1).2 N0).2.2.1]
  exact t250_40 hS (B := B) (W := W) (R := R) hB ⟨pb.2.2.1, by omega⟩ out hN.2.1.2.1 hxN.2.2.2.2.2.1.1 hN.2.2.2.2.1.2.2.2.2.1.2.1 q.1.1 N0 e95 e100 e101 hF
theorem t254 {d : Nat} {h : qH} (hS : qSe h) {t : Int} {M : qM} {F : Int → qM → Prop} (H1 : 0 ≤ t ∧ t < 10 → M 11 0 22 ≠ 0 → ∀ N, N = qU M 11 0 0 0 → e252 (d + 3) h t N F) (H2 : ¬ (0 ≤ t ∧ t < 10) → ∀ b N, N = qU M 11 0 0 1 → F b N) (H3 : 0 ≤ t ∧ t < 10 → M 11 0 22 = 0 → ∀ b N, N = qU M 11 0 0 2 → F b N) : e254 (d + 4) h t M F := by
  refine w254 hS (t152 hS (fun q x hx N hN => ?_) (fun q x hx N hN => ?_))
  · have e : N 11 0 0 = x := by rw [hN, qU_s]
    rw [e]
    rw [if_neg (by decide)] at hx
    by_cases m : M 11 0 22 = 0
    · rw [if_pos m] at hx
      exact ⟨fun z => by omega, fun _ => H3 (by omega) m 0 N (by rw [hN, hx])⟩
    · rw [if_neg m] at hx
      exact ⟨fun _ => H1 (by omega) m N (by rw [hN, hx]), fun z => by omega⟩
  · have e : N 11 0 0 = x := by rw [hN, qU_s]
    rw [e]
    rw [if_pos rfl] at hx
    exact ⟨fun z => by omega, fun _ => H2 (by omega) 0 N (by rw [hN, hx])⟩
theorem c_fr_251 {M M' : qM} (O : fr251 M M') : c_fr M M' := fun k m s q => O k m s (fun z => q (by unfold c_scr; omega))
theorem y127 {d d' : Nat} {h : qH} (hS : qSe h) {n t : Int} {B : pT} {M : qM} (hn : n < 512) (hr : c_rl n B M) : e127 (d + 3) h t M (p_ok (n + 1) (e254 (d' + 4) h t)) (p_ex (n + 1) (e254 (d' + 4) h t) 0 2 1) := by
  have y := (y_b hr).2.2.1
  refine w127 hS (t136 hS (fun q => t138 hS (fun m => ⟨q, ?_⟩) (fun m => Or.inr (Or.inl ⟨rfl, by decide, p_exc hn hr (fun F H => t254 hS (fun _ z => absurd (y.mp m) z) (fun z => absurd q z) (fun _ _ => H))⟩))) (fun q => Or.inr (Or.inr ⟨rfl, by decide, p_exc hn hr (fun F H => t254 hS (fun z => absurd z q) (fun _ => H) (fun z => absurd z q))⟩)))
  obtain ⟨en, W, R, L, hx⟩ := y_mdx hr m
  refine p_ans hn hr (fun M1 f1 h1 F H => t254 hS (fun _ _ N hN => ?_) (fun z => absurd q z) (fun _ z => absurd (y.mpr (by rw [← f1 11 0 22 (by unfold c_scr; omega)]; exact z)) m))
  have z := c_fr_0' hN
  have hxN := c_mdx_fr (c_fr_t f1 z.1) hx
  have w := y_mw (c_rl_fr z.1 h1) hxN
  have iv := w.2.2.2 t q.1 q.2
  have e27 : N 27 0 t = M 27 0 t := c_fr_t f1 z.1 27 0 t (by unfold c_scr; omega)
  rw [e27] at iv
  exact t252 hS w.1 w.2.1 w.2.2.1 iv.1 (by omega) (fun N' O' => H N' (c_fr_t z.1 (c_fr_251 O')) (by rw [O' _ _ _ (by omega)]; exact z.2.1) (by rw [O' _ _ _ (by omega)]; exact z.2.2))
theorem t255 {d : Nat} {h : qH} (hS : qSe h) {t r ie : Int} {M : qM} {F : Int → qM → Prop} (H1 : 0 ≤ t ∧ t < 10 → 0 ≤ r → M 11 0 22 ≠ 0 → ∀ N, N = qU M 11 0 0 0 → ∀ u1 u7 : qV, e251 (d + 2) h t N (fun N' => b255_61 d h F u1 r ie 0 (-1) 1 u7 N')) (H2 : ¬ (0 ≤ t ∧ t < 10) → ∀ b N, N = qU M 11 0 0 1 → F b N) (H3 : 0 ≤ t ∧ t < 10 → r < 0 → ∀ b N, N = qU M 11 0 0 2 → F b N) (H4 : 0 ≤ t ∧ t < 10 → 0 ≤ r → M 11 0 22 = 0 → ∀ b N, N = qU M 11 0 0 3 → F b N) : e255 (d + 3) h t r ie M F := by
  refine w255 hS (t152 hS (fun q x hx N hN => ?_) (fun q x hx N hN => ?_))
  · have e : N 11 0 0 = x := by rw [hN, qU_s]
    rw [e]
    rw [if_neg (by decide)] at hx
    by_cases r0 : r < 0
    · rw [if_pos r0] at hx
      exact ⟨fun z => by omega, fun _ => H3 (by omega) r0 0 N (by rw [hN, hx])⟩
    · rw [if_neg r0] at hx
      by_cases m : M 11 0 22 = 0
      · rw [if_pos m] at hx
        exact ⟨fun z => by omega, fun _ => H4 (by omega) (by omega) m 0 N (by rw [hN, hx])⟩
      · rw [if_neg m] at hx
        exact ⟨fun _ => H1 (by omega) (by omega) m N (by rw [hN, hx]) _ _, fun z => by omega⟩
  · have e : N 11 0 0 = x := by rw [hN, qU_s]
    rw [e]
    rw [if_pos rfl] at hx
    exact ⟨fun z => by omega, fun _ => H2 (by omega) 0 N (by rw [hN, hx])⟩
theorem y128 {d d' : Nat} {h : qH} (hS : qSe h) {n t r ie : Int} {B : pT} {M : qM} (hn : n < 512) (hr : c_rl n B M) : e128 (d + 3) h t r ie M (p_ok (n + 1) (e255 (d' + 3) h t r ie)) (p_ex (n + 1) (e255 (d' + 3) h t r ie) 2 3 1) := by
  have y := (y_b hr).2.2.1
  refine w128 hS (t136 hS (fun q => ⟨fun r0 => Or.inl ⟨rfl, by decide, p_exc hn hr (fun F H => t255 hS (fun _ z => absurd r0 (by omega)) (fun z => absurd q z) (fun _ _ => H) (fun _ z => absurd r0 (by omega)))⟩, fun r0 => t138 hS (fun m => ⟨q, ?_⟩) (fun m => Or.inr (Or.inl ⟨rfl, by decide, p_exc hn hr (fun F H => t255 hS (fun _ _ z => absurd (y.mp m) z) (fun z => absurd q z) (fun _ z => absurd z r0) (fun _ _ _ => H))⟩))⟩) (fun q => Or.inr (Or.inr ⟨rfl, by decide, p_exc hn hr (fun F H => t255 hS (fun z => absurd z q) (fun _ => H) (fun z => absurd z q) (fun z => absurd z q))⟩)))
  obtain ⟨en, W, R, L, hx⟩ := y_mdx hr m
  have w0 := y_mw hr hx
  have iv0 := w0.2.2.2 t q.1 q.2
  have mdl : ∀ v, (if r < M 27 0 t then (if ie = 0 then M 29 t r else M 31 t r) else -1) = v → p_ok (n + 1) (e255 (d' + 3) h t r ie) v M := fun v hv => by
    refine p_ans hn hr (fun M1 f1 h1 F H => t255 hS (fun _ _ _ N hN u1 u7 => ?_) (fun z => absurd q z) (fun _ z => absurd z r0) (fun _ _ z => absurd (y.mpr (by rw [← f1 11 0 22 (by unfold c_scr; omega)]; exact z)) m))
    have z := c_fr_0' hN
    have hxN := c_mdx_fr (c_fr_t f1 z.1) hx
    have w := y_mw (c_rl_fr z.1 h1) hxN
    refine t251 hS w.1 w.2.1 w.2.2.1 (fun N' O' v1 => ?_)
    refine t255_61 hS u1 u7 (n := M 27 0 t) (a := M 29 t) (b := M 31 t) iv0.1 (by omega) (by omega) v1 ?_
    rw [hv]
    exact H N' (c_fr_t z.1 (c_fr_251 O')) (by rw [O' _ _ _ (by omega)]; exact z.2.1) (by rw [O' _ _ _ (by omega)]; exact z.2.2)
  refine ⟨fun z => ⟨⟨fun _ => ⟨q, by omega, by omega⟩, fun _ => ⟨q, by omega, by omega⟩⟩, fun x hx' => mdl x (by rw [hx', if_pos z])⟩, fun z => mdl (-1) (if_neg z)⟩
