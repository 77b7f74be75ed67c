/-! ===== pairs of answers on items and words ===== -/
theorem y_pg {B : pT} {en L : Int} {W : Int → Int} {R : c_R} {M : qM} (h : c_mdx B en W R L M) : ∃ ob B1 R1, c_out B W ob B1 R1 (c_p0 B) R := h.2.2.1
theorem m_q225 {n c i w : Int} {B : pT} : ∀ M, c_rl n B M → c_wo B c i w → qIn (M 69 0 (200 * c + 20 * i + w) + M 76 0 (200 * c + 20 * i + w)) := fun M h _ => by
  have a := h.2.2.1.2.2.1.2.2 (200 * c + 20 * i + w)
  have b := h.2.2.2.2.1.2.2.2.2.2.1.1 (200 * c + 20 * i + w)
  exact ⟨by omega, by omega⟩
theorem y109 {d d' : Nat} {h : qH} (hS : qSe h) {n c i w : Int} {B : pT} {M : qM} (hn : n < 512) (hr : c_rl n B M) : e109 (d + 4) h c i w M (p_ok (n + 1) (e225 (d' + 6) h c i w)) (p_ex (n + 1) (e225 (d' + 6) h c i w) 0 2 1) := by
  refine w109 hS (y_aw hS hn hr (m_225 hS m_q225) (fun q m => ?_))
  have x := c_it_x hr q.1
  have y := c_wo_y hr q
  have a := hr.2.2.1.2.2.1.1.1 (1 + (10 * c + i)) w
  have b := hr.2.2.2.2.1.2.2.2.1.1 (1 + (10 * c + i)) w
  rw [show 1 + 10 * c + i = 1 + (10 * c + i) by omega]
  refine ⟨q.1.1, ⟨q.1.2.1, x.2.2⟩, t47 hS y.2.2.1 ⟨by omega, by omega⟩ ?_⟩
  obtain ⟨en, W, R, L, hx⟩ := y_mdx hr m
  have val : ∀ M1, c_fr M M1 → c_rl n B M1 → M1 69 0 (200 * c + 20 * i + w) + M1 76 0 (200 * c + 20 * i + w) = M 32 (1 + (10 * c + i)) w + M 35 (1 + (10 * c + i)) w := fun M1 f1 h1 => by
    have hx1 := c_mdx_fr f1 hx
    have e1 := (hr.2.1.1.2.2 (200 * c + 20 * i + w) y.1.1 y.1.2).2.2
    have e2 := hx.2.2.2.2.1.2.1 (200 * c + 20 * i + w) y.1.1 y.1.2 y.2.1
    rw [y.2.2.2.1, y.2.2.2.2] at e1 e2
    rw [e1, e2, (h1.2.1.2.1.2.2.1 (200 * c + 20 * i + w) y.1.1 y.1.2).2.2, hx1.2.2.2.2.2.1.2.2.2.2.2 _ y.1.1 y.1.2]
  exact y_ms_v hn hr (m_225 hS m_q225) q m val
theorem y110 {d d' : Nat} {h : qH} (hS : qSe h) {n c i : Int} {B : pT} {M : qM} (hn : n < 512) (hr : c_rl n B M) : e110 (d + 3) h c i M (p_ok (n + 1) (e228 (d' + 5) h c i)) (p_ex (n + 1) (e228 (d' + 5) h c i) 0 2 1) := by
  refine w110 hS (y_ai hS hn hr (m_228 hS) (fun q m => ?_))
  have x := c_it_x hr q
  obtain ⟨en, W, R, L, hx⟩ := y_mdx hr m
  refine y_ms_v hn hr (m_228 hS) q m (fun M1 f1 h1 => ?_)
  have hx1 := c_mdx_fr f1 hx
  obtain ⟨ob, B1, R1, out⟩ := hx.2.2.1
  rw [((y_b h1).2.1 (10 * c + i) x.1.1 x.1.2).2.2.1, (hx.2.2.2.2.1.1 (10 * c + i) x.1.1 x.1.2).1]
  by_cases z : B 1 (10 * c + i) = 0
  · rw [if_pos z]; exact (hx1.2.2.2.2.2.1.1.1 (10 * c + i) x.1.1 x.1.2 x.2.1 z).1
  · rw [if_neg z]; exact ((out.1 (10 * c + i) x.1.1 x.1.2 x.2.1).2 z).1.symm
theorem y112 {d d' : Nat} {h : qH} (hS : qSe h) {n c i : Int} {B : pT} {M : qM} (hn : n < 512) (hr : c_rl n B M) : e112 (d + 3) h c i M (p_ok (n + 1) (e230 (d' + 5) h c i)) (p_ex (n + 1) (e230 (d' + 5) h c i) 0 2 1) := by
  refine w112 hS (y_ai hS hn hr (m_230 hS) (fun q m => ?_))
  have x := c_it_x hr q
  obtain ⟨en, W, R, L, hx⟩ := y_mdx hr m
  refine y_ms_v hn hr (m_230 hS) q m (fun M1 f1 h1 => ?_)
  have hx1 := c_mdx_fr f1 hx
  obtain ⟨ob, B1, R1, out⟩ := hx.2.2.1
  rw [((y_b h1).2.1 (10 * c + i) x.1.1 x.1.2).2.2.1, (hx.2.2.2.2.1.1 (10 * c + i) x.1.1 x.1.2).2.1]
  by_cases z : B 1 (10 * c + i) = 0
  · rw [if_pos z]; exact (hx1.2.2.2.2.2.1.1.1 (10 * c + i) x.1.1 x.1.2 x.2.1 z).2.1
  · rw [if_neg z]; exact ((out.1 (10 * c + i) x.1.1 x.1.2 x.2.1).2 z).2.symm
/-- of a chapter, the model's tables -/
theorem y_cd {B : pT} {en L : Int} {W : Int → Int} {R : c_R} {M : qM} (h : c_mdx B en W R L M) {c : Int} (hc : 0 ≤ c ∧ c < 3) : m_cd (r_A B R c) (B 0 c) (r_W R c) c M := h.2.2.2.2.2.1.1.2 c hc.1 hc.2
theorem y_ch {B : pT} {en L : Int} {W : Int → Int} {R : c_R} {M : qM} (h : c_mdx B en W R L M) {c : Int} (hc : 0 ≤ c ∧ c < 3) : c_ch (r_A B R c) (B 0 c) (r_W R c) c en M := h.2.2.2.1.1 c hc.1 hc.2
theorem y_87 {B : pT} {en L : Int} {W : Int → Int} {R : c_R} {M : qM} (hB : c_ok B) (h : c_mdx B en W R L M) {c : Int} (hc : 0 ≤ c ∧ c < 3) : M 87 0 c = p_SR (r_A B R c) (B 0 c) := by
  have cd := y_cd h hc
  by_cases q : 0 < B 0 c
  · exact (cd.2 q).1.1
  · have b := (hB.1 c hc.1 hc.2).1
    rw [(cd.1 (by omega)).2.2.1, show B 0 c = 0 by omega]; rfl
theorem y_mk {B : pT} {en L : Int} {W : Int → Int} {R : c_R} {M : qM} (hB : c_ok B) (h : c_mdx B en W R L M) {c : Int} (hc : 0 ≤ c ∧ c < 3) : (B 0 c ≤ 0 → w_fi (r_W R c) = 0 ∧ w_ct (r_W R c) = 0 ∧ w_wr (r_W R c) = 0 ∧ w_co (r_W R c) = 0) ∧ (0 < B 0 c → (0 < w_fi (r_W R c) ∧ w_fi (r_W R c) + w_ct (r_W R c) ≤ 300) ∧ (0 < w_ct (r_W R c) ∧ w_ct (r_W R c) ≤ 83) ∧ g_pages (p_T (r_A B R c) (B 0 c) (B 8 1)) (w_P (r_W R c)) (w_ct (r_W R c)) (w_wr (r_W R c))) := by
  obtain ⟨ob, B1, R1, out⟩ := h.2.2.1
  have mk := (out.2 c hc.1 hc.2).1
  refine ⟨mk.1, fun q => ?_⟩
  have z := (c_la_st hB out.1 (Int.le_refl _) out.2 c hc.1 hc.2).2 q
  have fl := c_fi_la hB out hc q
  have tb := c_tot_b hB out h.2.1
  exact ⟨⟨(mk.2 q).1, by omega⟩, ⟨by omega, z.2.2.2.2⟩, (mk.2 q).2.2⟩
theorem y113 {d d' : Nat} {h : qH} (hS : qSe h) {n c : Int} {B : pT} {M : qM} (hn : n < 512) (hr : c_rl n B M) : e113 (d + 2) h c M (p_ok (n + 1) (e232 (d' + 4) h c)) (p_ex (n + 1) (e232 (d' + 4) h c) 0 2 1) := by
  refine w113 hS (y_ac hS hn hr (m_232 hS) (fun q m => ?_))
  obtain ⟨en, W, R, L, hx⟩ := y_mdx hr m
  obtain ⟨e0, h8, he⟩ := hr.2.2.1.2.2.2
  refine ⟨fun z => by omega, fun _ => ⟨q, ?_⟩, fun z => by omega⟩
  refine y_ms_v hn hr (m_232 hS) q m (fun M1 f1 h1 => ?_)
  have hx1 := c_mdx_fr f1 hx
  have e : M 10 0 8 - 1 = en := by have := hx.1; omega
  rw [e, y_87 hr.1.2.1 hx1 q]
  exact (y_ch hx q).1.1.1.symm
theorem y120 {d d' : Nat} {h : qH} (hS : qSe h) {n c : Int} {B : pT} {M : qM} (hn : n < 512) (hr : c_rl n B M) : e120 (d + 2) h c M (p_ok (n + 1) (e241 (d' + 4) h c)) (p_ex (n + 1) (e241 (d' + 4) h c) 0 2 1) := by
  refine w120 hS (y_ac hS hn hr (m_241 hS) (fun q m => ?_))
  obtain ⟨en, W, R, L, hx⟩ := y_mdx hr m
  obtain ⟨e0, h8, he⟩ := hr.2.2.1.2.2.2
  refine ⟨fun z => by omega, fun _ => ⟨q, ?_⟩, fun z => by omega⟩
  refine y_ms_v hn hr (m_241 hS) q m (fun M1 f1 h1 => ?_)
  have hx1 := c_mdx_fr f1 hx
  have e : M 10 0 8 - 1 = en := by have := hx.1; omega
  have cd := y_cd hx1 q
  have mk := y_mk hr.1.2.1 hx q
  rw [e, (y_ch hx q).2.2.2.2]
  by_cases z : 0 < B 0 c
  · exact (cd.2 z).2.2.2.2.1
  · rw [(cd.1 (by omega)).2.2.2, (mk.1 (by omega)).2.2.2]
theorem y117 {d d' : Nat} {h : qH} (hS : qSe h) {n c b : Int} {B : pT} {M : qM} (hn : n < 512) (hr : c_rl n B M) : e117 (d + 2) h c b M (p_ok (n + 1) (e238 (d' + 4) h c b)) (p_ex (n + 1) (e238 (d' + 4) h c b) 0 2 1) := by
  refine w117 hS (y_ac hS hn hr (m_238 hS) (fun q m => ?_))
  obtain ⟨en, W, R, L, hx⟩ := y_mdx hr m
  obtain ⟨e0, h8, he⟩ := hr.2.2.1.2.2.2
  have e : M 10 0 8 - 1 = en := by have := hx.1; omega
  have ch := y_ch hx q
  have mk := y_mk hr.1.2.1 hx q
  rw [e]
  have c8 : M 8 (0 + 3 * en + c) 1 = w_ct (r_W R c) := ch.2.1.1
  have f8 : M 8 (0 + 3 * en + c) 0 = w_fi (r_W R c) := ch.2.2.1
  rw [c8, f8]
  refine ⟨fun z => by omega, fun _ => ⟨q, fun z => ?_, fun z => ?_⟩, fun z => by omega⟩
  · have z0 : ¬ 0 < B 0 c := fun y => by have := (mk.2 y).2.1; omega
    refine y_ms_v hn hr (m_238 hS) q m (fun M1 f1 h1 => ?_)
    have cd := (y_cd (c_mdx_fr f1 hx) q).1 (by omega)
    show (if b = 0 then M1 114 0 c else M1 115 0 c) = -1
    rw [cd.1, cd.2.1]
    split <;> rfl
  · have z0 : 0 < B 0 c := Classical.byContradiction fun y => z (mk.1 (by omega)).2.1
    have mk2 := mk.2 z0
    refine ⟨fun _ => ⟨⟨by omega, by omega⟩, ⟨by omega, by omega⟩⟩, fun x hx' => ?_⟩
    rw [hx']
    refine y_ms_v hn hr (m_238 hS) q m (fun M1 f1 h1 => ?_)
    have cd := (y_cd (c_mdx_fr f1 hx) q).2 z0
    show (if b = 0 then M1 114 0 c else M1 115 0 c) = _
    rw [cd.2.2.1, cd.2.2.2.1]
theorem y114 {d d' : Nat} {h : qH} (hS : qSe h) {n : Int} {B : pT} {M : qM} (hn : n < 512) (hr : c_rl n B M) : e114 (d + 2) h M (p_ok (n + 1) (e234 (d' + 2) h)) (p_ex (n + 1) (e234 (d' + 2) h) 0 1 0) := by
  have y := (y_b hr).2.2.1
  refine w114 hS (t138 hS (fun m => ?_) (fun m => Or.inr (Or.inl ⟨rfl, by decide, p_exc hn hr (fun F H => t234 hS (fun z => absurd (y.mp m) z) (fun _ => H 0))⟩)))
  obtain ⟨en, W, R, L, hx⟩ := y_mdx hr m
  refine p_ans0 hn hr (fun M1 f1 h1 F H => t234 hS (fun _ => ?_) (fun z => absurd (y.mpr (by rw [← f1 11 0 22 (by unfold c_scr; omega)]; exact z)) m))
  have e : M1 11 0 23 = M 2 0 9 := by rw [f1 11 0 23 (by unfold c_scr; omega)]; exact hx.2.2.2.2.2.2.1.symm
  rw [e]; exact H
theorem y122 {d d' : Nat} {h : qH} (hS : qSe h) {n : Int} {B : pT} {M : qM} (hn : n < 512) (hr : c_rl n B M) : e122 (d + 2) h M (p_ok (n + 1) (e243 (d' + 2) h)) (p_ex (n + 1) (e243 (d' + 2) h) 0 1 0) := by
  have y := (y_b hr).2.2.1
  refine w122 hS (t138 hS (fun m => ?_) (fun m => Or.inr (Or.inl ⟨rfl, by decide, p_exc hn hr (fun F H => t243 hS (fun z => absurd (y.mp m) z) (fun _ => H 0))⟩)))
  obtain ⟨en, W, R, L, hx⟩ := y_mdx hr m
  have b := hx.2.2.2.2.2.2.2.2
  refine ⟨b, p_ans0 hn hr (fun M1 f1 h1 F H => t243 hS (fun _ => ?_) (fun z => absurd (y.mpr (by rw [← f1 11 0 22 (by unfold c_scr; omega)]; exact z)) m))⟩
  have e : M1 11 0 21 = M 2 0 10 := by rw [f1 11 0 21 (by unfold c_scr; omega)]; exact hx.2.2.2.2.2.2.2.1.symm
  have e2 : (if M1 11 0 21 = 0 then (0 : Int) else 1) = M 2 0 10 := by rw [e]; split <;> omega
  rw [e2]; exact H
theorem y115 {d d' : Nat} {h : qH} (hS : qSe h) {n : Int} {B : pT} {M : qM} (hn : n < 512) (hr : c_rl n B M) : e115 (d + 2) h M (p_ok (n + 1) (e235 (d' + 2) h)) (p_ex (n + 1) (e235 (d' + 2) h) 0 1 0) := by
  have y := (y_b hr).2.2.1
  refine w115 hS (t138 hS (fun m => ?_) (fun m => Or.inr (Or.inl ⟨rfl, by decide, p_exc hn hr (fun F H => t235 hS (fun z => absurd (y.mp m) z) (fun _ => H 0))⟩)))
  obtain ⟨en, W, R, L, hx⟩ := y_mdx hr m
  obtain ⟨e0, h8, he⟩ := hr.2.2.1.2.2.2
  have ee : M 10 0 8 - 1 = en := by have := hx.1; omega
  refine ⟨fun z => by omega, fun _ => ?_, fun z => by omega⟩
  rw [ee]
  refine p_ans0 hn hr (fun M1 f1 h1 F H => t235 hS (fun _ => ?_) (fun z => absurd (y.mpr (by rw [← f1 11 0 22 (by unfold c_scr; omega)]; exact z)) m))
  have e : M1 11 0 58 = M 3 en 5 := by rw [(c_mdx_fr f1 hx).2.2.2.2.2.1.2.1]; exact hx.2.2.2.1.2.2.2.2.2.symm
  rw [e]; exact H
