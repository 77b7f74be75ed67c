/-! ===== textOf, noteOf, marginOf, the index, sheets ===== -/
theorem y_mw {n en L : Int} {B : pT} {W : Int → Int} {R : c_R} {M : qM} (h : c_rl n B M) (hx : c_mdx B en W R L M) : b_wd (c_K B) (B 5) M ∧ b_pl (c_K B) (c_G B R) M ∧ (∀ y, 0 ≤ y → y < 600 → c_K B y ≠ 0 → 1 ≤ c_G B R y ∧ c_G B R y ≤ 398) ∧ ∀ t, 0 ≤ t → t < 10 → x_iv (M 27 0 t) (M 29 t) (M 31 t) (x_on (c_K B) (B 5) (c_G B R) t 600) ∧ M 27 0 t ≤ 180 := by
  have hB := h.1.2.1
  obtain ⟨ob, B1, R1, out⟩ := hx.2.2.1
  have pb := c_p0_b hB
  have gb : ∀ y, 0 ≤ y → y < 600 → c_K B y ≠ 0 → 1 ≤ c_G B R y ∧ c_G B R y ≤ 398 := fun y y0 y1 k => by
    have := c_G_b hB ⟨pb.2.2.1, by omega⟩ out ⟨y0, y1⟩ (c_K_there k); omega
  refine ⟨m_bk_wd h.1.2.2 h.2.1.2.1, fun y y0 y1 k => m_ed0_at hB out hx.2.2.2.2.2.1.1 ⟨y0, y1⟩ (c_K_there k), gb, fun t a b => ?_⟩
  have ix := hx.2.2.2.2.1.2.2.2.1 t a b
  refine ⟨x_idx_iv ix gb, ?_⟩
  have cw := c_words hB
  have x := ix.1
  have l : p_sum (fun y => if c_K B y = 4 then (1 : Int) else 0) 600 ≤ p_sum (fun y => @ite Int (c_there B y) (Classical.propDecidable _) 1 0) 600 := p_sum_le2 (by decide) (fun k a b => by
    by_cases q : c_K B k = 4
    · rw [if_pos q, if_pos (c_K_there (by omega))]; exact Int.le_refl _
    · rw [if_neg q]; split <;> omega)
  omega
theorem y_aw2 {d : Nat} {h : qH} (hS : qSe h) {n c i w : Int} {B : pT} {M : qM} {val : qM → Int} {mc : qM → (Int → qM → Prop) → Prop} {f : qM → Prop} (hn : n < 512) (hr : c_rl n B M) (hm : (c_wo B c i w → M 11 0 22 = 0) → y_ms n B M (c_wo B c i w) val mc) (H : c_wo B c i w → M 10 0 13 ≠ 0 → f M) : e135 (d + 3) h c i w M (fun M' => e138 (d + 1) h M' (fun M'' => f M'') (p_ex (n + 1) mc 0 2 1)) (p_ex (n + 1) mc 0 2 1) :=
  t135 hS (y_b hr).2.2.2.1 (fun q => t138 hS (fun m => H ((y_wo hr).1.mp q) m) (fun m => Or.inr (Or.inl ⟨rfl, by decide, y_ms_un hn hr (hm (fun _ => (y_b hr).2.2.1.mp m)) ((y_wo hr).1.mp q) m⟩))) (fun q => Or.inr (Or.inr ⟨rfl, by decide, y_ms_no hn hr (hm (fun z => absurd ((y_wo hr).1.mpr z) q)) (fun z => q ((y_wo hr).1.mpr z))⟩))
theorem c_there_KB {B : pT} {y : Int} (h : c_there B y) : c_K B y = B 4 y := if_pos h
theorem un_made {M M1 : qM} {Q : Prop} {P : Prop} (f1 : c_fr M M1) (z : Q → M 11 0 22 = 0) (m : M1 11 0 22 ≠ 0) (q : Q) : P := absurd (by rw [f1 11 0 22 (by unfold c_scr; omega)]; exact z q) m
theorem c_fr_251 {M M' : qM} (O : fr251 M M') : c_fr M M' := fun k m s q => O k m s (fun z => q (by unfold c_scr; omega))
