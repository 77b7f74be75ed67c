/-! ===== pairs of answers on items and words ===== -/
theorem y_pg {B : pT} {en L : Int} {W : Int → Int} {R : c_R} {M : qM} (h : c_mdx B en W R L M) : ∃ ob B1 R1, c_out B W ob B1 R1 (c_p0 B) R := h.2.2.1
theorem m_q225 {n c i w : Int} {B : pT} : ∀ M, c_rl n B M → c_wo B c i w → qIn (M 69 0 (200 * c + 20 * i + w) + M 76 0 (200 * c + 20 * i + w)) := fun M h _ => by
  have a := h.2.2.1.2.2.1.2.2 (200 * c + 20 * i + w)
  have b := h.2.2.2.2.1.2.2.2.2.2.1.1 (200 * c + 20 * i + w)
  exact ⟨by omega, by omega⟩
/-- of a chapter, the model's tables -/
theorem y_cd {B : pT} {en L : Int} {W : Int → Int} {R : c_R} {M : qM} (h : c_mdx B en W R L M) {c : Int} (hc : 0 ≤ c ∧ c < 3) : m_cd (r_A B R c) (B 0 c) (r_W R c) c M := h.2.2.2.2.2.1.1.2 c hc.1 hc.2
theorem y_ch {B : pT} {en L : Int} {W : Int → Int} {R : c_R} {M : qM} (h : c_mdx B en W R L M) {c : Int} (hc : 0 ≤ c ∧ c < 3) : c_ch (r_A B R c) (B 0 c) (r_W R c) c en M := h.2.2.2.1.1 c hc.1 hc.2
theorem y_87 {B : pT} {en L : Int} {W : Int → Int} {R : c_R} {M : qM} (hB : c_ok B) (h : c_mdx B en W R L M) {c : Int} (hc : 0 ≤ c ∧ c < 3) : M 87 0 c = p_SR (r_A B R c) (B 0 c) := by
  have cd := y_cd h hc
  by_cases q : 0 < B 0 c
  · exact (cd.2 q).1.1
  · have b := (hB.1 c hc.1 hc.2).1
    rw [(cd.1 (by omega)).2.2.1, show B 0 c = 0 by omega]; rfl
theorem y_mk {B : pT} {en L : Int} {W : Int → Int} {R : c_R} {M : qM} (hB : c_ok B) (h : c_mdx B en W R L M) {c : Int} (hc : 0 ≤ c ∧ c < 3) : (B 0 c ≤ 0 → w_fi (r_W R c) = 0 ∧ w_ct (r_W R c) = 0 ∧ w_wr (r_W R c) = 0 ∧ w_co (r_W R c) = 0) ∧ (0 < B 0 c → (0 < w_fi (r_W R c) ∧ w_fi (r_W R c) + w_ct (r_W R c) ≤ 300) ∧ (0 < w_ct (r_W R c) ∧ w_ct (r_W R c) ≤ 83) ∧ g_pages (p_T (r_A B R c) (B 0 c) (B 8 1)) (w_P (r_W R c)) (w_ct (r_W R c)) (w_wr (r_W R c))) := by
  obtain ⟨ob, B1, R1, out⟩ := h.2.2.1
  have mk := (out.2 c hc.1 hc.2).1
  refine ⟨mk.1, fun q => ?_⟩
  have z := (c_la_st hB out.1 (Int.le_refl _) out.2 c hc.1 hc.2).2 q
  have fl := c_fi_la hB out hc q
  have tb := c_tot_b hB out h.2.1
  exact ⟨⟨(mk.2 q).1, by omega⟩, ⟨by omega, z.2.2.2.2⟩, (mk.2 q).2.2⟩
