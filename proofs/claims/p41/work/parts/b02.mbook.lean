/-! ===== the book, and what was printed, in the model ===== -/
def m_bk (B : pT) (M : qM) : Prop := (∀ c, 0 ≤ c → c < 3 → M 64 0 c = B 0 c) ∧ (∀ x, 0 ≤ x → x < 30 → M 65 0 x = B 1 x ∧ M 66 0 x = B 2 x ∧ M 67 0 x = B 3 x) ∧ (∀ y, 0 ≤ y → y < 600 → M 70 0 y = B 4 y ∧ M 71 0 y = B 5 y ∧ M 69 0 y = B 6 y) ∧ M 11 0 1 = B 8 0 ∧ M 11 0 2 = B 8 1 ∧ M 11 0 3 = B 8 2
theorem m_rep {B : pT} {L : Int → Int} {E : Int → Int → Int} {c i : Int} {M : qM} (h : m_bk B M) (hc : 0 ≤ c ∧ c < 3) (hi : 0 ≤ i ∧ i < 10) (hl : B 1 (10 * c + i) = 0 → M 81 0 (10 * c + i) = L (10 * c + i) ∧ ∀ s, 0 ≤ s → s < L (10 * c + i) → M 82 0 (20 * (10 * c + i) + s) = E (10 * c + i) s) : p_mrep (c_A B L E c) M c i := by
  have v := fun w => c_A_v (B := B) (L := L) (E := E) (c := c) (i := i) (w := w) hi
  have b := h.2.1 (10 * c + i) (by omega) (by omega)
  unfold p_mrep
  rw [(v 0).1, (v 0).2.1, (v 0).2.2.1, (v 0).2.2.2.2.2.2]
  refine ⟨b.1, b.2.1, fun q => (hl q).1, b.2.2, fun s a k q => by rw [(v s).2.2.2.1]; exact (hl q).2 s a k, fun w w0 w1 => ?_⟩
  have y := h.2.2.1 (20 * (10 * c + i) + w) (by omega) (by omega)
  unfold p_id
  rw [(v w).2.2.2.2.1, (v w).2.2.2.2.2.1]
  exact ⟨y.1, y.2.1⟩
def m_om (B Bo : pT) (Ro : c_R) (M : qM) : Prop := (M 11 0 73 ≠ 0 ∧ M 11 0 75 = Bo 8 0 ∧ M 11 0 76 = Bo 8 1) ∧ (∀ c, 0 ≤ c → c < 3 → M 119 0 c = p_SR (r_A Bo Ro c) (Bo 0 c) ∧ (∀ q, 0 ≤ q → q < p_SR (r_A Bo Ro c) (Bo 0 c) → M 121 0 (70 * c + q) = p_ri (r_A Bo Ro c) q ∧ M 122 0 (70 * c + q) = p_fr (r_A Bo Ro c) q ∧ M 123 0 (70 * c + q) = p_to (r_A Bo Ro c) q) ∧ (Bo 0 c ≤ 0 → M 118 0 c = -1 ∧ w_fi (r_W Ro c) = 0) ∧ (0 < Bo 0 c → m_old M c (w_P (r_W Ro c)) (w_wr (r_W Ro c)) (w_ct (r_W Ro c)) (w_fi (r_W Ro c) - 1))) ∧ ∀ x, 0 ≤ x → x < 30 → x % 10 < Bo 0 (x / 10) → (M 68 0 x = M 120 0 x ↔ B 7 x = Bo 7 x)
theorem m_same_row {B Bo : pT} {Ro : c_R} {A : pA} {c : Int} {M : qM} (hA : p_okA A (B 0 c)) (hA' : p_okA (r_A Bo Ro c) (Bo 0 c)) (hc : 0 ≤ c ∧ c < 3) (h1 : p_mR A c (p_SR A (B 0 c)) M) (ho : m_om B Bo Ro M) (r : Int) (hr : 0 ≤ r) : m_srow M c r ↔ c_same A (r_A Bo Ro c) (B 0 c) (Bo 0 c) (c_ss B Bo c) r := by
  obtain ⟨o1, o2, o3⟩ := ho
  have oc := o2 c hc.1 hc.2
  unfold m_srow c_same
  rw [h1.1, oc.1]
  by_cases q : r < p_SR A (B 0 c) ∧ r < p_SR (r_A Bo Ro c) (Bo 0 c)
  · have a := h1.2 r hr q.1
    have b := oc.2.1 r hr q.2
    rw [a.1, a.2.2.1, a.2.2.2.1, b.1, b.2.1, b.2.2]
    have ri := (p_row_in hA ⟨hr, q.1⟩).1
    have ri' := (p_row_in hA' ⟨hr, q.2⟩).1
    have cn := hA.1
    have cn' := hA'.1
    by_cases e1 : p_ri A r = p_ri (r_A Bo Ro c) r
    · have x2 := o3 (10 * c + p_ri A r) (by omega) (by omega) (by rw [show (10 * c + p_ri A r) / 10 = c by omega]; omega)
      unfold c_ss
      exact ⟨fun z => ⟨q, z.2.2.1, z.2.2.2.2.1, z.2.2.2.2.2, x2.mp z.2.2.2.1⟩, fun z => ⟨q.1, q.2, z.2.1, x2.mpr z.2.2.2.2, z.2.2.1, z.2.2.2.1⟩⟩
    · exact ⟨fun z => absurd z.2.2.1 e1, fun z => absurd z.2.1 e1⟩
  · exact ⟨fun z => absurd ⟨z.1, z.2.1⟩ q, fun z => absurd z.1 q⟩
theorem g_keepP_on {T O P : pT} {same : Int → Prop} {wo n : Int} {on on' : Prop} (e : on ↔ on') (h : g_keepP T O same wo on P n) : g_keepP T O same wo on' P n := by
  rcases h with h | h
  · exact Or.inl ⟨e.mp h.1, h.2⟩
  · exact Or.inr ⟨fun z => h.1 (e.mpr z), h.2⟩
theorem g_made_mono {T P : pT} {keep keep' : pT → Int → Prop} {c cost : Int} (h : ∀ Q n, keep Q n → keep' Q n) (hm : g_made T keep P c cost) : g_made T keep' P c cost := by
  obtain ⟨Q, n, a1, a2⟩ := hm
  exact ⟨Q, n, h _ _ a1, a2⟩
theorem g_none_mono {T : pT} {keep keep' : pT → Int → Prop} (h : ∀ Q n, keep Q n → keep' Q n) (hm : g_none T keep) : g_none T keep' := by
  obtain ⟨Q, n, a1, a2⟩ := hm
  exact ⟨Q, n, h _ _ a1, a2⟩
theorem c_keep_u {B : pT} {A : pA} {ob : Prop} {Bo : pT} {Ro : c_R} {c fi : Int} : ∀ Q n Q' n', c_keep B A ob Bo Ro c fi Q n → c_keep B A ob Bo Ro c fi Q' n' → n' = n ∧ g_eq Q Q' n := fun Q n Q' n' h h' => by
  rcases h with ⟨a1, a2⟩ | ⟨a1, a2⟩ <;> rcases h' with ⟨b1, b2⟩ | ⟨b1, b2⟩
  · exact ⟨by omega, fun j k _ k0 k1 => by omega⟩
  · exact absurd b1 a1
  · exact absurd a1 b1
  · exact g_keepP_u a2 b2
/-- what the model keeps is what the picture keeps -/
theorem m_keep {B Bo : pT} {Ro : c_R} {A : pA} {ob : Prop} {c b p0 : Int} {M : qM} (hA : p_okA A (B 0 c)) (hc : 0 ≤ c ∧ c < 3) (h1 : p_mR A c (p_SR A (B 0 c)) M) (hbk : m_bk B M) (hp : 0 ≤ p0) (ho : (¬ ob ∧ b = 0) ∨ (ob ∧ b ≠ 0 ∧ m_om B Bo Ro M ∧ c_was A (r_A Bo Ro c) (B 0 c) (Bo 0 c) (Bo 8 1) (c_ss B Bo c) (w_P (r_W Ro c)) (w_ct (r_W Ro c)) (w_wr (r_W Ro c)))) : ∀ Q n, (if b = 0 then fun (_ : pT) (ck : Int) => ck = 0 else g_keepP (p_T A (B 0 c) (B 8 1)) (w_P (r_W Ro c)) (m_srow M c) (w_wr (r_W Ro c)) (M 11 0 73 ≠ 0 ∧ M 11 0 75 = M 11 0 1 ∧ M 11 0 76 = M 11 0 2 ∧ M 118 0 c = p0 + 1)) Q n → c_keep B A ob Bo Ro c (p0 + 1) Q n := fun Q n h => by
  rcases ho with ⟨o1, o2⟩ | ⟨o1, o2, o3, o4⟩
  · rw [if_pos o2] at h
    exact Or.inl ⟨o1, h⟩
  · rw [if_neg o2] at h
    have oc := o3.2.1 c hc.1 hc.2
    refine Or.inr ⟨o1, g_keepP_on ?_ (g_keepP_cg (c_was_old o4).1 (fun r r0 => m_same_row hA o4.1.1 hc h1 o3 r r0) h)⟩
    rw [o3.1.2.1, o3.1.2.2, hbk.2.2.2.1, hbk.2.2.2.2.1]
    by_cases q : 0 < Bo 0 c
    · have m := (oc.2.2.2 q).2.2.1
      rw [m]
      exact ⟨fun z => ⟨z.2.1, z.2.2.1, by omega⟩, fun z => ⟨o3.1.1, z.1, z.2.1, by omega⟩⟩
    · have m := oc.2.2.1 (by omega)
      rw [m.1, m.2]
      exact ⟨fun z => by have := z.2.2.2; omega, fun z => by have := z.2.2; omega⟩
/-- pages of a chapter in the model, behind page p0 -/
def m_pg (P : pT) (ct p0 c : Int) (M : qM) : Prop := ∀ k, 0 ≤ k → k < ct → (M 105 0 (p0 + 1 + k) = c ∧ M 106 0 (p0 + 1 + k) = g_bf P 0 k ∧ M 107 0 (p0 + 1 + k) = P 0 k - g_bf P 0 k ∧ M 108 0 (p0 + 1 + k) = g_bf P 1 k ∧ M 109 0 (p0 + 1 + k) = P 1 k - g_bf P 1 k ∧ M 110 0 (p0 + 1 + k) = g_bf P 2 k ∧ M 111 0 (p0 + 1 + k) = P 2 k - g_bf P 2 k ∧ M 112 0 (p0 + 1 + k) = P 3 k ∧ M 113 0 (p0 + 1 + k) = P 4 k) ∧ ∀ r, g_bf P 0 k ≤ r → r < P 0 k → M 92 0 (70 * c + r) = p0 + 1 + k
theorem m_pg_eq {P P' : pT} {ct p0 c : Int} {M : qM} (h : g_eq P P' ct) (hp : m_pg P' ct p0 c M) : m_pg P ct p0 c M := fun k k0 k1 => by
  have b := g_eq_bf h (k := k) ⟨k0, by omega⟩
  have p := hp k k0 k1
  rw [b.1, b.2.1, b.2.2.1, h 0 k (by decide) k0 k1, h 1 k (by decide) k0 k1, h 2 k (by decide) k0 k1, h 3 k (by decide) k0 k1, h 4 k (by decide) k0 k1] at p
  exact p
/-- a chapter in the model -/
def m_cd (A : pA) (cnt : Int) (w : c_W) (c : Int) (M : qM) : Prop := (cnt ≤ 0 → M 114 0 c = -1 ∧ M 115 0 c = -1 ∧ M 87 0 c = 0 ∧ M 116 0 c = 0) ∧ (0 < cnt → p_mR A c (p_SR A cnt) M ∧ m_pg (w_P w) (w_ct w) (w_fi w - 1) c M ∧ M 114 0 c = w_fi w ∧ M 115 0 c = w_fi w + w_ct w - 1 ∧ M 116 0 c = w_co w ∧ p_mw A c cnt 0 M)
def m_ag (c pm : Int) (M M' : qM) : Prop := ∀ (k : Nat) (s : Int), ((k = 87 ∨ k = 94 ∨ k = 96 ∨ (114 ≤ k ∧ k ≤ 116)) ∧ s = c) ∨ (88 ≤ k ∧ k ≤ 92 ∧ 70 * c ≤ s ∧ s < 70 * c + 70) ∨ (k = 93 ∧ 200 * c ≤ s ∧ s < 200 * c + 200) ∨ (105 ≤ k ∧ k ≤ 113 ∧ s ≤ pm) ∨ (k = 95 ∧ 4 * c ≤ s ∧ s < 4 * c + 4) ∨ ((k = 97 ∨ k = 98) ∧ 12 * c ≤ s ∧ s < 12 * c + 12) → M' k 0 s = M k 0 s
theorem m_cd_fr {A : pA} {cnt : Int} {w : c_W} {c pm : Int} {M M' : qM} (hA : p_okB A cnt) (hpg : 0 < cnt → ∃ D, g_pages (p_T A cnt D) (w_P w) (w_ct w) (w_wr w)) (h : m_cd A cnt w c M) (hp : 0 < cnt → w_fi w + w_ct w - 1 ≤ pm) (hf : m_ag c pm M M') : m_cd A cnt w c M' := by
  refine ⟨fun q => ?_, fun q => ?_⟩
  · rw [hf _ _ (by omega), hf _ _ (by omega), hf _ _ (by omega), hf _ _ (by omega)]; exact h.1 q
  · obtain ⟨a1, a2, a3, a4, a5, a6⟩ := h.2 q
    obtain ⟨D, pg⟩ := hpg q
    have hok := hA.1
    have cn := hok.1
    have t67 := hA.2.2
    have hpm := hp q
    refine ⟨⟨by rw [hf _ _ (by omega)]; exact a1.1, fun r r0 r1 => ?_⟩, fun k k0 k1 => ?_, by rw [hf _ _ (by omega)]; exact a3, by rw [hf _ _ (by omega)]; exact a4, by rw [hf _ _ (by omega)]; exact a5, by rw [hf _ _ (by omega)]; exact a6.1, by rw [hf _ _ (by omega)]; exact a6.2.1, fun i' w' i0 w0 w1 q2 => ?_⟩
    · have b := a1.2 r r0 r1
      have ri := p_row_in hok (r := r) ⟨r0, r1⟩
      rw [hf _ _ (by omega), hf _ _ (by omega), hf _ _ (by omega), hf _ _ (by omega)]
      exact ⟨b.1, b.2.1, b.2.2.1, b.2.2.2.1, fun w x y => by rw [hf _ _ (by unfold p_id; omega)]; exact b.2.2.2.2 w x y⟩
    · have b := a2 k k0 k1
      have up := (g_pages_up pg k k0 k1)
      have up0 := pg.2.2.2.2.1 k k0 (by omega)
      have e8 : p_T A cnt D 8 0 = p_SR A cnt := rfl
      have up1 := up0.1
      rw [hf _ _ (by omega), hf _ _ (by omega), hf _ _ (by omega), hf _ _ (by omega), hf _ _ (by omega), hf _ _ (by omega), hf _ _ (by omega), hf _ _ (by omega), hf _ _ (by omega)]
      exact ⟨b.1, fun r r0 r1 => by rw [hf _ _ (by omega)]; exact b.2 r r0 r1⟩
    · have b := a6.2.2 i' w' i0 w0 w1 q2
      have i1 : i' < cnt := by omega
      have fm := p_FB_mono hok (i' := i') (w' := w') (i := cnt) (w := 0) ⟨i0, Int.le_refl _⟩ ⟨w0, w1⟩ ⟨Int.le_refl _, Or.inr rfl⟩ (Or.inl i1)
      have fe := p_FB_end hok (i := i') (w := w') ⟨i0, i1⟩ ⟨w0, by omega⟩
      have e1 : p_FB A cnt 0 = p_SF A cnt := by unfold p_FB p_PF; rw [p_sum_0]; omega
      have e2 : p_NB A cnt 0 = p_SN A cnt := by unfold p_NB p_PN; rw [p_sum_0]; omega
      have l1 := hok.2.2.1
      have l2 := hok.2.2.2.1
      refine ⟨fun q3 => ?_, fun q3 k k0 k1 => ?_⟩
      · rw [if_pos q3] at fm
        rw [hf _ _ (by omega)]; exact b.1 q3
      · have fm2 := fm.2
        rw [if_pos q3] at fm2
        rw [hf _ _ (by omega), hf _ _ (by omega)]; exact b.2 q3 k k0 k1
