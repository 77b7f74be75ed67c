/-! ===== costByAll, wordsTo ===== -/
theorem t242_28n {d : Nat} {h : qH} (hS : qSe h) {c k : Int} {M : qM} {F : Int → qM → Prop} (hk : M 11 0 0 = k) (k0 : 0 < k) (H : ∀ b, F b M) : b242_28 d h F c M :=
  w242_28 hS ⟨fun z => by omega, fun _ => H 0⟩
theorem c_fr77 {M M' : qM} (O : fr77 M M') : c_fr M M' := fun k m s q => O k m s (fun z => q (Or.inr (Or.inl z.1)))
theorem y_tT {n : Int} {B : pT} {en L : Int} {W : Int → Int} {R : c_R} {M : qM} (hr : c_rl n B M) (hx : c_mdx B en W R L M) {c : Int} (hc : 0 ≤ c ∧ c < 3) : g_tab (p_T (r_A B R c) (B 0 c) (B 8 1)) := p_T_tab (y_70 hr.1.2.1 hx hc).1 hr.1.2.1.2.2.2.2.2.2.2.1
/-- the model's laying of sums for a chapter, and its least cost -/
theorem t242v {d : Nat} {h : qH} (hS : qSe h) {n c : Int} {B : pT} {en L : Int} {W : Int → Int} {R : c_R} {M : qM} {F : Int → qM → Prop} (hr : c_rl n B M) (hx : c_mdx B en W R L M) (hc : 0 ≤ c ∧ c < 3) (h0 : M 11 0 0 = 0) (m22 : M 11 0 22 ≠ 0)
    (H : ∀ N, c_rl n B N → N 11 0 0 = 0 → N 138 0 0 = M 138 0 0 → F (if p_SR (r_A B R c) (B 0 c) = 0 then 0 else g_V (p_T (r_A B R c) (B 0 c) (B 8 1)) g_I 0 0 0 15) N) : b242_28 d h F c M := by
  have hB := hr.1.2.1
  have e87 := y_87 hB hx hc
  have ok := (y_70 hB hx hc)
  refine w242_28 hS ⟨fun _ => ⟨hc, fun z => ?_, fun z => ?_⟩, fun z => by omega⟩
  · rw [e87] at z
    rw [if_pos z] at H
    exact H M hr h0 rfl
  · rw [e87] at z
    rw [if_neg z] at H
    have N0 : 0 < B 0 c := Classical.byContradiction fun y => by
      have b := (y_b hr).1 c hc.1 hc.2
      have e0 : B 0 c = 0 := by omega
      rw [e0] at z
      exact z rfl
    have bk := hr.2.1.2.1
    have cd := (y_cd hx hc).2 N0
    have mk := (y_mk hB hx hc).2 N0
    refine t181 hS ok.1.1 hc (fun i w i0 i1 w0 w1 => ?_) cd.1 (fun M1 O1 s1 w1 => ?_)
    · have b10 := ((y_b hr).1 c hc.1 hc.2).2.2.2
      have v := c_A_v (B := B) (L := r_L R) (E := r_E R) (c := c) (i := i) (w := w) ⟨i0, by omega⟩
      have b := bk.2.2.1 (p_id c i w) (by unfold p_id; omega) (by unfold p_id; omega)
      have e : p_id c i w = 20 * (10 * c + i) + w := by unfold p_id; omega
      rw [b.1, b.2.1, e]
      exact ⟨v.2.2.2.2.1.symm, v.2.2.2.2.2.1.symm⟩
    have f1 : c_fr2 M M1 := fun k m s q q2 => O1 k m s (by unfold c_scr at q; omega)
    have ed1 : ∀ en W R' L, c_mdx B en W R' L M → m_ed0 B R' M1 → True := fun _ _ _ _ _ _ => trivial
    have inv := hr.2.2.2.2.1.2.2.2.2.1
    have hT := y_tT hr hx hc
    have hr1 : c_rl n B M1 := by
      refine c_rl_fr2 f1 hr (fun _ => ⟨en, W, R, L, hx, ?_⟩)
      have e0 := hx.2.2.2.2.2.1.1
      refine ⟨fun x a b r q => ?_, fun c' c0 c3 => ?_⟩
      · have := e0.1 x a b r q
        exact ⟨by rw [O1 _ _ _ (by omega)]; exact this.1, by rw [O1 _ _ _ (by omega)]; exact this.2.1, fun s s0 s1 => by rw [O1 _ _ _ (by omega)]; exact this.2.2 s s0 s1⟩
      · have ok' := y_70 hB hx ⟨c0, c3⟩
        by_cases ec : c' = c
        · subst ec
          have cd' := (y_cd hx ⟨c0, c3⟩)
          have mk' := (y_mk hB hx ⟨c0, c3⟩).2 N0
          obtain ⟨z1, z2, z3, z4, z5, z6⟩ := cd'.2 N0
          refine ⟨fun q => absurd N0 (by omega), fun _ => ⟨⟨by rw [O1 _ _ _ (by omega)]; exact z1.1, fun r r0 r1 => ?_⟩, fun k k0 k1 => ?_, by rw [O1 _ _ _ (by omega)]; exact z3, by rw [O1 _ _ _ (by omega)]; exact z4, by rw [O1 _ _ _ (by omega)]; exact z5, ?_⟩⟩
          · rw [O1 _ _ _ (by omega), O1 _ _ _ (by omega), O1 _ _ _ (by omega), O1 _ _ _ (by omega)]
            have := z1.2 r r0 r1
            exact ⟨this.1, this.2.1, this.2.2.1, this.2.2.2.1, fun w w0 w1 => by rw [O1 _ _ _ (by omega)]; exact this.2.2.2.2 w w0 w1⟩
          · rw [O1 _ _ _ (by omega), O1 _ _ _ (by omega), O1 _ _ _ (by omega), O1 _ _ _ (by omega), O1 _ _ _ (by omega), O1 _ _ _ (by omega), O1 _ _ _ (by omega), O1 _ _ _ (by omega), O1 _ _ _ (by omega)]
            exact ⟨(z2 k k0 k1).1, fun r r0 r1 => by rw [O1 _ _ _ (by omega)]; exact (z2 k k0 k1).2 r r0 r1⟩
          · exact w1
        · exact m_cd_fr (pm := 100000) ok'.1 (fun q => ⟨B 8 1, (y_mk hB hx ⟨c0, c3⟩).2 q |>.2.2⟩) (e0.2 c' c0 c3) (fun q => by have := (y_mk hB hx ⟨c0, c3⟩).2 q; omega) (fun k s q => O1 k 0 s (by omega))
    have hM : g_mT (p_T (r_A B R c) (B 0 c) (B 8 1)) c M1 := by
      refine p_T_m ok.1 hc ⟨by rw [O1 _ _ _ (by omega)]; exact cd.1.1, fun r r0 r1 => ?_⟩ s1 w1 (fun i i0 i1 => ?_) (fun k => by rw [O1 _ _ _ (by omega)]; exact inv.2.1 k) (by rw [O1 _ _ _ (by omega)]; exact bk.2.2.2.2.1)
      · rw [O1 _ _ _ (by omega), O1 _ _ _ (by omega), O1 _ _ _ (by omega), O1 _ _ _ (by omega)]
        have := cd.1.2 r r0 r1
        exact ⟨this.1, this.2.1, this.2.2.1, this.2.2.2.1, fun w w0 w1 => by rw [O1 _ _ _ (by omega)]; exact this.2.2.2.2 w w0 w1⟩
      · have b10 := ((y_b hr).1 c hc.1 hc.2).2.2.2
        have e0 := hx.2.2.2.2.2.1.1
        refine m_rep hr1.2.1.2.1 hc ⟨i0, by omega⟩ (fun q => ?_)
        have ed := e0.1 (10 * c + i) (by omega) (by omega) (by rw [show (10 * c + i) / 10 = c by omega]; omega) q
        exact ⟨by rw [O1 _ _ _ (by omega)]; exact ed.1, fun s s0 s1 => by rw [O1 _ _ _ (by omega)]; exact ed.2.2 s s0 s1⟩
    have e8 : p_T (r_A B R c) (B 0 c) (B 8 1) 8 0 = p_SR (r_A B R c) (B 0 c) := rfl
    have tb0 := hT.1
    have z2 := hT.2.2.2.2.1
    have e20 : m_st (p_T (r_A B R c) (B 0 c) (B 8 1)) 0 0 0 0 = 0 := by
      unfold m_st; omega
    have key := t194 (d := d) (h := h) hS (y := 0) (F := fun v N => F v N) hT (by rw [e8]; exact ok.2) hM (a := 0) (f := 0) (n := 0) ⟨g_at_0 hT, by decide, fun _ => rfl⟩ (by omega) (fun N O2 _ _ => ?_)
    · rw [e20] at key
      exact key
    · have gv := g_V_fin0 hT mk.2.2
      have ex : m_x 0 0 = 15 := rfl
      rw [ex, ← gv]
      have fN : c_fr M1 N := fun k m s q => O2 k m s (fun z => q (by unfold c_scr; omega)) (fun z => q (by unfold c_scr; omega))
      refine H N (c_rl_fr fN hr1) ?_ ?_
      · rw [O2 _ _ _ (by omega) (by omega), O1 _ _ _ (by omega)]; exact h0
      · rw [O2 _ _ _ (by omega) (by omega), O1 _ _ _ (by omega)]
theorem m_242 {d : Nat} {h : qH} (hS : qSe h) {n c : Int} {B : pT} {M : qM} {k : Int} (hn : n < 512) (hr : c_rl n B M) (hk : (k = 1 ∧ ¬ (0 ≤ c ∧ c < 3)) ∨ (k = 2 ∧ (0 ≤ c ∧ c < 3) ∧ (M 11 0 22 = 0 ∨ 8 < M 87 0 c))) : p_no (n + 1) (e242 (d + 6) h c) k M := by
  refine p_exc hn hr (fun F H => ?_)
  refine w242 hS (t231 hS (fun q m N hN => ⟨fun z => absurd z (by decide), fun _ => ⟨q, fun x hx N2 hN2 => ?_⟩⟩) (fun q N hN => ⟨fun _ => t242_28n hS (k := 1) (by rw [hN, qU_s]) (by decide) (fun b => H b N (by rw [hN]; rcases hk with z | z <;> simp only [z.1] <;> exact absurd z.2 (by simp [q]))), fun z => absurd rfl z⟩) (fun q m N hN => ⟨fun _ => t242_28n hS (k := 2) (by rw [hN, qU_s]) (by decide) (fun b => H b N (by rw [hN]; rcases hk with z | z; exact absurd q z.2; rw [z.1])), fun z => absurd rfl z⟩))
  have k2 : k = 2 ∧ 8 < M 87 0 c := by
    rcases hk with z | ⟨z1, z2, z3⟩
    · exact absurd q z.2
    · rcases z3 with z3 | z3
      · exact absurd z3 m
      · exact ⟨z1, z3⟩
  have e87 : N 87 0 c = M 87 0 c := by rw [hN, qU_k (by decide)]
  rw [e87, if_neg (by omega)] at hx
  have eN : N2 = qU M 11 0 0 2 := by
    rw [hN2, hN, hx]
    funext k m s
    unfold qU
    split <;> simp_all
  exact t242_28n hS (k := 2) (by rw [eN, qU_s]) (by decide) (fun b => H b N2 (by rw [eN, k2.1]))
theorem y121 {d d' : Nat} {h : qH} (hS : qSe h) {n c : Int} {B : pT} {M : qM} (hn : n < 512) (hr : c_rl n B M) : e121 (d + 13) h c M (p_ok (n + 1) (e242 (d' + 6) h c)) (p_ex (n + 1) (e242 (d' + 6) h c) 0 2 1) := by
  have y := (y_b hr).2.2.1
  have hB := hr.1.2.1
  refine w121 (d := d + 8) hS (t133 hS (fun q => t138 hS (fun m => ?_) (fun m => Or.inr (Or.inl ⟨rfl, by decide, m_242 hS hn hr (Or.inr ⟨rfl, q, Or.inl (y.mp m)⟩)⟩))) (fun q => Or.inr (Or.inr ⟨rfl, by decide, m_242 hS hn hr (Or.inl ⟨rfl, q⟩)⟩)))
  obtain ⟨en, W, R, L, hx⟩ := y_mdx hr m
  obtain ⟨e0, h8, he⟩ := hr.2.2.1.2.2.2
  have e : M 10 0 8 - 1 = en := by have := hx.1; omega
  have ch := y_ch hx q
  have ok := y_70 hB hx q
  have e9 : M 9 (1 + 3 * en + c) 0 = p_SR (r_A B R c) (B 0 c) := ch.1.1.1
  have e87 := y_87 hB hx q
  have e31 : M 3 en 1 = B 8 1 := hx.2.2.2.1.2.2.2.1.2.1
  refine ⟨fun z => by omega, fun _ => ⟨q, ?_⟩, fun z => by omega⟩
  rw [e, e9, e31]
  refine ⟨fun z8 => ⟨fun z => by omega, fun _ => ⟨q, fun z => by omega, fun _ => ?_, fun z => by omega⟩, fun z => by omega⟩, fun z8 => Or.inr (Or.inl ⟨rfl, by decide, m_242 hS hn hr (Or.inr ⟨rfl, q, Or.inr (by omega)⟩)⟩)⟩
  have hT := y_tT hr hx q
  have e81 : p_T (r_A B R c) (B 0 c) (B 8 1) 8 1 = B 8 1 := rfl
  have e80 : p_T (r_A B R c) (B 0 c) (B 8 1) 8 0 = p_SR (r_A B R c) (B 0 c) := rfl
  have key := t77 (d := d) (h := h) hS (F := fun v N => p_ok (n + 1) (e242 (d' + 6) h c) v N) (n := 1 + 3 * en + c) (M := M) hT (by omega) (p_T_c ok.1 ch.1) z8 (fun M1 O1 => ?_)
  · rw [e81] at key; exact key
  have f1 := c_fr77 O1
  have hr1 := c_rl_fr f1 hr
  rw [e80]
  intro M2 g2
  have f2 : c_fr M1 M2 := by rw [g2]; exact c_fr_out
  have f12 := c_fr_t f1 f2
  have hr2 := c_rl_fr f12 hr
  have m2 : M2 11 0 22 ≠ 0 := by rw [f12 11 0 22 (by unfold c_scr; omega)]; exact fun z => m (y.mpr z)
  refine w242 hS (t231 hS (fun _ _ N hN => ⟨fun z => absurd z (by decide), fun _ => ⟨q, fun x hx' N2 hN2 => ?_⟩⟩) (fun z => absurd q z) (fun _ z => absurd z m2))
  have fN := (c_fr_0' hN)
  have e87N : N 87 0 c = M 87 0 c := c_fr_t f12 fN.1 87 0 c (by unfold c_scr; omega)
  rw [e87N, if_pos (by omega)] at hx'
  rw [hx'] at hN2
  have fN2 := c_fr_0' hN2
  have fA := c_fr_t (c_fr_t f12 fN.1) fN2.1
  refine t242v hS (c_rl_fr fA hr) (c_mdx_fr fA hx) q fN2.2.1 (by rw [fA 11 0 22 (by unfold c_scr; omega)]; exact fun z => m (y.mpr z)) (fun N3 h3 a3 b3 => ⟨a3, rfl, ?_, B, c_rl_up hn h3⟩)
  rw [b3, fN2.2.2, fN.2.2, g2, qU_s]
