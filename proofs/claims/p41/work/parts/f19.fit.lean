/-! ===== whether the draft can be in a chapter, in place of an item or of none ===== -/
def y_fit (B : pT) (c but : Int) (K V : Int → Int) (n : Int) : Prop := 0 < n ∧ y_cs B (-1) c but + n ≤ 60 ∧ y_cs B 2 c but + y_ws K V 2 n ≤ 12 ∧ y_cs B 3 c but + y_ws K V 3 n ≤ 4 ∧ ¬ y_two B (y_bx c but) K V n
theorem y_fit_cg {B : pT} {c but n : Int} {K V K' V' : Int → Int} (hn : 0 ≤ n) (h : ∀ w, 0 ≤ w → w < n → K' w = K w ∧ V' w = V w) : y_fit B c but K' V' n ↔ y_fit B c but K V n := by
  have h' : ∀ w, 0 ≤ w → w < n → K w = K' w ∧ V w = V' w := fun w a b => ⟨(h w a b).1.symm, (h w a b).2.symm⟩
  unfold y_fit
  rw [y_ws_cg (t := 2) hn h, y_ws_cg (t := 3) hn h]
  exact ⟨fun ⟨a, b, c, d, e⟩ => ⟨a, b, c, d, fun z => e (y_two_cg h z)⟩, fun ⟨a, b, c, d, e⟩ => ⟨a, b, c, d, fun z => e (y_two_cg h' z)⟩⟩
theorem t141 {d : Nat} {h : qH} (hS : qSe h) {c but n : Int} {B : pT} {M : qM} {f : Int → qM → Prop} (hB : c_ok B) (hM : c_bk B M) (hc : 0 ≤ c ∧ c < 3) (hbt : -1 ≤ but ∧ but < 10) (hn : M 5 0 2 = n) (hn2 : 0 ≤ n ∧ n ≤ 20) (hv : ∀ w, 0 ≤ w → w < n → 0 ≤ M 34 0 w ∧ M 34 0 w ≤ 9) (H1 : y_fit B c but (M 33 0) (M 34 0) n → f 1 M) (H0 : ¬ y_fit B c but (M 33 0) (M 34 0) n → f 0 M) : e141 (d + 4) h c but M f := by
  have n10 := (hB.1 c hc.1 hc.2).1
  have cb : ∀ t, 0 ≤ y_cs B t c but ∧ y_cs B t c but ≤ 180 * B 0 c := fun t => y_cs_b (t := t) (c := c) (but := but) hB (x := B 0 c) n10
  have wb : ∀ t, 0 ≤ y_ws (M 33 0) (M 34 0) t n ∧ y_ws (M 33 0) (M 34 0) t n ≤ 9 * n := fun t => y_ws_b hn2.1 hv
  have cb1 := cb (-1)
  have cb2 := cb 2
  have cb3 := cb 3
  have wb2 := wb 2
  have wb3 := wb 3
  subst hn
  refine w141 hS ⟨hc, fun q => H0 (fun z => by have := z.1; omega), fun q => t6 hS hB hM hc ⟨⟨by omega, by omega⟩, fun q2 => t7 hS (by decide) hB hM hc (t48 hS (by decide) hn2 hv ⟨⟨by omega, by omega⟩, fun q3 => t7 hS (by decide) hB hM hc (t48 hS (by decide) hn2 hv ⟨⟨by omega, by omega⟩, fun q4 => t142 hS hB hM hc hbt rfl hn2 hv (fun z x hx => ?_) (fun z x hx => ?_), fun q4 => H0 (fun z => q4 z.2.2.2.1)⟩), fun q3 => H0 (fun z => q3 z.2.2.1)⟩), fun q2 => H0 (fun z => q2 z.2.1)⟩⟩
  · rw [if_neg (by decide)] at hx
    rw [hx]
    exact ⟨Or.inl rfl, H0 (fun k => k.2.2.2.2 z)⟩
  · rw [if_pos rfl] at hx
    rw [hx]
    exact ⟨Or.inr rfl, H1 ⟨by omega, q2, q3, q4, z⟩⟩
