/-! ===== wordsTo, untouched ===== -/
def c_lnq (B : pT) (M : qM) (c i l : Int) : Prop := c_it B c i ∧ 0 ≤ l ∧ (M 10 0 13 ≠ 0 → l < M 5 (1 + (10 * c + i)) 10)
theorem y_lines {n en L : Int} {B : pT} {W : Int → Int} {R : c_R} {M : qM} (hr : c_rl n B M) (hx : c_mdx B en W R L M) {c i : Int} (q : c_it B c i) : M 5 (1 + (10 * c + i)) 10 = (if M 65 0 (10 * c + i) = 0 then M 81 0 (10 * c + i) else 1) ∧ (1 ≤ M 5 (1 + (10 * c + i)) 10 ∧ M 5 (1 + (10 * c + i)) 10 ≤ 20) ∧ (∀ l, 0 ≤ l → l < M 5 (1 + (10 * c + i)) 10 → M 37 (1 + (10 * c + i)) l = if M 65 0 (10 * c + i) = 0 then M 82 0 (20 * (10 * c + i) + l) else 0) := by
  have x := c_it_x hr q
  obtain ⟨ob, B1, R1, out⟩ := hx.2.2.1
  have now := hx.2.2.2.2.1.1 (10 * c + i) x.1.1 x.1.2
  have ln := out.1 (10 * c + i) x.1.1 x.1.2 x.2.1
  rw [((y_b hr).2.1 (10 * c + i) x.1.1 x.1.2).2.2.1, now.1]
  by_cases z : B 1 (10 * c + i) = 0
  · have ed := hx.2.2.2.2.2.1.1.1 (10 * c + i) x.1.1 x.1.2 x.2.1 z
    rw [if_pos z]
    have n20 := ((y_b hr).2.1 (10 * c + i) x.1.1 x.1.2).2.2.2
    have n1 : 1 ≤ B 3 (10 * c + i) := by
      rcases hr.1.2.1.2.2.1 (10 * c + i) x.1.1 x.1.2 x.2.1 with y | y
      · omega
      · exact y.2
    have ok := (p_lined_ok n1 (ln.1 z)).1
    refine ⟨ed.1.symm, by omega, fun l l0 l1 => ?_⟩
    rw [if_pos z, now.2.2 l, ed.2.2 l l0 l1]
  · rw [if_neg z, (ln.2 z).1]
    refine ⟨rfl, by omega, fun l l0 l1 => ?_⟩
    rw [if_neg z, show l = 0 by omega]
    exact (hr.2.2.2.2.1.2.2.1.2 (10 * c + i) x.1.1 x.1.2 (fun y => z y.2)).2
theorem y_8g {B : pT} {W : Int → Int} {ob : Prop} {B1 : pT} {R1 R : c_R} {tot L e : Int} {M : qM} (hB : c_ok B) (out : c_out B W ob B1 R1 (c_p0 B) R) (hL : 0 ≤ L ∧ L ≤ 1000) (ed : c_edn B R tot e M) : ∀ c, 0 ≤ c → c < 3 → M 8 (0 + 3 * e + c) 0 = w_fi (r_W R c) ∧ M 8 (0 + 3 * e + c) 1 = w_ct (r_W R c) ∧ (0 ≤ w_fi (r_W R c) ∧ w_fi (r_W R c) ≤ 1000) ∧ 0 ≤ w_ct (r_W R c) ∧ w_ct (r_W R c) ≤ 86 := fun c c0 c3 => by
  have ch := ed.1 c c0 c3
  have mk := (out.2 c c0 c3).1
  refine ⟨ch.2.2.1, ch.2.1.1, ?_⟩
  by_cases q : 0 < B 0 c
  · have z := (c_la_st hB out.1 (Int.le_refl _) out.2 c c0 c3).2 q
    have fl := c_fi_la hB out ⟨c0, c3⟩ q
    have tb := c_tot_b hB out hL
    omega
  · have := mk.1 (by omega); omega
