/-! ===== lines of a round of the class ===== -/
theorem p_wsN_cg {w w' : Int → Int} {n : Int} (hw : ∀ j, 0 ≤ j → j < n → w' j = w j) : ∀ k : Nat, (k : Int) ≤ n → p_wsN w' k = p_wsN w k
  | 0, _ => rfl
  | k + 1, h => by
    show p_wsN w' k + w' k + 1 = p_wsN w k + w k + 1
    rw [p_wsN_cg hw k (by omega), hw k (by omega) (by omega)]
theorem p_lined_w {w w' : Int → Int} {n W lc lcost : Int} {le : Int → Int} (hw : ∀ j, 0 ≤ j → j < n → w' j = w j) (h : p_lined w n W lc lcost le) : p_lined w' n W lc lcost le := by
  obtain ⟨C, L, E, ⟨t1, t2, t3⟩, h2, h3⟩ := h
  refine ⟨C, L, E, ⟨t1, t2, fun j j0 j1 => ?_⟩, h2, h3⟩
  have e : ∀ to, j < to → to < n + 1 → p_len w' j to = p_len w j to := fun to a b => by
    unfold p_len p_ws
    rw [p_wsN_cg hw to.toNat (by omega), p_wsN_cg hw j.toNat (by omega)]
  have ef : ∀ to, j < to → to < n + 1 → (p_feas w' W j to ↔ p_feas w W j to) ∧ p_lc w' n W j to = p_lc w n W j to := fun to a b => by
    unfold p_feas p_lc
    rw [e to a b]
    exact ⟨Iff.rfl, rfl⟩
  obtain ⟨b1, b2, b3, b4, b5⟩ := t3 j j0 j1
  refine ⟨b1, (ef _ b1.1 b1.2).1.mpr b2, by rw [(ef _ b1.1 b1.2).2]; exact b3, b4, fun to a b q => ?_⟩
  rw [(ef to a b).2]
  exact b5 to a b ((ef to a b).1.mp q)
/-- paragraphs have the lines of the widths by which they were broken -/
def c_brk (B : pT) (M : qM) : Prop := (∀ x, 0 ≤ x → x < 30 → x % 10 < B 0 (x / 10) → (B 1 x = 0 → M 5 (1 + x) 8 = 0 ∨ p_lined (M 36 (1 + x)) (B 3 x) (M 5 (1 + x) 8) (M 5 (1 + x) 10) (M 5 (1 + x) 11) (M 37 (1 + x))) ∧ (B 1 x ≠ 0 → M 5 (1 + x) 10 = 1 ∧ M 5 (1 + x) 11 = 0)) ∧ ∀ x, 0 ≤ x → x < 30 → ¬ (x % 10 < B 0 (x / 10) ∧ B 1 x = 0) → M 5 (1 + x) 11 = 0 ∧ M 37 (1 + x) 0 = 0
def c_brkW (B : pT) (W : Int → Int) (M : qM) : Prop := ∀ x, 0 ≤ x → x < 30 → x % 10 < B 0 (x / 10) → B 1 x = 0 → M 5 (1 + x) 8 = B 8 0 ∧ ∀ j, 0 ≤ j → j < B 3 x → M 36 (1 + x) j = B 6 (20 * x + j) + W (20 * x + j)
/-- what is broken anew: at, wd tell by what it was broken last -/
noncomputable def c_rg (B : pT) (at' wd W : Int → Int) (x : Int) : Int := if x % 10 < B 0 (x / 10) then @ite Int (B 1 x = 0 ∧ ¬ (at' x = B 8 0 ∧ ∀ j, 0 ≤ j → j < B 3 x → wd (20 * x + j) = B 6 (20 * x + j) + W (20 * x + j))) (Classical.propDecidable _) 1 0 else 0
theorem c_broke {B : pT} {W : Int → Int} {M M' : qM} (hB : c_ok B) (hM : c_bk B M) (h35 : ∀ y, 0 ≤ y → y < 600 → M 35 (1 + y / 20) (y % 20) = W y) (hb : c_brk B M) (D : b_done M M' (B 8 0) 30) : c_lines B W (fun x => M' 5 (1 + x) 10) (fun x => M' 5 (1 + x) 11) (fun x => M' 37 (1 + x)) ∧ c_brkW B W M' ∧ c_brk B M' ∧ M' 2 0 9 = M 2 0 9 + p_sum (c_rg B (fun x => M 5 (1 + x) 8) (fun y => M 36 (1 + y / 20) (y % 20)) W) 30 := by
  obtain ⟨d1, d2, d3, d4⟩ := D
  obtain ⟨m1, m2, m3⟩ := hM
  obtain ⟨hb, hb0⟩ := hb
  have n20 := hB.2.1
  have wds : ∀ x, 0 ≤ x → x < 30 → ∀ j, 0 ≤ j → j < B 3 x → M 32 (1 + x) j + M 35 (1 + x) j = B 6 (20 * x + j) + W (20 * x + j) := fun x x0 x1 j j0 j1 => by
    have nx := n20 x
    have y := (m3 (20 * x + j) (by omega) (by omega)).2.2
    have z := h35 (20 * x + j) (by omega) (by omega)
    rw [show (20 * x + j) / 20 = x by omega, show (20 * x + j) % 20 = j by omega] at y z
    rw [y, z]
  have rg : ∀ x, 0 ≤ x → x < 30 → c_rg B (fun x => M 5 (1 + x) 8) (fun y => M 36 (1 + y / 20) (y % 20)) W x = b_rg M (B 8 0) x := fun x x0 x1 => by
    unfold c_rg b_rg
    rw [m1 (x / 10) (by omega) (by omega)]
    by_cases q : x % 10 < B 0 (x / 10)
    · rw [if_pos q, if_pos q]
      unfold b_rn p_kept
      rw [(m2 x x0 x1).1, (m2 x x0 x1).2.2.1]
      have iff : (∀ j, 0 ≤ j → j < B 3 x → M 36 (1 + (20 * x + j) / 20) ((20 * x + j) % 20) = B 6 (20 * x + j) + W (20 * x + j)) ↔ ∀ j, 0 ≤ j → j < B 3 x → M 36 (1 + x) j = M 32 (1 + x) j + M 35 (1 + x) j := by
        have nx := n20 x
        refine ⟨fun z j j0 j1 => ?_, fun z j j0 j1 => ?_⟩
        · have := z j j0 j1
          rw [show (20 * x + j) / 20 = x by omega, show (20 * x + j) % 20 = j by omega] at this
          rw [this, wds x x0 x1 j j0 j1]
        · rw [show (20 * x + j) / 20 = x by omega, show (20 * x + j) % 20 = j by omega, ← wds x x0 x1 j j0 j1]
          exact z j j0 j1
      by_cases q2 : B 1 x = 0 ∧ ¬ (M 5 (1 + x) 8 = B 8 0 ∧ ∀ j, 0 ≤ j → j < B 3 x → M 36 (1 + (20 * x + j) / 20) ((20 * x + j) % 20) = B 6 (20 * x + j) + W (20 * x + j))
      · rw [if_pos q2, if_pos ⟨q2.1, fun z => q2.2 ⟨z.1, iff.mpr z.2⟩⟩]
      · rw [if_neg q2, if_neg (fun z => q2 ⟨z.1, fun z2 => z.2 ⟨z2.1, iff.mp z2.2⟩⟩)]
    · rw [if_neg q, if_neg q]
  have main : ∀ x, 0 ≤ x → x < 30 → x % 10 < B 0 (x / 10) → (B 1 x = 0 → p_lined (fun j => B 6 (20 * x + j) + W (20 * x + j)) (B 3 x) (B 8 0) (M' 5 (1 + x) 10) (M' 5 (1 + x) 11) (M' 37 (1 + x)) ∧ M' 5 (1 + x) 8 = B 8 0 ∧ ∀ j, 0 ≤ j → j < B 3 x → M' 36 (1 + x) j = B 6 (20 * x + j) + W (20 * x + j)) ∧ (B 1 x ≠ 0 → M' 5 (1 + x) 10 = 1 ∧ M' 5 (1 + x) 11 = 0) := fun x x0 x1 real => by
    have it := d3 x x0 x1
    have rb : b_rg M (B 8 0) x = b_rn M (B 8 0) (1 + x) := by unfold b_rg; rw [if_pos (by rw [m1 (x / 10) (by omega) (by omega)]; exact real)]
    have mx := m2 x x0 x1
    refine ⟨fun q => ?_, fun q => ?_⟩
    · by_cases k : p_kept M (1 + x) (B 8 0)
      · have r0 := it.2 (by rw [rb]; exact b_rn_0 (fun z => z.2 k))
        unfold p_kept at k
        rw [mx.2.2.1] at k
        have k2 : ∀ j, 0 ≤ j → j < B 3 x → M 36 (1 + x) j = B 6 (20 * x + j) + W (20 * x + j) := fun j a b => by rw [k.2 j a b]; exact wds x x0 x1 j a b
        rcases (hb x x0 x1 real).1 q with z | z
        · have := hB.2.2.2.2.2.2.1; omega
        · rw [k.1] at z
          have e37 : M' 37 (1 + x) = M 37 (1 + x) := by funext s; exact r0 37 s (by omega)
          rw [r0 5 10 (by omega), r0 5 11 (by omega), r0 5 8 (by omega), e37]
          exact ⟨p_lined_w (fun j a b => (k2 j a b).symm) z, k.1, fun j a b => by rw [r0 36 j (by omega)]; exact k2 j a b⟩
      · have p := it.1 (by rw [rb]; exact b_rn_1 ⟨by rw [mx.1]; exact q, k⟩)
        obtain ⟨p1, p2, p3⟩ := p
        rw [mx.2.2.1] at p2 p3
        exact ⟨p_lined_w (fun j a b => (wds x x0 x1 j a b).symm) p3, p1, fun j a b => by rw [p2 j a b]; exact wds x x0 x1 j a b⟩
    · have r0 := it.2 (by rw [rb]; exact b_rn_0 (fun z => q (by rw [← mx.1]; exact z.1)))
      rw [r0 5 10 (by omega), r0 5 11 (by omega)]
      exact (hb x x0 x1 real).2 q
  refine ⟨fun x x0 x1 r => ⟨fun q => ((main x x0 x1 r).1 q).1, (main x x0 x1 r).2⟩, fun x x0 x1 r q => ((main x x0 x1 r).1 q).2, ⟨fun x x0 x1 r => ⟨fun q => Or.inr ?_, (main x x0 x1 r).2⟩, fun x x0 x1 r => ?_⟩, ?_⟩
  · have m := (main x x0 x1 r).1 q
    rw [m.2.1]
    exact p_lined_w (fun j a b => m.2.2 j a b) m.1
  · have it := d3 x x0 x1
    have r0 := it.2 (by
      unfold b_rg
      rw [m1 (x / 10) (by omega) (by omega)]
      by_cases q : x % 10 < B 0 (x / 10)
      · rw [if_pos q]; exact b_rn_0 (fun z => r ⟨q, by rw [← (m2 x x0 x1).1]; exact z.1⟩)
      · rw [if_neg q])
    rw [r0 5 11 (by omega), r0 37 0 (by omega)]
    exact hb0 x x0 x1 r
  · rw [d2, p_sum_cg (by decide) (fun k a b => (rg k a b).symm)]
theorem c_bk_cw {B : pT} {M : qM} (h : c_bk B M) : b_cw (c_K B) (B 5) M := fun x x0 x1 => by
  have a := h.1 (x / 200) (by omega) (by omega)
  have b := (h.2.1 (x / 20) (by omega) (by omega)).2.2.1
  have c := h.2.2 x x0 x1
  unfold c_K
  rw [a, b, c.1, c.2.1]
  exact ⟨rfl, fun _ => rfl⟩
/-- the page of a word -/
def c_G (B : pT) (R : c_R) (y : Int) : Int := w_fi (r_W R (y / 200)) + c_pg (w_P (r_W R (y / 200))) (w_ct (r_W R (y / 200))) (c_row (r_A B R (y / 200)) (y / 20 % 10) (y % 20))
