/-! ===== Composer.breakParagraphs, Pages.begin ===== -/
theorem t80 {d : Nat} {h : qH} (hS : qSe h) {n x : Int} {M : qM} {F : qM → Prop} (H : ∀ M', (∀ (k : Nat) (m s : Int), ¬ (k = 8 ∧ m = n ∧ 0 ≤ s ∧ s ≤ 3) → M' k m s = M k m s) → M' 8 n 0 = x → M' 8 n 1 = 0 → M' 8 n 2 = 0 → M' 8 n 3 = 0 → F M') : e80 (d + 1) h n x M F :=
  w80 hS (fun M1 f1 M2 f2 M3 f3 M4 f4 => H M4 (fun k m s q => by rw [f4, f3, f2, f1]; unfold qU; rw [if_neg (by omega), if_neg (by omega), if_neg (by omega), if_neg (by omega)]) (by rw [f4, qU_l (by decide), f3, qU_l (by decide), f2, qU_l (by decide), f1, qU_s]) (by rw [f4, qU_l (by decide), f3, qU_l (by decide), f2, qU_s]) (by rw [f4, qU_l (by decide), f3, qU_s]) (by rw [f4, qU_s]))
/-- a paragraph is broken anew -/
noncomputable def b_rn (M : qM) (W it : Int) : Int := @ite Int (M 5 it 0 = 0 ∧ ¬ p_kept M it W) (Classical.propDecidable _) 1 0
theorem b_rn_1 {M : qM} {W it : Int} (h : M 5 it 0 = 0 ∧ ¬ p_kept M it W) : b_rn M W it = 1 := by unfold b_rn; rw [if_pos h]
theorem b_rn_0 {M : qM} {W it : Int} (h : ¬ (M 5 it 0 = 0 ∧ ¬ p_kept M it W)) : b_rn M W it = 0 := by unfold b_rn; rw [if_neg h]
/-- by the items of the book, 10 a chapter -/
noncomputable def b_rg (M : qM) (W x : Int) : Int := if x % 10 < M 1 (x / 10) 1 then b_rn M W (1 + x) else 0
theorem b_rg_b {M : qM} {W x : Int} : b_rg M W x = 0 ∨ b_rg M W x = 1 := by
  unfold b_rg
  split
  · by_cases q : M 5 (1 + x) 0 = 0 ∧ ¬ p_kept M (1 + x) W
    · right; exact b_rn_1 q
    · left; exact b_rn_0 q
  · left; rfl
def p_new (M M' : qM) (W it : Int) : Prop := M' 5 it 8 = W ∧ (∀ j, 0 ≤ j → j < M 5 it 2 → M' 36 it j = M 32 it j + M 35 it j) ∧ p_lined (fun i => M 32 it i + M 35 it i) (M 5 it 2) W (M' 5 it 10) (M' 5 it 11) (M' 37 it)
def b_same (M M' : qM) (it : Int) : Prop := ∀ (k : Nat) (s : Int), (k = 5 ∨ k = 36 ∨ k = 37) → M' k it s = M k it s
def b_item (M M' : qM) (W x : Int) : Prop := (b_rg M W x = 1 → p_new M M' W (1 + x)) ∧ (b_rg M W x = 0 → b_same M M' (1 + x))
def fr17 (M M' : qM) : Prop := ∀ (k : Nat) (m s : Int), ¬ (((k = 12 ∨ k = 13 ∨ k = 14) ∧ m = 0) ∨ (k = 2 ∧ m = 0 ∧ s = 9) ∨ (k = 5 ∧ (s = 8 ∨ s = 10 ∨ s = 11)) ∨ k = 36 ∨ k = 37) → M' k m s = M k m s
/-- the items before x are done -/
def b_done (M M' : qM) (W x : Int) : Prop := fr17 M M' ∧ M' 2 0 9 = M 2 0 9 + p_sum (b_rg M W) x ∧ (∀ y, 0 ≤ y → y < x → b_item M M' W y) ∧ (∀ it, (it < 1 ∨ x < it) → b_same M M' it)
def b_bits (M : qM) (W x v : Int) : Prop := (0 ≤ v ∧ v < 65536) ∧ ∀ c, 0 ≤ c → c < 3 → (q_bs v c ↔ ∃ y, (0 ≤ y ∧ y < x) ∧ y / 10 = c ∧ b_rg M W y = 1)
theorem b_done_gap {M M' : qM} {W a b : Int} (ha : 0 ≤ a) (hab : a ≤ b) (hg : ∀ y, a ≤ y → y < b → b_rg M W y = 0) (H : b_done M M' W a) : b_done M M' W b := by
  obtain ⟨h1, h2, h3, h4⟩ := H
  refine ⟨h1, by rw [b_gap ha hab hg]; exact h2, fun y y0 y1 => ?_, fun it q => h4 it (by omega)⟩
  by_cases q : y < a
  · exact h3 y y0 q
  · have := hg y (by omega) y1
    exact ⟨fun z => by omega, fun _ => h4 (1 + y) (by omega)⟩
theorem b_bits_gap {M : qM} {W a b v : Int} (ha : 0 ≤ a) (hab : a ≤ b) (hg : ∀ y, a ≤ y → y < b → b_rg M W y = 0) (H : b_bits M W a v) : b_bits M W b v := by
  refine ⟨H.1, fun c c0 c1 => (H.2 c c0 c1).trans ⟨fun ⟨y, q1, q2⟩ => ⟨y, by omega, q2⟩, fun ⟨y, q1, q2, q3⟩ => ⟨y, ⟨q1.1, ?_⟩, q2, q3⟩⟩⟩
  by_cases q : y < a
  · exact q
  · have := hg y (by omega) q1.2; omega
theorem t17 {d : Nat} {h : qH} (hS : qSe h) {e W : Int} {M : qM} {F : Int → qM → Prop} (h6 : 0 < M 2 0 6) (he : 0 ≤ e) (h7 : M 2 0 7 = e + 1) (hW1 : M 3 e 0 = W) (hW : 8 ≤ W ∧ W ≤ 30) (hcn : ∀ c, 0 ≤ c → c < 3 → 0 ≤ M 1 c 1 ∧ M 1 c 1 ≤ 10) (hn : ∀ it, 0 ≤ M 5 it 2 ∧ M 5 it 2 ≤ 20) (hw : ∀ it i, 0 ≤ M 32 it i + M 35 it i ∧ M 32 it i + M 35 it i ≤ 16) (hb : 0 ≤ M 2 0 9 ∧ M 2 0 9 ≤ 1000000)
    (H : ∀ v M', b_done M M' W 30 → b_bits M W 30 v → F v M') : e17 (d + 4) h M F := by
  refine w17 hS ?_
  have sum_b : ∀ x, 0 ≤ x → 0 ≤ p_sum (b_rg M W) x ∧ p_sum (b_rg M W) x ≤ x := fun x x0 => by
    have := b_sum_le (g := b_rg M W) (a := 0) (b := x) (fun y => by have := b_rg_b (M := M) (W := W) (x := y); omega) (by omega) x0
    have z : p_sum (b_rg M W) 0 = 0 := rfl
    omega
  refine q_upto (P := fun c => 0 ≤ c → ∀ v M1 u, b_done M M1 W (10 * c) → b_bits M W (10 * c) v → b17_4 d h F v c u M1) (a := 0) (b := 3) (by omega) (fun _ v M1 u D1 B1 => w17_4 hS ⟨fun q => by omega, fun _ => H v M1 (by rw [show (30 : Int) = 10 * 3 by omega]; exact D1) (by rw [show (30 : Int) = 10 * 3 by omega]; exact B1)⟩) (fun c c0 c3 ih _ v M1 u D1 B1 => ?_) (by omega) 0 M _ ?_ ?_
  · refine w17_4 hS ⟨fun _ => ?_, fun q => by omega⟩
    have cc := hcn c c0 c3
    refine q_upto (P := fun i => 0 ≤ i → ∀ v M2, b_done M M2 W (10 * c + i) → b_bits M W (10 * c + i) v → b17_11 d h F v c i M2) (a := 0) (b := M 1 c 1) cc.1 (fun _ v M2 D2 B2 => ?_) (fun i i0 i1 ihi _ v M2 D2 B2 => ?_) (by omega) v M1 (by rw [show 10 * c + 0 = 10 * c by omega]; exact D1) (by rw [show 10 * c + 0 = 10 * c by omega]; exact B1)
    · have O2 := D2.1
      have e6 : M2 2 0 6 = M 2 0 6 := O2 _ _ _ (by omega)
      have e1 : M2 1 c 1 = M 1 c 1 := O2 _ _ _ (by omega)
      have gz : ∀ y, 10 * c + M 1 c 1 ≤ y → y < 10 * (c + 1) → b_rg M W y = 0 := fun y y0 y1 => by
        unfold b_rg; rw [show y / 10 = c by omega, if_neg (by omega)]
      exact w17_11 hS ⟨fun q => by omega, fun _ => ⟨⟨c0, c3⟩, fun q => by omega, fun _ => ⟨⟨by omega, by omega⟩, ih (by omega) v M2 _ (b_done_gap (by omega) (by omega) gz D2) (b_bits_gap (by omega) (by omega) gz B2)⟩⟩, fun q => by omega⟩
    · have O2 := D2.1
      have S2 := D2.2.2.2
      have e6 : M2 2 0 6 = M 2 0 6 := O2 _ _ _ (by omega)
      have e7 : M2 2 0 7 = e + 1 := by rw [O2 _ _ _ (by omega)]; exact h7
      have e1 : M2 1 c 1 = M 1 c 1 := O2 _ _ _ (by omega)
      have e3 : M2 3 e 0 = W := by rw [O2 _ _ _ (by omega)]; exact hW1
      have sme := S2 (1 + 10 * c + i) (by omega)
      have n2 : M2 5 (1 + 10 * c + i) 2 = M 5 (1 + 10 * c + i) 2 := O2 _ _ _ (by omega)
      have h0 : M2 5 (1 + 10 * c + i) 0 = M 5 (1 + 10 * c + i) 0 := O2 _ _ _ (by omega)
      have w2 : ∀ j, M2 32 (1 + 10 * c + i) j + M2 35 (1 + 10 * c + i) j = M 32 (1 + 10 * c + i) j + M 35 (1 + 10 * c + i) j := fun j => by rw [O2 32 _ _ (by omega), O2 35 _ _ (by omega)]
      have kp : p_kept M2 (1 + 10 * c + i) W ↔ p_kept M (1 + 10 * c + i) W := by
        unfold p_kept
        rw [sme 5 8 (by omega), n2]
        exact ⟨fun z => ⟨z.1, fun j a b => by rw [← sme 36 j (by omega), ← w2]; exact z.2 j a b⟩, fun z => ⟨z.1, fun j a b => by rw [sme 36 j (by omega), w2]; exact z.2 j a b⟩⟩
      have ss := p_sum_s (g := b_rg M W) (x := 10 * c + i) (by omega)
      have sb := sum_b (10 * c + i) (by omega)
      have rg : b_rg M W (10 * c + i) = b_rn M W (1 + 10 * c + i) := by
        unfold b_rg
        rw [show (10 * c + i) / 10 = c by omega, show (10 * c + i) % 10 = i by omega, if_pos i1, show 1 + (10 * c + i) = 1 + 10 * c + i by omega]
      refine w17_11 hS ⟨fun q => by omega, fun _ => ⟨⟨c0, c3⟩, fun _ => ⟨fun q => by omega, fun _ => ⟨⟨c0, c3⟩, ⟨by omega, by omega⟩, fun q => by omega, fun _ => ?_, fun q => by omega⟩, fun q => by omega⟩, fun q => by omega⟩, fun q => by omega⟩
      rw [e7, show e + 1 - 1 = e by omega, e3]
      refine t1 hS (by rw [n2]; exact hn _) hW (fun j => by rw [w2]; exact hw _ _) (fun q => ⟨fun _ => ⟨⟨by omega, by omega⟩, ?_⟩, fun z => absurd rfl z⟩) (fun q0 qk M3 O3 a1 a2 a3 a4 => ⟨fun z => absurd z (by decide), fun _ => ⟨⟨by omega, by omega, by omega, ?_⟩, ?_⟩⟩)
      · have r0 : b_rg M W (10 * c + i) = 0 := by rw [rg]; exact b_rn_0 (fun z => q.elim (fun y => y (by rw [h0]; exact z.1)) (fun y => z.2 (kp.mp y)))
        have gz : ∀ y, 10 * c + i ≤ y → y < 10 * c + (i + 1) → b_rg M W y = 0 := fun y a b => by rw [show y = 10 * c + i by omega]; exact r0
        exact ihi (by omega) v M2 (b_done_gap (by omega) (by omega) gz D2) (b_bits_gap (by omega) (by omega) gz B2)
      · have := q_bs_p (k := c) (x := 0) ⟨c0, by omega⟩ (by omega)
        omega
      · have r1 : b_rg M W (10 * c + i) = 1 := by rw [rg]; exact b_rn_1 ⟨by omega, fun y => qk (kp.mpr y)⟩
        have e9 : M3 2 0 9 = M2 2 0 9 := O3 _ _ _ (by omega)
        have d9 := D2.2.1
        refine ⟨⟨by omega, by omega⟩, fun M4 f4 => ⟨⟨by omega, by omega⟩, ?_⟩⟩
        have O4 : ∀ (k : Nat) (m s : Int), ¬ (k = 2 ∧ m = 0 ∧ s = 9) → M4 k m s = M3 k m s := fun k m s q => by rw [f4]; unfold qU; rw [if_neg q]
        refine ihi (by omega) _ M4 ⟨fun k m s q => by rw [O4 k m s (by omega), O3 k m s (by omega), O2 k m s q], ?_, fun y y0 y1 => ?_, fun it q k s hk => by rw [O4 k it s (by omega), O3 k it s (by omega)]; exact S2 it (by omega) k s hk⟩ ⟨?_, fun c' c0' c1' => ?_⟩
        · rw [f4, qU_s, show 10 * c + (i + 1) = 10 * c + i + 1 by omega]; omega
        · by_cases q : y = 10 * c + i
          · rw [q]
            refine ⟨fun _ => ?_, fun z => by omega⟩
            rw [show 1 + (10 * c + i) = 1 + 10 * c + i by omega]
            refine ⟨by rw [O4 _ _ _ (by omega)]; exact a1, fun j j0 j1 => by rw [O4 _ _ _ (by omega), a2 j j0 (by omega)]; exact w2 j, ?_⟩
            rw [O4 5 _ 10 (by omega), O4 5 _ 11 (by omega), show M4 37 (1 + 10 * c + i) = M3 37 (1 + 10 * c + i) from by funext s; exact O4 _ _ _ (by omega)]
            rw [n2, show (fun j => M2 32 (1 + 10 * c + i) j + M2 35 (1 + 10 * c + i) j) = (fun j => M 32 (1 + 10 * c + i) j + M 35 (1 + 10 * c + i) j) from by funext j; exact w2 j] at a4
            exact a4
          · have := D2.2.2.1 y y0 (by omega)
            have s3 : b_same M2 M4 (1 + y) := fun k s hk => by rw [O4 k _ s (by omega), O3 k _ s (by omega)]
            refine ⟨fun z => ?_, fun z k s hk => by rw [s3 k s hk]; exact this.2 z k s hk⟩
            obtain ⟨p1, p2, p3⟩ := this.1 z
            refine ⟨by rw [s3 _ _ (by omega)]; exact p1, fun j j0 j1 => by rw [s3 _ _ (by omega)]; exact p2 j j0 j1, ?_⟩
            rw [s3 5 10 (by omega), s3 5 11 (by omega), show M4 37 (1 + y) = M2 37 (1 + y) from by funext s; exact s3 _ _ (by omega)]
            exact p3
        · have := q_bs_p (k := c) (x := 0) ⟨c0, by omega⟩ (by omega)
          exact (q_bs_or (x := 0) B2.1 this.1.1).1
        · have bp := q_bs_p (k := c) (x := c') ⟨c0, by omega⟩ c0'
          have bo := (q_bs_or (x := c') B2.1 bp.1.1).2
          rw [bo, bp.2, B2.2 c' c0' c1']
          refine ⟨fun z => ?_, fun ⟨y, q1, q2, q3⟩ => ?_⟩
          · rcases z with ⟨y, q1, q2, q3⟩ | z
            · exact ⟨y, by omega, q2, q3⟩
            · exact ⟨10 * c + i, by omega, by omega, r1⟩
          · by_cases q : y = 10 * c + i
            · right; omega
            · left; exact ⟨y, by omega, q2, q3⟩
  · exact ⟨fun _ _ _ _ => rfl, by rw [show (10 : Int) * 0 = 0 by omega, p_sum_0]; omega, fun y a b => by omega, fun _ _ _ _ _ => rfl⟩
  · exact ⟨by omega, fun c _ _ => ⟨fun z => absurd z q_bs_z, fun ⟨y, q, _⟩ => by omega⟩⟩
