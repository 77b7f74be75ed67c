/-! ===== a round of the model ===== -/
/-- nothing stands where there is no item -/
def c_ok2 (B : pT) : Prop := ∀ x, 0 ≤ x → x < 30 → ¬ x % 10 < B 0 (x / 10) → B 1 x = 0 ∧ B 3 x = 0
def c_hds (B : pT) : Int := p_sum (fun x => if B 1 x = 0 then 0 else 1) 30
def c_nc (B : pT) : Int := (c_hds B + B 8 1 - 1) / B 8 1
/-- the pages of the contents -/
def c_p0 (B : pT) : Int := c_nc B + c_nc B % 2
theorem c_p0_b {B : pT} (hB : c_ok B) : (0 ≤ c_hds B ∧ c_hds B ≤ 30) ∧ (0 ≤ c_nc B ∧ c_nc B ≤ 43) ∧ 0 ≤ c_p0 B ∧ c_p0 B ≤ 44 := by
  have hD := hB.2.2.2.2.2.2.2.1
  have h := p_sum_bd (g := fun x => if B 1 x = 0 then 0 else 1) (b := 1) (n := 30) (fun k => by
    show 0 ≤ (if B 1 k = 0 then (0 : Int) else 1) ∧ (if B 1 k = 0 then (0 : Int) else 1) ≤ 1
    split <;> omega) (by decide)
  have h1 : 0 ≤ c_hds B ∧ c_hds B ≤ 30 := by unfold c_hds; omega
  have h2 : 0 ≤ c_nc B := Int.ediv_nonneg (by omega) (by omega)
  have h3 : c_nc B ≤ c_hds B + B 8 1 - 1 := Int.ediv_le_self _ (by omega)
  unfold c_p0
  exact ⟨h1, ⟨h2, by omega⟩, by omega, by omega⟩
def m_brk (B : pT) (M : qM) : Prop := ∀ x, 0 ≤ x → x < 30 → x % 10 < B 0 (x / 10) → B 1 x = 0 → M 79 0 x = 0 ∨ p_lined (fun j => M 80 0 (20 * x + j)) (B 3 x) (M 79 0 x) (M 81 0 x) (M 83 0 x) (fun s => M 82 0 (20 * x + s))
def m_brkW (B : pT) (W : Int → Int) (M : qM) : Prop := ∀ x, 0 ≤ x → x < 30 → x % 10 < B 0 (x / 10) → B 1 x = 0 → M 79 0 x = B 8 0 ∧ ∀ j, 0 ≤ j → j < B 3 x → M 80 0 (20 * x + j) = B 6 (20 * x + j) + W (20 * x + j)
theorem m_broke {B : pT} {W L C : Int → Int} {E : Int → Int → Int} {M M' : qM} (hB : c_ok B) (hL : c_lines B W L C E) (hM : m_bk B M) (h76 : ∀ y, 0 ≤ y → y < 600 → M 76 0 y = W y) (hb : m_brk B M) (h81 : ∀ k, 0 ≤ M 81 0 k ∧ M 81 0 k ≤ 1000) (D : m_dn M M' (B 8 0) 30 3) : (∀ x, 0 ≤ x → x < 30 → x % 10 < B 0 (x / 10) → B 1 x = 0 → M' 81 0 x = L x ∧ M' 83 0 x = C x ∧ ∀ s, 0 ≤ s → s < L x → M' 82 0 (20 * x + s) = E x s) ∧ m_brkW B W M' ∧ m_brk B M' ∧ (∀ k, 0 ≤ M' 81 0 k ∧ M' 81 0 k ≤ 1000) ∧ M' 11 0 23 = M 11 0 23 + p_sum (c_rg B (fun x => M 79 0 x) (fun y => M 80 0 y) W) 30 := by
  obtain ⟨d1, d2, d3, d4, d5⟩ := D
  obtain ⟨m1, m2, m3, m4, m5, m6⟩ := hM
  have n20 := hB.2.1
  have wds : ∀ x, 0 ≤ x → x < 30 → ∀ j, 0 ≤ j → j < B 3 x → M 69 0 (20 * x + j) + M 76 0 (20 * x + j) = B 6 (20 * x + j) + W (20 * x + j) := fun x x0 x1 j j0 j1 => by
    have nx := n20 x
    rw [(m3 (20 * x + j) (by omega) (by omega)).2.2, h76 (20 * x + j) (by omega) (by omega)]
  have rg : ∀ x, 0 ≤ x → x < 30 → c_rg B (fun x => M 79 0 x) (fun y => M 80 0 y) W x = m_rg M x := fun x x0 x1 => by
    unfold c_rg m_rg
    rw [m1 (x / 10) (by omega) (by omega)]
    by_cases q : x % 10 < B 0 (x / 10)
    · rw [if_pos q, if_pos q]
      unfold p_mkept
      rw [(m2 x x0 x1).1, (m2 x x0 x1).2.2, m4]
      have iff : (∀ j, 0 ≤ j → j < B 3 x → M 80 0 (20 * x + j) = B 6 (20 * x + j) + W (20 * x + j)) ↔ ∀ j, 0 ≤ j → j < B 3 x → M 80 0 (20 * x + j) = M 69 0 (20 * x + j) + M 76 0 (20 * x + j) :=
        ⟨fun z j j0 j1 => by rw [z j j0 j1, wds x x0 x1 j j0 j1], fun z j j0 j1 => by rw [z j j0 j1, wds x x0 x1 j j0 j1]⟩
      by_cases q2 : B 1 x = 0 ∧ ¬ (M 79 0 x = B 8 0 ∧ ∀ j, 0 ≤ j → j < B 3 x → M 80 0 (20 * x + j) = B 6 (20 * x + j) + W (20 * x + j))
      · rw [if_pos q2, if_pos ⟨q2.1, fun z => q2.2 ⟨z.1, iff.mpr z.2⟩⟩]
      · rw [if_neg q2, if_neg (fun z => q2 ⟨z.1, fun z2 => z.2 ⟨z2.1, iff.mp z2.2⟩⟩)]
    · rw [if_neg q, if_neg q]
  have main : ∀ x, 0 ≤ x → x < 30 → x % 10 < B 0 (x / 10) → B 1 x = 0 → p_lined (fun j => B 6 (20 * x + j) + W (20 * x + j)) (B 3 x) (B 8 0) (M' 81 0 x) (M' 83 0 x) (fun s => M' 82 0 (20 * x + s)) ∧ M' 79 0 x = B 8 0 ∧ ∀ j, 0 ≤ j → j < B 3 x → M' 80 0 (20 * x + j) = B 6 (20 * x + j) + W (20 * x + j) := fun x x0 x1 real q => by
    have it := d3 x x0 x1
    have mx := m2 x x0 x1
    have nx := n20 x
    have rm : m_rg M x = @ite Int (M 65 0 x = 0 ∧ ¬ p_mkept M x) (Classical.propDecidable _) 1 0 := by unfold m_rg; rw [if_pos (by rw [m1 (x / 10) (by omega) (by omega)]; exact real)]
    by_cases k : p_mkept M x
    · have r0 := it.2 (by rw [rm, if_neg (fun z => z.2 k)])
      unfold p_mkept at k
      rw [mx.2.2, m4] at k
      have k2 : ∀ j, 0 ≤ j → j < B 3 x → M 80 0 (20 * x + j) = B 6 (20 * x + j) + W (20 * x + j) := fun j a b => by rw [k.2 j a b]; exact wds x x0 x1 j a b
      rcases hb x x0 x1 real q with z | z
      · have := hB.2.2.2.2.2.2.1; omega
      · rw [k.1] at z
        obtain ⟨s1, s2, s3, s4⟩ := r0
        rw [s1, s2, s3]
        refine ⟨p_lined_cg (p_lined_w (fun j a b => (k2 j a b).symm) z) (fun s a b => (s4 s a (by omega)).2), k.1, fun j a b => by rw [(s4 j a (by omega)).1]; exact k2 j a b⟩
    · have p := it.1 (by rw [rm, if_pos ⟨by rw [mx.1]; exact q, k⟩])
      obtain ⟨p1, p2, p3⟩ := p
      rw [mx.2.2] at p2 p3
      exact ⟨p_lined_w (fun j a b => (wds x x0 x1 j a b).symm) p3, p1, fun j a b => by rw [p2 j a b]; exact wds x x0 x1 j a b⟩
  refine ⟨fun x x0 x1 r q => ?_, fun x x0 x1 r q => (main x x0 x1 r q).2, fun x x0 x1 r q => Or.inr ?_, fun k => ?_, ?_⟩
  · have u := p_lined_u (n20 x).1 ((hL x x0 x1 r).1 q) (main x x0 x1 r q).1
    exact u
  · have m := main x x0 x1 r q
    rw [m.2.1]
    exact p_lined_w (fun j a b => m.2.2 j a b) m.1
  · by_cases k0 : 0 ≤ k
    · by_cases k1 : 30 ≤ k
      · rw [(d4 k k1).2.1]; exact h81 k
      · have it := d3 k k0 (by omega)
        have nb := m_rg_b (M := M) (x := k)
        by_cases z : m_rg M k = 0
        · rw [(it.2 z).2.1]; exact h81 k
        · obtain ⟨p1, p2, ⟨C', L', E', t1, t2, t3⟩⟩ := it.1 (by omega)
          have := t3.1
          have nk := n20 k
          rw [(m2 k k0 (by omega)).2.2] at this
          omega
    · rw [d1 81 0 k (by omega)]; exact h81 k
  · rw [d2, p_sum_cg (by decide) (fun k a b => (rg k a b).symm)]
/-- the round in the model -/
def m_edm (B : pT) (R : c_R) (p0 : Int) (M : qM) : Prop := (∀ x, 0 ≤ x → x < 30 → x % 10 < B 0 (x / 10) → B 1 x = 0 → M 81 0 x = r_L R x ∧ M 83 0 x = r_C R x ∧ ∀ s, 0 ≤ s → s < r_L R x → M 82 0 (20 * x + s) = r_E R x s) ∧ (∀ c, 0 ≤ c → c < 3 → m_cd (r_A B R c) (B 0 c) (r_W R c) c M) ∧ M 11 0 58 = c_la (r_W R) p0 3 ∧ m_kd B (r_W R) p0 3 M
def m_env (B : pT) (ob : Prop) (Bo : pT) (Ro : c_R) (b : Int) (M : qM) : Prop := m_bk B M ∧ ((∀ x, 0 ≤ M 67 0 x ∧ M 67 0 x ≤ 20) ∧ ∀ i, 0 ≤ M 69 0 i ∧ M 69 0 i ≤ 8) ∧ ((¬ ob ∧ b = 0) ∨ (ob ∧ b ≠ 0 ∧ m_om B Bo Ro M ∧ ∀ L E, c_oldok B L E Bo Ro))
def m_inv (B : pT) (M : qM) : Prop := m_brk B M ∧ (∀ k, 0 ≤ M 81 0 k ∧ M 81 0 k ≤ 1000) ∧ ∀ s, -1000 ≤ M 88 0 s ∧ M 88 0 s ≤ 1000
def fr204 (M M' : qM) : Prop := ∀ (k : Nat) (m s : Int), ¬ (m = 0 ∧ ((k = 11 ∧ ((51 ≤ s ∧ s ≤ 58) ∨ s = 23)) ∨ (79 ≤ k ∧ k ≤ 116))) → M' k m s = M k m s
theorem m_brk_fr {B : pT} {M M' : qM} (h : m_brk B M) (hf : ∀ (k : Nat) (s : Int), 79 ≤ k → k ≤ 83 → M' k 0 s = M k 0 s) : m_brk B M' := fun x a b c q => by
  have e80 : (fun j => M' 80 0 (20 * x + j)) = fun j => M 80 0 (20 * x + j) := by funext j; exact hf _ _ (by decide) (by decide)
  have e82 : (fun j => M' 82 0 (20 * x + j)) = fun j => M 82 0 (20 * x + j) := by funext j; exact hf _ _ (by decide) (by decide)
  rw [hf _ _ (by decide) (by decide), hf _ _ (by decide) (by decide), hf _ _ (by decide) (by decide), e80, e82]
  exact h x a b c q
theorem m_brkW_fr {B : pT} {W : Int → Int} {M M' : qM} (h : m_brkW B W M) (hf : ∀ (k : Nat) (s : Int), 79 ≤ k → k ≤ 83 → M' k 0 s = M k 0 s) : m_brkW B W M' := fun x a b c q => by
  have := h x a b c q
  exact ⟨by rw [hf _ _ (by decide) (by decide)]; exact this.1, fun j j0 j1 => by rw [hf _ _ (by decide) (by decide)]; exact this.2 j j0 j1⟩
