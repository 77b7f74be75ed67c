/-! ===== whether the law's draft fits ===== -/
def k_dn (M : qM) (i : Int) : Int := if M 79 0 i / 16 % 8 = 2 then M 79 0 i / 128 else 0
def k_df (M : qM) (i : Int) : Int := if M 79 0 i / 16 % 8 = 3 then 1 else 0
/-- label i of the draft stands nowhere else -/
def k_dl (B : pT) (but : Int) (M : qM) (i : Int) : Prop := M 79 0 i / 16 % 8 = 1 → (∀ o, 0 ≤ o → o < i → M 79 0 o / 16 ≠ M 79 0 i / 16) ∧ ∀ it w, 0 ≤ it → it < 18 → it ≠ but → 0 ≤ w → w < B 3 (k_x it) → k_cd M it w / 16 ≠ M 79 0 i / 16
def k_fits (B : pT) (c but n : Int) (M : qM) : Prop := 0 < n ∧ k_ct3 B c but (-1) + n ≤ 60 ∧ k_ct3 B c but 2 + p_sum (k_dn M) n ≤ 12 ∧ k_ct3 B c but 3 + p_sum (k_df M) n ≤ 4 ∧ ∀ i, 0 ≤ i → i < n → k_dl B but M i
section
variable {d : Nat} {h : qH} {B : pT} {M : qM}
theorem k_ct3_b (hB : c_ok B) (hl : k_lim B) {c but kd : Int} (hc : 0 ≤ c ∧ c < 3) : 0 ≤ k_ct3 B c but kd ∧ k_ct3 B c but kd ≤ 810 := by
  have e : k_ct3 B c but kd = 0 + k_sm B but kd (6 * c + 0) + k_sm B but kd (6 * c + 1) + k_sm B but kd (6 * c + 2) + k_sm B but kd (6 * c + 3) + k_sm B but kd (6 * c + 4) + k_sm B but kd (6 * c + 5) := rfl
  have a0 := k_sm_b hB hl but kd (6 * c + 0) (by omega)
  have a1 := k_sm_b hB hl but kd (6 * c + 1) (by omega)
  have a2 := k_sm_b hB hl but kd (6 * c + 2) (by omega)
  have a3 := k_sm_b hB hl but kd (6 * c + 3) (by omega)
  have a4 := k_sm_b hB hl but kd (6 * c + 4) (by omega)
  have a5 := k_sm_b hB hl but kd (6 * c + 5) (by omega)
  omega
theorem L226 {f : Int → qM → Prop} {c but n : Int} (hS : qSe h) (hB : c_ok B) (hB2 : c_ok2 B) (hl : k_lim B) (hbk : k_bk B M) (hc : 0 ≤ c ∧ c < 3) (h0 : M 76 0 0 = n) (hn : 0 ≤ n ∧ n ≤ 20) (hd : ∀ i, 0 ≤ i → i < n → 0 ≤ M 79 0 i ∧ M 79 0 i < 2048) (H1 : k_fits B c but n M → f 1 M) (H0 : ¬ k_fits B c but n M → f 0 M) : e226 (d + 3) h c but M f := by
  have b1 := k_ct3_b hB hl (but := but) (kd := -1) hc
  have b2 := k_ct3_b hB hl (but := but) (kd := 2) hc
  have b3 := k_ct3_b hB hl (but := but) (kd := 3) hc
  have dnb : ∀ i, 0 ≤ i → i < n → 0 ≤ k_dn M i ∧ k_dn M i ≤ 15 := fun i a b => by
    have := hd i a b
    unfold k_dn
    split <;> omega
  have dfb : ∀ i, 0 ≤ k_df M i ∧ k_df M i ≤ 1 := fun i => by unfold k_df; split <;> omega
  have sdn : ∀ i, 0 ≤ i → i ≤ n → 0 ≤ p_sum (k_dn M) i ∧ p_sum (k_dn M) i ≤ 15 * i := fun i i0 i1 => by
    refine q_dnto (P := fun i => i ≤ n → 0 ≤ p_sum (k_dn M) i ∧ p_sum (k_dn M) i ≤ 15 * i) i0 (fun _ => by rw [p_sum_0]; omega) (fun j j0 j1 ih jn => ?_) i1
    have s := p_sum_s (g := k_dn M) (x := j - 1) (by omega)
    rw [show j - 1 + 1 = j by omega] at s
    have b := dnb (j - 1) (by omega) (by omega)
    have := ih (by omega)
    omega
  refine w226 hS (L225 hS hB hB2 hl hbk hc ?_)
  rw [h0]
  refine ⟨⟨by omega, by omega⟩, L225 hS hB hB2 hl hbk hc (L225 hS hB hB2 hl hbk hc ?_)⟩
  refine q_upto (P := fun i => ∀ u10 u11 : qV, 0 ≤ i → (∀ j, 0 ≤ j → j < i → k_dl B but M j) → b226_43 d h f (.inl c) but (k_ct3 B c but (-1) + n) (k_ct3 B c but 2 + p_sum (k_dn M) i) (k_ct3 B c but 3 + p_sum (k_df M) i) i u10 u11 M) (a := 0) (b := n) hn.1 (fun u10 u11 _ lab => ?_) (fun i i0 i1 ih u10 u11 _ lab => ?_) q_u q_u (Int.le_refl _) (fun j a b => by omega) |> fun z => by
      rw [p_sum_0, p_sum_0, Int.add_zero, Int.add_zero] at z
      exact z
  · refine w226_43 hS ?_
    rw [h0]
    refine ⟨fun z => absurd z (Int.lt_irrefl _), fun _ x hx => ?_⟩
    by_cases q : k_fits B c but n M
    · obtain ⟨q1, q2, q3, q4, q5⟩ := id q
      rw [if_neg (by omega), if_pos q2, if_pos q3, if_pos q4] at hx
      rw [hx]
      exact ⟨Or.inr rfl, H1 q⟩
    · have x0 : x = 0 := by
        rw [hx]
        by_cases a : n ≤ 0
        · rw [if_pos a]
        · rw [if_neg a]
          by_cases b : k_ct3 B c but (-1) + n ≤ 60
          · rw [if_pos b]
            by_cases e : k_ct3 B c but 2 + p_sum (k_dn M) n ≤ 12
            · rw [if_pos e, if_neg (fun g => q ⟨by omega, b, e, g, lab⟩)]
            · rw [if_neg e]
          · rw [if_neg b]
      rw [x0]
      exact ⟨Or.inl rfl, H0 q⟩
  · have d79 := hd i i0 i1
    have s1 := sdn i i0 (by omega)
    have s2 := p_sum_bd (g := k_df M) (b := 1) (n := i) dfb i0
    have sn := p_sum_s (g := k_dn M) i0
    have sf := p_sum_s (g := k_df M) i0
    have nb := dnb i i0 i1
    have fb := dfb i
    refine w226_43 hS ?_
    rw [h0]
    refine ⟨fun _ => ⟨⟨by omega, by omega⟩, L188 hS ⟨fun _ => ⟨by omega, by omega⟩, fun x hx => ?_⟩⟩, fun z => absurd i1 z⟩
    have ex : x = k_dn M i := by rw [hx]; rfl
    rw [ex]
    refine ⟨⟨by omega, by omega⟩, ⟨by omega, by omega⟩, L188 hS (fun y hy => ?_)⟩
    have ey : y = k_df M i := by rw [hy]; rfl
    rw [ey, show k_ct3 B c but 2 + p_sum (k_dn M) i + k_dn M i = k_ct3 B c but 2 + p_sum (k_dn M) (i + 1) by omega, show k_ct3 B c but 3 + p_sum (k_df M) i + k_df M i = k_ct3 B c but 3 + p_sum (k_df M) (i + 1) by omega]
    refine ⟨⟨by omega, by omega⟩, ⟨by omega, by omega⟩, L188 hS ?_⟩
    have next : k_dl B but M i → ∀ u10 u11, b226_43 d h f (.inl c) but (k_ct3 B c but (-1) + n) (k_ct3 B c but 2 + p_sum (k_dn M) (i + 1)) (k_ct3 B c but 3 + p_sum (k_df M) (i + 1)) (i + 1) u10 u11 M := fun ok u10 u11 => ih u10 u11 (by omega) (fun j a b => by
      by_cases e : j = i
      · rw [e]; exact ok
      · exact lab j a (by omega))
    refine ⟨fun k1 => ?_, fun k1 => ⟨⟨by omega, by omega⟩, next (fun z => absurd z k1) _ _⟩⟩
    -- a label: the draft, then the book
    refine q_upto (P := fun o => 0 ≤ o → (∀ j, 0 ≤ j → j < o → M 79 0 j / 16 ≠ M 79 0 i / 16) → b226_116 d h f (.inl c) but (k_ct3 B c but (-1) + n) (k_ct3 B c but 2 + p_sum (k_dn M) (i + 1)) (k_ct3 B c but 3 + p_sum (k_df M) (i + 1)) i o u11 M) (a := 0) (b := i) i0 (fun _ nd => ?_) (fun o o0 o1 iho _ nd => ?_) (Int.le_refl _) (fun j a b => by omega)
    · refine w226_116 hS ⟨fun z => absurd z (Int.lt_irrefl _), fun _ => ?_⟩
      refine q_upto (P := fun it => ∀ u11 : qV, 0 ≤ it → (∀ o w, 0 ≤ o → o < it → o ≠ but → 0 ≤ w → w < B 3 (k_x o) → k_cd M o w / 16 ≠ M 79 0 i / 16) → b226_149 d h f (.inl c) but (k_ct3 B c but (-1) + n) (k_ct3 B c but 2 + p_sum (k_dn M) (i + 1)) (k_ct3 B c but 3 + p_sum (k_df M) (i + 1)) i it u11 M) (a := 0) (b := 18) (by decide) (fun u11 _ nb => ?_) (fun it it0 it1 ihi u11 _ nb => ?_) u11 (Int.le_refl _) (fun o w a b => by omega)
      · exact w226_149 hS ⟨fun z => absurd z (by decide), fun _ => ⟨⟨by omega, by omega⟩, next (fun _ => ⟨nd, fun it w a b e g k => nb it w a b e g k⟩) _ _⟩⟩
      · have bt := hbk.2.1 it it0 it1
        have nw := (hB.2.1 (k_x it)).1
        have n15 := hl.2.1 (k_x it) (k_x_p ⟨it0, it1⟩).1.1 (k_x_p ⟨it0, it1⟩).1.2
        refine w226_149 hS ⟨fun _ => ?_, fun z => absurd it1 z⟩
        by_cases eb : it = but
        · have nx : ∀ u11, b226_149 d h f (.inl c) but (k_ct3 B c but (-1) + n) (k_ct3 B c but 2 + p_sum (k_dn M) (i + 1)) (k_ct3 B c but 3 + p_sum (k_df M) (i + 1)) i (it + 1) u11 M := fun u11 => ihi u11 (by omega) (fun o w a b e g k => by
            by_cases z : o = it
            · exact absurd (z.trans eb) e
            · exact nb o w a (by omega) e g k)
          refine w226_159 hS (L189 hS ⟨it0, it1⟩ ?_)
          exact ⟨fun _ => ⟨fun _ => ⟨⟨by omega, by omega⟩, nx _⟩, fun z => absurd eb z⟩, fun _ => ⟨⟨by omega, by omega⟩, nx _⟩⟩
        · refine q_upto (P := fun w => 0 ≤ w → (∀ v, 0 ≤ v → v < w → k_cd M it v / 16 ≠ M 79 0 i / 16) → b226_159 d h f (.inl c) but (k_ct3 B c but (-1) + n) (k_ct3 B c but 2 + p_sum (k_dn M) (i + 1)) (k_ct3 B c but 3 + p_sum (k_df M) (i + 1)) i it w M) (a := 0) (b := B 3 (k_x it)) nw (fun _ nv => ?_) (fun w w0 w1 ihw _ nv => ?_) (Int.le_refl _) (fun v a b => by omega)
          · refine w226_159 hS (L189 hS ⟨it0, it1⟩ ?_)
            rw [bt.2.1]
            refine ⟨fun z => absurd z (Int.lt_irrefl _), fun _ => ⟨⟨by omega, by omega⟩, ihi _ (by omega) (fun o w a b e g k => ?_)⟩⟩
            by_cases z : o = it
            · rw [z] at k ⊢; exact nv w g k
            · exact nb o w a (by omega) e g k
          · refine w226_159 hS (L189 hS ⟨it0, it1⟩ ?_)
            rw [bt.2.1]
            refine ⟨fun _ => ⟨fun z => absurd z eb, fun _ => L187 hS ⟨it0, it1⟩ ⟨w0, by omega⟩ ⟨⟨by omega, by omega⟩, fun same => H0 (fun q => ?_), fun diff => ⟨⟨by omega, by omega⟩, ihw (by omega) (fun v a b => ?_)⟩⟩⟩, fun z => absurd w1 z⟩
            · exact ((q.2.2.2.2 i i0 i1) k1).2 it w it0 it1 eb w0 w1 same
            · by_cases z : v = w
              · rw [z]; exact diff
              · exact nv v a (by omega)
    · refine w226_116 hS ⟨fun _ => ⟨⟨by omega, by omega⟩, ⟨by omega, by omega⟩, fun same => H0 (fun q => ((q.2.2.2.2 i i0 i1) k1).1 o o0 o1 same), fun diff => ⟨⟨by omega, by omega⟩, iho (by omega) (fun j a b => ?_)⟩⟩, fun z => absurd o1 z⟩
      by_cases z : j = o
      · rw [z]; exact diff
      · exact nd j a (by omega)
end
