/-! ===== the pages that the law keeps ===== -/
/-- what was printed of a chapter: pages O behind page q0 -/
def k_old (M : qM) (c : Int) (O : pT) (wo co q0 : Int) : Prop := (0 ≤ q0 ∧ q0 + co ≤ M 76 0 33 ∧ M 76 0 33 ≤ 61) ∧ (0 ≤ wo ∧ wo ≤ co) ∧ M 76 0 (36 + c) = q0 + 1 ∧ (∀ k, 0 ≤ k → k < co → (0 ≤ M 81 0 (q0 + 1 + k) ∧ M 81 0 (q0 + 1 + k) ≤ 2147483647) ∧ M 81 0 (q0 + 1 + k) % 8 = c ∧ M 81 0 (q0 + 1 + k) / 8 % 32 = g_bf O 0 k ∧ M 81 0 (q0 + 1 + k) / 256 % 16 = O 0 k - g_bf O 0 k ∧ M 81 0 (q0 + 1 + k) / 32768 % 8 = O 1 k - g_bf O 1 k) ∧ (q0 + 1 + co ≤ M 76 0 33 → M 81 0 (q0 + 1 + co) % 8 ≠ c) ∧ (∀ k, wo ≤ k → k < co → O 0 k = g_bf O 0 k) ∧ (∀ k, 0 ≤ k → k < wo - 1 → O 0 k < M 76 0 (39 + c)) ∧ (0 < wo → O 0 (wo - 1) = M 76 0 (39 + c))
def k_srow (A : pA) (cnt c : Int) (M : qM) (r : Int) : Prop := r < p_SR A cnt ∧ M 71 0 (20 * c + r) % 16384 = M 80 0 (20 * c + r) % 16384 ∧ M 65 0 (6 * c + M 71 0 (20 * c + r) % 16) / 256 % 256 = M 82 0 (6 * c + M 71 0 (20 * c + r) % 16)
def k_on (c : Int) (kp : Int) (M : qM) : Prop := kp ≠ 0 ∧ M 76 0 34 = M 76 0 1 ∧ M 76 0 35 = M 76 0 2 ∧ M 76 0 (36 + c) = M 76 0 (10 + c)
theorem k_srow_fy {A : pA} {cnt c p0 : Int} {M M' : qM} (hA : k_sz A cnt c) (f : k_fy c p0 M M') {r : Int} (hr : 0 ≤ r) : k_srow A cnt c M' r ↔ k_srow A cnt c M r := by
  have := hA.1
  have := hA.2.2.2.2
  unfold k_srow
  by_cases z : r < p_SR A cnt
  · have g := f.2 (20 * c + r) (by omega) (by omega)
    rw [g.1, f.1 80 _ _ (by omega), f.1 65 _ _ (by omega), f.1 82 _ _ (by omega), show M' 71 0 (20 * c + r) % 16 = M 71 0 (20 * c + r) % 16 by omega]
  · exact ⟨fun h => absurd h.1 z, fun h => absurd h.1 z⟩
section
variable {d : Nat} {h : qH} {M : qM} {f : Int → qM → Prop}
theorem L206n (hS : qSe h) {x : Int} (H : f (x / 256 % 16) M) : e206 (d + 1) h x 8 15 M f := L206 hS ⟨by decide, by decide⟩ (by rw [k_a15]; exact H)
theorem L206a (hS : qSe h) {x : Int} (H : f (x / 8 % 32) M) : e206 (d + 1) h x 3 31 M f := L206 hS ⟨by decide, by decide⟩ (by rw [k_a31]; exact H)
theorem L206m (hS : qSe h) {x : Int} (H : f (x / 32768 % 8) M) : e206 (d + 1) h x 15 7 M f := L206 hS ⟨by decide, by decide⟩ (by rw [k_a7]; exact H)
theorem L206s (hS : qSe h) {x : Int} (H : f (x / 256 % 256) M) : e206 (d + 1) h x 8 255 M f := L206 hS ⟨by decide, by decide⟩ (by rw [k_a255]; exact H)
end
section
variable {d : Nat} {h : qH} {f : Int → qH → qM → Prop} {A : pA} {cnt c D sn p0 nc : Int}
theorem k_371 (hS : qSe h) {kp : Int} {O : pT} {wo co : Int} {P : pT} {M0 : qM} (hp0 : 0 ≤ p0 ∧ p0 ≤ 42) (env0 : k_env A cnt c D sn M0) (on : k_on c kp M0) (hmo : k_old M0 c O wo co p0) (hgo : g_old O wo)
    (hfl : ∀ k, 0 ≤ k → k < wo - 1 → (∀ r, 0 ≤ r → r < O 0 k → k_srow A cnt c M0 r) → O 1 k ≤ p_fl A (O 0 k) ∧ O 1 k ≤ g_bf O 1 k + 2 ∧ O 0 k < p_SR A cnt)
    (H : ∀ M' P' ck, k_fy c p0 M0 M' → k_P P' ck p0 c M' → g_some (p_T A cnt D) P' ck → M' 76 0 (16 + c) = p_sum (g_kc (p_T A cnt D) P') ck → k_pgs (p_T A cnt D) P' ck → g_keepP (p_T A cnt D) O (k_srow A cnt c M0) wo (k_on c kp M0) P' ck → (g_bf P' 0 ck < p_SR A cnt ∨ ck = 0) → ∀ u4 u9 u10 u11 u12 u21 u22 u23 u24 u25 : qV, b205_725 d h f u4 c u9 u10 u11 u12 sn nc (p_SR A cnt) (g_bf P' 0 ck) (g_bf P' 1 ck) (g_bf P' 2 ck) (k_before P' ck) (k_odd ck) u21 u22 u23 u24 u25 M') :
    ∀ (t : Nat) (k : Int) (Q : pT) (M1 : qM), co - k ≤ t → 0 ≤ k → (k = 0 ∨ k ≤ wo - 1) → k_fy c p0 M0 M1 → k_P Q k p0 c M1 → (∀ q, 0 ≤ q → q < k → g_kp (p_T A cnt D) O (k_srow A cnt c M0) Q q ∧ g_pg (p_T A cnt D) Q q (O 0 q) (O 1 q - g_bf O 1 q)) → g_some (p_T A cnt D) Q k → M1 76 0 (16 + c) = p_sum (g_kc (p_T A cnt D) Q) k → k_pgs (p_T A cnt D) Q k → (g_bf Q 0 k < p_SR A cnt ∨ k = 0) → (g_bf Q 0 k = g_bf O 0 k ∧ g_bf Q 1 k = g_bf O 1 k) → (∀ r, 0 ≤ r → r < g_bf O 0 k → k_srow A cnt c M0 r) → ∀ u4 u9 u23 u24 u25 : qV, b205_371 d h f u4 c u9 sn nc (p_SR A cnt) (g_bf Q 0 k) (g_bf Q 1 k) (g_bf Q 2 k) (k_before Q k) (k_odd k) 1 (p0 + 1 + k) u23 u24 u25 M1 := by
  intro t
  induction t with
  | zero =>
    intro k Q M1 e0 k0 k1 y1 hQ hkp hso v16 pgs hlt hsame hall u4 u9 u23 u24 u25
    obtain ⟨o1, o2, o3, o4, o5, o6, o7, o8⟩ := id hmo
    have c3 := env0.1.1.1
    have done := H M1 Q k y1 hQ hso v16 pgs (Or.inl ⟨on, ⟨k0, k1⟩, hkp, Or.inl (by omega)⟩) hlt
    have hkc : k = co := by omega
    refine w205_371 hS ⟨fun z => absurd z (by decide), fun _ => ⟨fun le => ⟨⟨by omega, by rw [y1.1 _ _ _ (by omega)] at le; omega⟩, ?_⟩, fun _ => done _ _ _ _ _ _ _ _ _ _⟩⟩
    rw [k_a7, y1.1 81 _ _ (by omega)]
    refine ⟨fun z => absurd z ?_, fun _ => done _ _ _ _ _ _ _ _ _ _⟩
    rw [hkc]
    exact o5 (by rw [y1.1 _ _ _ (by omega)] at le; omega)
  | succ t ih =>
    intro k Q M1 e0 k0 k1 y1 hQ hkp hso v16 pgs hlt hsame hall u4 u9 u23 u24 u25
    obtain ⟨o1, o2, o3, o4, o5, o6, o7, o8⟩ := id hmo
    have env1 := k_env_fy env0 y1
    obtain ⟨hch, hss, hfl1, hcn⟩ := id env1
    obtain ⟨hA, hD, ⟨m2, m19⟩, hr, hi, hw⟩ := id hch
    have hT := p_T_tab hA.2.2.2.1 hD
    have c3 := hA.1
    have s16 := hA.2.2.2.2
    have T8 := p_T_8 (A := A) (cnt := cnt) (D := D)
    have e33 : M1 76 0 33 = M0 76 0 33 := y1.1 _ _ _ (by omega)
    have e39 : M1 76 0 (39 + c) = M0 76 0 (39 + c) := y1.1 _ _ _ (by omega)
    have e81 : ∀ s, M1 81 0 s = M0 81 0 s := fun s => y1.1 81 _ _ (by omega)
    have go := hgo.1
    by_cases hkc : k < co
    · have ok := o4 k k0 hkc
      have stop : (wo - 1 ≤ k ∨ ¬ g_kp (p_T A cnt D) O (k_srow A cnt c M0) Q k) → ∀ M2, k_fy c p0 M0 M2 → k_P Q k p0 c M2 → M2 76 0 (16 + c) = M1 76 0 (16 + c) → ∀ u4 u9 u10 u11 u12 u21 u22 u23 u24 u25 : qV, b205_725 d h f u4 c u9 u10 u11 u12 sn nc (p_SR A cnt) (g_bf Q 0 k) (g_bf Q 1 k) (g_bf Q 2 k) (k_before Q k) (k_odd k) u21 u22 u23 u24 u25 M2 := fun hst M2 y2 hQ2 t2 => H M2 Q k y2 hQ2 hso (by rw [t2]; exact v16) pgs (Or.inl ⟨on, ⟨k0, k1⟩, hkp, hst⟩) hlt
      refine w205_371 hS ⟨fun z => absurd z (by decide), fun _ => ⟨fun _ => ⟨⟨by omega, by omega⟩, ?_⟩, fun z => absurd (show p0 + 1 + k ≤ M1 76 0 33 by rw [e33]; omega) z⟩⟩
      rw [k_a7, e81, ok.2.1]
      refine ⟨fun _ => ⟨⟨by omega, by omega⟩, L206n hS ⟨⟨by omega, by omega⟩, ?_⟩⟩, fun z => absurd rfl z⟩
      rw [e81, ok.2.2.2.1]
      refine L206a hS ?_
      rw [ok.2.2.1, e39]
      refine ⟨fun z => ⟨⟨by omega, by omega⟩, ⟨by omega, by omega⟩, by omega, by omega⟩, fun g hg => ?_⟩
      have end0 : (wo - 1 ≤ k ∨ ¬ g_kp (p_T A cnt D) O (k_srow A cnt c M0) Q k) → ∀ (r : Int) (u4 u9 : qV), (∀ r', r ≤ r' → qIn (r' + 1) ∨ ¬ r' < O 0 k) → b205_458 d h f u4 c u9 sn nc (p_SR A cnt) (g_bf Q 0 k) (g_bf Q 1 k) (g_bf Q 2 k) (k_before Q k) (k_odd k) 0 (p0 + 1 + k) (O 0 k - g_bf O 0 k) (g_bf O 0 k) r M1 := fun hst r u4 u9 _ => by
        have og : 0 ≤ O 0 k ∧ O 0 k ≤ 31 + 15 := by
          have a := ok.2.2.1
          have b := ok.2.2.2.1
          omega
        refine w205_458 hS ⟨⟨by omega, by omega⟩, fun _ => ⟨fun _ => w205_579 hS ⟨fun _ => stop hst M1 y1 hQ rfl _ _ _ _ _ _ _ _ _ _, fun z => absurd rfl z⟩, fun z => absurd rfl z⟩, fun _ => w205_579 hS ⟨fun _ => stop hst M1 y1 hQ rfl _ _ _ _ _ _ _ _ _ _, fun z => absurd rfl z⟩⟩
      by_cases hkw : k < wo - 1
      · have og := hgo.2 k k0 (by omega)
        have o7k := o7 k k0 hkw
        rw [if_neg (by omega), if_pos (by omega)] at hg
        rw [hg]
        have sr : ∀ r, 0 ≤ r → (k_srow A cnt c M1 r ↔ k_srow A cnt c M0 r) := fun r hr => k_srow_fy hA y1 hr
        have b31 := ok.2.2.1
        have b15 := ok.2.2.2.1
        refine q_upto (P := fun r => (∀ q, g_bf O 0 k ≤ q → q < r → k_srow A cnt c M0 q) → g_bf O 0 k ≤ r → b205_458 d h f u4 c u9 sn nc (p_SR A cnt) (g_bf Q 0 k) (g_bf Q 1 k) (g_bf Q 2 k) (k_before Q k) (k_odd k) 1 (p0 + 1 + k) (O 0 k - g_bf O 0 k) (g_bf O 0 k) r M1) (a := g_bf O 0 k) (b := O 0 k) (by omega) (fun hrows _ => ?_) (fun r r0 r1 ihr hrows _ => ?_) (fun q a b => by omega) (Int.le_refl _)
        · -- all rows are the same: the page is tried
          have hall2 : ∀ r, 0 ≤ r → r < O 0 k → k_srow A cnt c M0 r := fun r a b => by
            by_cases e : r < g_bf O 0 k
            · exact hall r a e
            · exact hrows r (by omega) b
          have hf := hfl k k0 hkw hall2
          have at1 : g_at (p_T A cnt D) (g_bf Q 0 k) (g_bf Q 1 k) (g_bf Q 2 k) := hso.2.1
          refine w205_458 hS ⟨⟨by omega, by omega⟩, fun z => absurd z (by omega), fun _ => w205_579 hS ⟨fun z => absurd z (by decide), fun _ bf hbf => ⟨⟨by omega, by omega⟩, L206m hS ?_⟩⟩⟩
          rw [e81, ok.2.2.2.2, ← hsame.1]
          refine L201n (N := O 0 k - g_bf Q 0 k) rfl (A := A) (cnt := cnt) (D := D) (b := O 0 k) (x := g_x Q k) hS hch hss hfl1 at1 ⟨by omega, by omega⟩ ⟨by omega, by omega, by rw [hsame.2]; omega⟩ (k_bx hso hbf) (fun hno => ⟨fun _ => stop (Or.inr (fun zz => hno zz.2)) M1 y1 hQ rfl _ _ _ _ _ _ _ _ _ _, fun z => absurd rfl z⟩) (fun can M2 O2 v29 v30 v31 v32 => ⟨fun z => absurd z (by omega), fun _ => ⟨⟨by omega, by omega⟩, L206m hS ?_⟩⟩)
          have y2 : k_fy c p0 M1 M2 := k_fy_29 O2
          have hQ2 : k_P Q k p0 c M2 := k_P_fr hQ (fun a s q => O2 a 0 s (by omega))
          have k16 := hso.1
          rw [O2 81 _ _ (by omega), e81, ok.2.2.2.2]
          refine k_lay hS (k_ch_fy hch y2) hQ2 hso hp0 (by have := hso.1; have := at1.1; rw [T8.1] at this; omega) can v29 v30 v31 v32 (by rw [O2 _ _ _ (by omega)]; exact v16) (fun M3 y3 hQ3 w16 w29 w31 => ⟨⟨by omega, by omega⟩, L206m hS ?_⟩)
          rw [y3.1 81 _ _ (by omega), O2 81 _ _ (by omega), e81, ok.2.2.2.2, w29, w31, v29, v31]
          have hcl : ∀ i q, q < k → g_add (p_T A cnt D) Q k (O 0 k) (O 1 k - g_bf O 1 k) i q = Q i q := fun i q hq => g_ap_o (by omega)
          have pg := g_add_pg (T := p_T A cnt D) (P := Q) (c := k) (b := O 0 k) (m := O 1 k - g_bf O 1 k)
          have ss := g_some_s hT hso can
          have nx := g_next hT at1 can.1 ⟨can.2.1.1, can.2.1.2.2⟩ can.2.2
          have tb := g_tab_at hT nx.1
          have nx2 := nx.2.2
          have nx1 := nx.2.1
          have F4 := hT.2.2.1
          have N12 := hT.2.2.2.1
          generalize hQQ : g_add (p_T A cnt D) Q k (O 0 k) (O 1 k - g_bf O 1 k) = R at *
          obtain ⟨f0, f1, f2, fx⟩ := g_bf_c hcl (k := k) (Int.le_refl _)
          have pg' := pg
          unfold g_pg at pg'
          rw [f0, f1, f2] at pg'
          have n0 : g_bf R 0 (k + 1) = O 0 k := (g_bf_s k0).trans pg'.1
          have n1 : g_bf R 1 (k + 1) = g_bf Q 1 k + (O 1 k - g_bf O 1 k) := (g_bf_s k0).trans pg'.2.1
          have n2 : g_bf R 2 (k + 1) = g_bf Q 2 k + g_lines (p_T A cnt D) (g_bf Q 0 k) (O 0 k) (g_bf Q 1 k) (O 1 k - g_bf O 1 k) (g_bf Q 2 k) := (g_bf_s k0).trans pg'.2.2.1
          have nB : k_before R (k + 1) = g_fill (p_T A cnt D) (g_bf Q 0 k) (O 0 k) (g_bf Q 1 k) (O 1 k - g_bf O 1 k) (g_bf Q 2 k) := by
            unfold k_before
            rw [if_neg (by omega), show k + 1 - 1 = k by omega]
            exact pg'.2.2.2.2
          have b0 : g_bf O 0 (k + 1) = O 0 k := g_bf_s k0
          have b1 : g_bf O 1 (k + 1) = O 1 k := g_bf_s k0
          have yy : k_fy c p0 M0 M3 := k_fy_t y1 (k_fy_t y2 y3 (Int.le_refl _)) (Int.le_refl _)
          refine ⟨⟨by omega, by omega⟩, ⟨by omega, by omega⟩, ⟨by omega, by omega⟩, fun od hod => ⟨⟨by omega, by omega⟩, ?_⟩⟩
          have eod : od = k_odd (k + 1) := by rw [hod, k_odd_s]
          rw [show g_bf Q 0 k + (O 0 k - g_bf Q 0 k) = g_bf R 0 (k + 1) by rw [n0]; omega, ← n1, ← n2, ← nB, eod, show p0 + 1 + k + 1 = p0 + 1 + (k + 1) by omega]
          refine ih (k + 1) R M3 (by omega) (by omega) (Or.inr (by omega)) yy hQ3 (fun q q0' q1 => ?_) ss.1 w16 (fun q q0 q1 => ?_) (Or.inl (by rw [n0]; omega)) ⟨by rw [n0, b0], by rw [n1, b1]; omega⟩ (fun r a b => hall2 r a (by rw [b0] at b; exact b)) _ _ _ _ _
          · by_cases eq : q = k
            · subst eq
              exact ⟨(g_kp_c hcl (Int.le_refl _)).mpr ⟨fun r a b => hrows r a b, can⟩, pg⟩
            · have := hkp q q0' (by omega)
              exact ⟨(g_kp_c hcl (by omega)).mpr this.1, g_pg_c hcl (by omega) this.2⟩
          · by_cases eq : q = k
            · subst eq
              rw [f0, f1, f2, pg'.1, pg'.2.1, pg'.2.2.1]
              exact ⟨at1, _, can, rfl, rfl⟩
            · obtain ⟨z1, m', z2, z3, z4⟩ := pgs q q0 (by omega)
              obtain ⟨x0, x1, x2, _⟩ := g_bf_c hcl (k := q) (by omega)
              rw [x0, x1, x2, hcl 0 q (by omega), hcl 1 q (by omega), hcl 2 q (by omega)]
              exact ⟨z1, m', z2, z3, z4⟩
        · have no : ¬ k_srow A cnt c M0 r → b205_458 d h f u4 c u9 sn nc (p_SR A cnt) (g_bf Q 0 k) (g_bf Q 1 k) (g_bf Q 2 k) (k_before Q k) (k_odd k) 0 (p0 + 1 + k) (O 0 k - g_bf O 0 k) (g_bf O 0 k) (r + 1) M1 := fun hno => end0 (Or.inr (fun zz => hno (zz.1 r r0 r1))) (r + 1) u4 u9 (fun r' _ => by
            by_cases z : r' < O 0 k
            · exact Or.inl ⟨by omega, by omega⟩
            · exact Or.inr z)
          refine w205_458 hS ⟨⟨by omega, by omega⟩, fun _ => ⟨fun z => absurd z (by decide), fun _ => ⟨fun lt => ?_, fun ge => ⟨⟨by omega, by omega⟩, no (fun zz => ge zz.1)⟩⟩⟩, fun z => absurd (show r < g_bf O 0 k + (O 0 k - g_bf O 0 k) by omega) z⟩
          obtain ⟨r1', r2', r3', r4'⟩ := k_row hA hr (Int.le_refl _) (q := r) ⟨by omega, lt⟩
          refine ⟨⟨by omega, by omega⟩, ⟨by omega, by omega⟩, ⟨by omega, by omega⟩, ⟨by omega, by omega⟩, ⟨by omega, by omega⟩, ⟨by omega, by omega⟩, ?_⟩
          rw [k_a16383, k_a16383, k_a15]
          refine ⟨fun e1 => ⟨⟨by omega, by omega⟩, ⟨by omega, by omega⟩, ⟨by omega, by omega⟩, ⟨by omega, by omega⟩, ⟨by omega, by omega⟩, ⟨by omega, by omega⟩, L206s hS ?_⟩, fun e1 => ⟨⟨by omega, by omega⟩, no (fun zz => e1 ((sr r (by omega)).mpr zz).2.1)⟩⟩
          rw [k_a15]
          refine ⟨⟨by omega, by omega⟩, ⟨by omega, by omega⟩, ⟨by omega, by omega⟩, ⟨by omega, by omega⟩, ⟨by omega, by omega⟩, ⟨by omega, by omega⟩, fun g2 hg2 => ⟨⟨by omega, by omega⟩, ?_⟩⟩
          by_cases e2 : M1 65 0 (6 * c + M1 71 0 (20 * c + r) % 16) / 256 % 256 = M1 82 0 (6 * c + M1 71 0 (20 * c + r) % 16)
          · rw [if_pos e2] at hg2
            rw [hg2]
            refine ihr (fun q q0 q1 => ?_) (by omega)
            by_cases eq : q = r
            · rw [eq]; exact (sr r (by omega)).mp ⟨lt, e1, e2⟩
            · exact hrows q q0 (by omega)
          · rw [if_neg e2] at hg2
            rw [hg2]
            exact no (fun zz => e2 ((sr r (by omega)).mpr zz).2.2)
      · have hg0 : g = 0 := by
          rw [hg]
          by_cases h1 : O 0 k - g_bf O 0 k ≤ 0
          · rw [if_pos h1]
          · have hkw2 : k < wo := Classical.byContradiction fun z => by have := o6 k (by omega) hkc; omega
            have hk1 : k = wo - 1 := by omega
            have := o8 (by omega)
            rw [← hk1] at this
            rw [if_neg h1, if_neg (by omega)]
        rw [hg0]
        exact end0 (Or.inl (by omega)) _ u4 u9 (fun r' _ => by
          have a := ok.2.2.1
          have b := ok.2.2.2.1
          by_cases z : r' < O 0 k
          · exact Or.inl ⟨by omega, by omega⟩
          · exact Or.inr z)
    · have done := H M1 Q k y1 hQ hso v16 pgs (Or.inl ⟨on, ⟨k0, k1⟩, hkp, Or.inl (by omega)⟩) hlt
      have hkc : k = co := by omega
      refine w205_371 hS ⟨fun z => absurd z (by decide), fun _ => ⟨fun le => ⟨⟨by omega, by rw [e33] at le; omega⟩, ?_⟩, fun _ => done _ _ _ _ _ _ _ _ _ _⟩⟩
      rw [k_a7, e81]
      refine ⟨fun z => absurd z ?_, fun _ => done _ _ _ _ _ _ _ _ _ _⟩
      rw [hkc]
      exact o5 (by rw [e33] at le; omega)
end
