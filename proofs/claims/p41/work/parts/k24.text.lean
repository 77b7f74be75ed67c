/-! ===== the law's texts and numbers ===== -/
/-- no label twice -/
def k_uq (B : pT) : Prop := ∀ y z, 0 ≤ y → y < 600 → 0 ≤ z → z < 600 → c_K B y = 1 → c_K B z = 1 → B 5 y = B 5 z → y = z
def k_here (B : pT) (R : c_R) (M : qM) : Prop := ∀ c, 0 ≤ c → c < 3 → k_cm (r_A B R c) (B 0 c) (r_W R c) c M
theorem k_lab_n {K V : Int → Int} {l : Int} : ∀ (n : Nat) (y : Int), 0 ≤ y → y < n → K y = 1 → V y = l → b_lab K V l n ≠ -1 := by
  intro n
  induction n with
  | zero => intro y a b; omega
  | succ n ih =>
    intro y a b k v
    have s := b_lab_s (K := K) (V := V) (l := l) (x := (n : Int)) (by omega)
    rw [show ((n + 1 : Nat) : Int) = (n : Int) + 1 by omega, s]
    by_cases q : K (n : Int) = 1 ∧ V (n : Int) = l
    · rw [if_pos q]; omega
    · rw [if_neg q]
      by_cases e : y = n
      · subst e; exact absurd ⟨k, v⟩ q
      · exact ih y a (by omega) k v
theorem k_lab_u {B : pT} (hu : k_uq B) {y : Int} (hy : 0 ≤ y ∧ y < 600) (h : c_K B y = 1) : b_lab (c_K B) (B 5) (B 5 y) 600 = y := by
  rcases b_lab_p (K := c_K B) (V := B 5) (l := B 5 y) 600 with z | ⟨z1, z2, z3, z4⟩
  · exact absurd z (k_lab_n 600 y hy.1 (by have := hy.2; omega) h rfl)
  · exact hu _ _ z1 z2 hy.1 hy.2 z3 h z4
section
variable {B : pT}
/-- a place is a word of an item -/
theorem k_place (hB : c_ok B) (hl : k_lim B) {y : Int} (hy : 0 ≤ y ∧ y < 600) (ht : c_there B y) : (0 ≤ 6 * (y / 200) + y / 20 % 10 ∧ 6 * (y / 200) + y / 20 % 10 < 18) ∧ k_x (6 * (y / 200) + y / 20 % 10) = y / 20 ∧ k_y (6 * (y / 200) + y / 20 % 10) (y % 20) = y ∧ (0 ≤ y % 20 ∧ y % 20 < B 3 (y / 20)) := by
  have l6 := (hl.1 (y / 200) (by omega) (by omega)).1
  have t1 := ht.1
  have kx : k_x (6 * (y / 200) + y / 20 % 10) = y / 20 := by unfold k_x; omega
  refine ⟨by omega, kx, ?_, by omega, ht.2⟩
  unfold k_y
  rw [kx]
  omega
theorem k_K0 {y : Int} (h : ¬ c_there B y) : c_K B y = 0 := if_neg h
theorem k_K (hB : c_ok B) (hB2 : c_ok2 B) {it w : Int} (h : 0 ≤ it ∧ it < 18) (hw : 0 ≤ w ∧ w < B 3 (k_x it)) : c_K B (k_y it w) = B 4 (k_y it w) := by
  have t := k_there hB2 h hw hB
  unfold c_K
  exact if_pos t.2.1
end
section
variable {d : Nat} {h : qH} {B Bo : pT} {W : Int → Int} {ob : Prop} {Ro R : c_R} {p0 : Int} {M : qM}
/-- the code of a word -/
theorem k_code (hB : c_ok B) (hB2 : c_ok2 B) (hbk : k_bk B M) {it w : Int} (h : 0 ≤ it ∧ it < 18) (hw : 0 ≤ w ∧ w < B 3 (k_x it)) : k_cd M it w / 16 % 8 = c_K B (k_y it w) ∧ k_cd M it w / 128 = B 5 (k_y it w) ∧ k_cd M it w % 16 = B 6 (k_y it w) := by
  have t := k_there hB2 h hw hB
  have cd := hbk.2.2.1 it w h.1 h.2 hw.1 hw.2
  have k4 := (hB.2.2.2.2.1 _ t.1.1 t.1.2 t.2.1).1
  have k5 := hB.2.2.2.1 (k_y it w)
  have k6 := hB.2.2.2.2.2.1 (k_y it w)
  rw [k_K hB hB2 h hw, cd]
  omega
theorem L210 {f : Int → qM → Prop} (hS : qSe h) (hB : c_ok B) (hB2 : c_ok2 B) (hl : k_lim B) (out : c_out B W ob Bo Ro p0 R) (hh : k_here B R M) {it w : Int} (h18 : 0 ≤ it ∧ it < 18) (hw : 0 ≤ w ∧ w < B 3 (k_x it)) (H : f (c_G B R (k_y it w)) M) : e210 (d + 3) h it w M f := by
  have t := k_there hB2 h18 hw hB
  obtain ⟨k, r, k1, k2, r1, r2, r3, k6⟩ := c_G_ex hB out t.1 t.2.1
  have x := k_x_p h18
  have e200 : k_y it w / 200 = it / 6 := by unfold k_y; omega
  have e10 : k_y it w / 20 % 10 = it % 6 := by rw [t.2.2.1]; exact x.2.2.1
  have e20 : k_y it w % 20 = w := t.2.2.2.1
  rw [e200] at k1 k2 r1 r2 r3 k6
  rw [e10] at r2
  rw [e20] at r3
  have hc : 0 ≤ it / 6 ∧ it / 6 < 3 := by omega
  have N0 : 0 < B 0 (it / 6) := by have := t.2.2.2.2; omega
  have cm := (hh (it / 6) hc.1 hc.2).2 N0
  have sz : k_sz (r_A B R (it / 6)) (B 0 (it / 6)) (it / 6) := (k_szA hB hl out.1 hc).1
  have mk := ((out.2 (it / 6) hc.1 hc.2).1.2 N0).2.2
  have s16 := sz.2.2.2.2
  have eG : M 71 0 (20 * (it / 6) + r) / 16384 = c_G B R (k_y it w) := by
    have := (cm.2.2.2.1 k k1.1 (by have := mk.1; omega)).2 r k2.1 k2.2
    rw [this, k6]; omega
  refine w210 hS ⟨h18.1, ⟨by omega, by omega⟩, w209 hS ⟨h18.1, ?_⟩⟩
  refine q_upto (P := fun q => ∀ u6 : qV, 0 ≤ q → b209_9 d h (fun v105 M106 => (qIn ((20 * (it / 6)) + v105) ∧ ((0 ≤ ((20 * (it / 6)) + v105) ∧ ((20 * (it / 6)) + v105) < 60) ∧ f ((M106 71 0 ((20 * (it / 6)) + v105)) / 16384) M106))) it w (it / 6) q u6 M) (a := 0) (b := r) r1.1 (fun u6 _ => ?_) (fun q q0 q1 ih u6 _ => ?_) _ (Int.le_refl _)
  · obtain ⟨c1, c2, c3, c4⟩ := k_row sz cm.2.1 (Int.le_refl _) (q := r) r1
    refine w209_9 hS ⟨⟨by omega, by omega⟩, ⟨by omega, by omega⟩, ?_⟩
    rw [cm.1]
    refine ⟨fun _ => ⟨⟨by omega, by omega⟩, ⟨by omega, by omega⟩, ⟨by omega, by omega⟩, h18.1, ?_⟩, fun z => absurd r1.2 z⟩
    rw [k_a15, c2, r2]
    refine ⟨fun _ => L195 hS ?_, fun z => absurd rfl z⟩
    rw [c3]
    refine ⟨fun _ => L196 hS ?_, fun z => absurd r3.1 z⟩
    rw [c4]
    refine ⟨fun _ => ⟨⟨by omega, by omega⟩, ⟨by omega, by omega⟩, ?_⟩, fun z => absurd r3.2 z⟩
    rw [eG]; exact H
  · obtain ⟨c1, c2, c3, c4⟩ := k_row sz cm.2.1 (Int.le_refl _) (q := q) ⟨q0, by omega⟩
    have nxt : ∀ u6, b209_9 d h _ it w (it / 6) (q + 1) u6 M := fun u6 => ih u6 (by omega)
    refine w209_9 hS ⟨⟨by omega, by omega⟩, ⟨by omega, by omega⟩, ?_⟩
    rw [cm.1]
    refine ⟨fun _ => ⟨⟨by omega, by omega⟩, ⟨by omega, by omega⟩, ⟨by omega, by omega⟩, h18.1, ?_⟩, fun z => absurd (show q < p_SR (r_A B R (it / 6)) (B 0 (it / 6)) by omega) z⟩
    rw [k_a15, c2]
    refine ⟨fun e => L195 hS ?_, fun _ => ⟨⟨by omega, by omega⟩, nxt _⟩⟩
    rw [c3]
    refine ⟨fun le => L196 hS ?_, fun _ => ⟨⟨by omega, by omega⟩, nxt _⟩⟩
    rw [c4]
    refine ⟨fun lt => ?_, fun _ => ⟨⟨by omega, by omega⟩, nxt _⟩⟩
    exfalso
    have a := c_row_at sz.2.2.2.1.1 r1 r3
    have b := c_row_at sz.2.2.2.1.1 (r := q) ⟨q0, by omega⟩ ⟨le, lt⟩
    rw [r2] at a
    rw [e] at b
    omega
/-- the text of a reference -/
theorem L211 {f : Int → qM → Prop} (hS : qSe h) (hB : c_ok B) (hB2 : c_ok2 B) (hl : k_lim B) (huq : k_uq B) (hbk : k_bk B M) (hp : 0 ≤ p0 ∧ p0 ≤ 100) (out : c_out B W ob Bo Ro p0 R) (hh : k_here B R M) {it w : Int} (h18 : 0 ≤ it ∧ it < 18) (hw : 0 ≤ w ∧ w < B 3 (k_x it)) (H : f (b_text (c_K B) (B 5) (c_G B R) (k_y it w)) M) : e211 (d + 4) h it w M f := by
  have cd := k_code hB hB2 hbk h18 hw
  have t := k_there hB2 h18 hw hB
  have n15 := hl.2.1 (k_x it) (k_x_p h18).1.1 (k_x_p h18).1.2
  refine w211 hS (L187 hS h18 ⟨hw.1, by omega⟩ ?_)
  rw [cd.2.1]
  -- item by item
  refine q_upto (P := fun o => ∀ u8 u9 u10 u11 : qV, 0 ≤ o → (∀ o' i', 0 ≤ o' → o' < o → 0 ≤ i' → i' < B 3 (k_x o') → ¬ (c_K B (k_y o' i') = 1 ∧ B 5 (k_y o' i') = B 5 (k_y it w))) → b211_16 d h f it w (B 5 (k_y it w)) o u8 u9 u10 u11 M) (a := 0) (b := 18) (by decide) (fun u8 u9 u10 u11 _ none => ?_) (fun o o0 o1 ih u8 u9 u10 u11 _ none => ?_) _ _ _ _ (Int.le_refl _) (fun o' i' a b => by omega)
  · refine w211_16 hS ⟨fun z => absurd z (by decide), fun _ => ?_⟩
    have e : b_lab (c_K B) (B 5) (B 5 (k_y it w)) 600 = -1 := by
      rcases b_lab_p (K := c_K B) (V := B 5) (l := B 5 (k_y it w)) 600 with z | ⟨z1, z2, z3, z4⟩
      · exact z
      · exfalso
        have th : c_there B (b_lab (c_K B) (B 5) (B 5 (k_y it w)) 600) := Classical.byContradiction fun q => by
          have z3' : c_K B (b_lab (c_K B) (B 5) (B 5 (k_y it w)) 600) = 1 := z3
          rw [k_K0 q] at z3'
          omega
        have pl := k_place hB hl ⟨z1, by omega⟩ th
        have := none _ _ pl.1.1 pl.1.2 pl.2.2.2.1 (by rw [pl.2.1]; exact pl.2.2.2.2)
        rw [pl.2.2.1] at this
        exact this ⟨z3, z4⟩
    unfold b_text at H
    rw [if_pos e] at H
    exact H
  · refine w211_16 hS ⟨fun _ => ?_, fun z => absurd o1 z⟩
    have bt := hbk.2.1 o o0 o1
    have no15 := hl.2.1 (k_x o) (k_x_p ⟨o0, o1⟩).1.1 (k_x_p ⟨o0, o1⟩).1.2
    have n0 := (hB.2.1 (k_x o)).1
    refine q_upto (P := fun i => ∀ u9 u10 u11 : qV, 0 ≤ i → (∀ i', 0 ≤ i' → i' < i → ¬ (c_K B (k_y o i') = 1 ∧ B 5 (k_y o i') = B 5 (k_y it w))) → b211_26 d h f it w (B 5 (k_y it w)) o i u9 u10 u11 M) (a := 0) (b := B 3 (k_x o)) n0 (fun u9 u10 u11 _ noi => ?_) (fun i i0 i1 ihi u9 u10 u11 _ noi => ?_) _ _ _ (Int.le_refl _) (fun i' a b => by omega)
    · refine w211_26 hS (L189 hS ⟨o0, o1⟩ ?_)
      rw [bt.2.1]
      refine ⟨fun z => absurd z (Int.lt_irrefl _), fun _ => ⟨⟨by omega, by omega⟩, ih _ _ _ _ (by omega) (fun o' i' a b e g => ?_)⟩⟩
      by_cases z : o' = o
      · subst z; exact noi i' e g
      · exact none o' i' a (by omega) e g
    · have ci := k_code hB hB2 hbk ⟨o0, o1⟩ (w := i) ⟨i0, i1⟩
      have nx : ¬ (c_K B (k_y o i) = 1 ∧ B 5 (k_y o i) = B 5 (k_y it w)) → ∀ u9 u10 u11, b211_26 d h f it w (B 5 (k_y it w)) o (i + 1) u9 u10 u11 M := fun no u9 u10 u11 => ihi _ _ _ (by omega) (fun i' a b => by
        by_cases z : i' = i
        · subst z; exact no
        · exact noi i' a (by omega))
      refine w211_26 hS (L189 hS ⟨o0, o1⟩ ?_)
      rw [bt.2.1]
      refine ⟨fun _ => L187 hS ⟨o0, o1⟩ ⟨i0, by omega⟩ (L188 hS ?_), fun z => absurd i1 z⟩
      rw [ci.1, ci.2.1]
      refine ⟨fun k1 => ⟨fun v1 => ?_, fun v1 => ⟨⟨by omega, by omega⟩, nx (fun z => v1 z.2) _ _ _⟩⟩, fun k1 => ⟨⟨by omega, by omega⟩, nx (fun z => k1 z.1) _ _ _⟩⟩
      have to := k_there hB2 ⟨o0, o1⟩ (w := i) ⟨i0, i1⟩ hB
      have g1 := c_G_b hB hp out t.1 t.2.1
      have g2 := c_G_b hB hp out to.1 to.2.1
      have lab : b_lab (c_K B) (B 5) (B 5 (k_y it w)) 600 = k_y o i := by rw [← v1]; exact k_lab_u huq to.1 k1
      refine L210 hS hB hB2 hl out hh h18 hw (L210 hS hB hB2 hl out hh ⟨o0, o1⟩ ⟨i0, i1⟩ ⟨fun _ => ⟨by omega, fun _ => ⟨⟨by omega, by omega⟩, fun _ => ⟨by omega, by omega⟩⟩, fun _ => ⟨by omega, by omega⟩⟩, fun x hx => ?_⟩)
      have e : x = b_text (c_K B) (B 5) (c_G B R) (k_y it w) := by
        unfold b_text
        rw [if_neg (by rw [lab]; omega), lab, hx]
        unfold b_tf
        by_cases q : c_G B R (k_y it w) = c_G B R (k_y o i)
        · rw [if_pos q, if_pos q]
        · rw [if_neg q, if_neg q]
          by_cases q1 : c_G B R (k_y it w) % 2 = 1
          · rw [if_pos q1]
            by_cases q2 : c_G B R (k_y o i) = c_G B R (k_y it w) + 1
            · rw [if_pos q2, if_pos ⟨q2, q1⟩]
            · rw [if_neg q2, if_neg (fun z => q2 z.1)]; omega
          · rw [if_neg q1, if_neg (fun z => q1 z.2)]; omega
      rw [e]; exact H
/-- the number of a note -/
theorem L212 {f : Int → qM → Prop} {G : Int → Int} {bp : Int} (hS : qSe h) (hB : c_ok B) (hB2 : c_ok2 B) (hl : k_lim B) (hbk : k_bk B M) (hG : bp ≠ 0 → ∀ it w, 0 ≤ it → it < 18 → 0 ≤ w → w < B 3 (k_x it) → ∀ F : Int → qM → Prop, F (G (k_y it w)) M → e210 (d + 3) h it w M F) {it w : Int} (h18 : 0 ≤ it ∧ it < 18) (hw : 0 ≤ w ∧ w < B 3 (k_x it)) (hk : c_K B (k_y it w) = 2) (H : f (b_num (c_K B) G bp (k_y it w)) M) : e212 (d + 4) h it w bp M f := by
  have x := k_x_p h18
  have e200 : k_y it w / 200 = it / 6 := by
    have := hl.2.1 (k_x it) x.1.1 x.1.2
    unfold k_y; omega
  have nb : ∀ y, 0 ≤ b_nt (c_K B) G bp (G (k_y it w)) y ∧ b_nt (c_K B) G bp (G (k_y it w)) y ≤ 1 := fun y => b_nt_b
  -- how many up to a word
  have cnt : ∀ y, 200 * (it / 6) ≤ y → y ≤ 600 → 0 ≤ p_sum (b_nt (c_K B) G bp (G (k_y it w))) y - p_sum (b_nt (c_K B) G bp (G (k_y it w))) (200 * (it / 6)) ∧ p_sum (b_nt (c_K B) G bp (G (k_y it w))) y - p_sum (b_nt (c_K B) G bp (G (k_y it w))) (200 * (it / 6)) ≤ 600 := fun y a b => by
    have := b_sum_le (g := b_nt (c_K B) G bp (G (k_y it w))) (a := 200 * (it / 6)) (b := y) nb (by omega) a
    omega
  have fin : ∀ n u10, n = p_sum (b_nt (c_K B) G bp (G (k_y it w))) (k_y it w + 1) - p_sum (b_nt (c_K B) G bp (G (k_y it w))) (200 * (it / 6)) → ∀ pg, b212_33 d h f it w bp n pg (it + 1) u10 M := fun n u10 hn pg => by
    refine w212_33 hS ⟨fun z => absurd z (by omega), fun _ => ?_⟩
    have s := p_sum_s (g := b_nt (c_K B) G bp (G (k_y it w))) (x := k_y it w) (by unfold k_y; omega)
    have own : b_nt (c_K B) G bp (G (k_y it w)) (k_y it w) = 1 := by unfold b_nt; rw [if_pos ⟨hk, Or.inr rfl⟩]
    have e : n = b_num (c_K B) G bp (k_y it w) := by
      unfold b_num
      rw [e200, hn, s, own, show it / 6 * 200 = 200 * (it / 6) by omega]
      omega
    rw [e]; exact H
  have loop : ∀ (pg : Int), (bp ≠ 0 → pg = G (k_y it w)) → ∀ (t : Nat) (o n : Int) (u10 : qV), it - o < t → (6 * (it / 6) ≤ o ∧ o ≤ it) → n = p_sum (b_nt (c_K B) G bp (G (k_y it w))) (k_y o 0) - p_sum (b_nt (c_K B) G bp (G (k_y it w))) (200 * (it / 6)) → b212_33 d h f it w bp n pg o u10 M := by
    intro pg hpg t
    induction t with
    | zero => intro o n u10 ht ho; omega
    | succ t ih =>
      intro o n u10 ht ho hn
      have o18 : 0 ≤ o ∧ o < 18 := ⟨by omega, by omega⟩
      have xo := k_x_p o18
      have bt := hbk.2.1 o o18.1 o18.2
      have no15 := hl.2.1 (k_x o) xo.1.1 xo.1.2
      have n0 := (hB.2.1 (k_x o)).1
      refine w212_33 hS ⟨fun _ => ?_, fun z => absurd ho.2 z⟩
      -- word by word
      refine q_upto (P := fun i => ∀ n : Int, 0 ≤ i → (o = it → i ≤ w + 1) → n = p_sum (b_nt (c_K B) G bp (G (k_y it w))) (k_y o i) - p_sum (b_nt (c_K B) G bp (G (k_y it w))) (200 * (it / 6)) → b212_43 d h f it w bp n pg o i M) (a := 0) (b := B 3 (k_x o)) n0 (fun n _ hi hn => ?_) (fun i i0 i1 ihi n _ hi hn => ?_) n (Int.le_refl _) (fun _ => by omega) hn
      · refine w212_43 hS (L189 hS o18 ?_)
        rw [bt.2.1]
        refine ⟨fun z => absurd z (Int.lt_irrefl _), fun _ => ⟨⟨by omega, by omega⟩, ?_⟩⟩
        by_cases e : o = it
        · have ew : B 3 (k_x o) = w + 1 := by
            have := hi e
            rw [e] at this ⊢
            omega
          rw [e]
          refine fin n _ ?_ pg
          rw [hn, ew, e, show k_y it (w + 1) = k_y it w + 1 by unfold k_y; omega]
        · have k1 : k_y (o + 1) 0 = 20 * k_x o + 20 := by unfold k_y k_x; omega
          refine ih (o + 1) n _ (by omega) ⟨by omega, by omega⟩ ?_
          rw [hn, k1]
          have g := b_gap (g := b_nt (c_K B) G bp (G (k_y it w))) (a := k_y o (B 3 (k_x o))) (b := 20 * k_x o + 20) (by unfold k_y; omega) (by unfold k_y; omega) (fun y y0 y1 => by
            unfold b_nt c_K
            have ht : ¬ (y / 20 % 10 < B 0 (y / 200) ∧ y % 20 < B 3 (y / 20)) := fun z => by
              unfold k_y at y0
              have e1 : y / 20 = k_x o := by omega
              rw [e1] at z
              omega
            rw [if_neg ht, if_neg (fun z => by omega)])
          rw [g]
      · have ci := k_code hB hB2 hbk o18 (w := i) ⟨i0, i1⟩
        have to := k_there hB2 o18 (w := i) ⟨i0, i1⟩ hB
        have s := p_sum_s (g := b_nt (c_K B) G bp (G (k_y it w))) (x := k_y o i) to.1.1
        have c0 := cnt (k_y o i) (by unfold k_y; omega) (by omega)
        have ey : k_y o (i + 1) = k_y o i + 1 := by unfold k_y; omega
        have nb1 := nb (k_y o i)
        have step : ∀ n', n' = n + b_nt (c_K B) G bp (G (k_y it w)) (k_y o i) → (o = it → i ≤ w) → b212_43 d h f it w bp n' pg o (i + 1) M := fun n' hn' le => ihi n' (by omega) (fun z => by have := le z; omega) (by rw [ey, s, hn', hn]; omega)
        have body : (o = it → i ≤ w) → b212_71 d h f it w bp n pg o i M := fun le => by
          refine w212_71 hS (L187 hS o18 ⟨i0, by omega⟩ (L188 hS ?_))
          rw [ci.1]
          refine ⟨fun k2 => ⟨fun b0 => ⟨⟨by omega, by omega⟩, ⟨by omega, by omega⟩, step _ ?_ le⟩, fun b1 => hG b1 o i o18.1 o18.2 i0 i1 _ ⟨fun _ => ⟨by omega, by omega⟩, fun y hy => ⟨⟨by omega, by omega⟩, step y ?_ le⟩⟩⟩, fun k2 => ⟨⟨by omega, by omega⟩, step n ?_ le⟩⟩
          · unfold b_nt; rw [if_pos ⟨k2, Or.inl b0⟩]
          · rw [hy, hpg b1]
            unfold b_nt
            by_cases q : G (k_y o i) = G (k_y it w)
            · rw [if_pos q, if_pos ⟨k2, Or.inr q⟩]
            · rw [if_neg q, if_neg (fun z => by rcases z.2 with z | z; exact b1 z; exact q z)]; omega
          · unfold b_nt; rw [if_neg (fun z => k2 z.1)]; omega
        refine w212_43 hS (L189 hS o18 ?_)
        rw [bt.2.1]
        refine ⟨fun _ => ⟨fun e => ⟨fun le => body (fun _ => le), fun gt => ⟨⟨by omega, by omega⟩, ?_⟩⟩, fun ne => body (fun z => absurd z ne)⟩, fun z => absurd i1 z⟩
        have ew : i = w + 1 := by have := hi e; omega
        rw [e]
        refine fin n _ ?_ pg
        rw [hn, e, ew, show k_y it (w + 1) = k_y it w + 1 by unfold k_y; omega]
  have z0 : k_y (6 * (it / 6)) 0 = 200 * (it / 6) := by unfold k_y k_x; omega
  refine w212 hS ⟨fun b0 => ⟨h18.1, ⟨by omega, by omega⟩, ?_⟩, fun b1 => hG b1 it w h18.1 h18.2 hw.1 hw.2 _ ⟨h18.1, ⟨by omega, by omega⟩, ?_⟩⟩
  · rw [show it / 6 * 6 = 6 * (it / 6) by omega]
    exact loop 0 (fun z => absurd b0 z) 7 _ 0 _ (by omega) ⟨Int.le_refl _, by omega⟩ (by rw [z0]; omega)
  · rw [show it / 6 * 6 = 6 * (it / 6) by omega]
    exact loop _ (fun _ => rfl) 7 _ 0 _ (by omega) ⟨Int.le_refl _, by omega⟩ (by rw [z0]; omega)
end
