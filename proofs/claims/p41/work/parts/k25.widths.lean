/-! ===== the law's widths; by wip/p41/gen/mk25.py ===== -/
theorem k_O_m {B : pT} (hB : c_ok B) {a b : Int} (ha : 0 ≤ a) (hab : a < b) : k_O B a + B 3 (k_x a) ≤ k_O B b := p_sum_lt (g := fun i => B 3 (k_x i)) (fun x _ _ => (hB.2.1 _).1) ha hab
section
variable {d : Nat} {h : qH} {B Bo : pT} {W : Int → Int} {ob : Prop} {Ro R : c_R} {p0 : Int} {M : qM}
theorem k_here_fr {M' : qM} (hB : c_ok B) (hl : k_lim B) (out : c_out B W ob Bo Ro p0 R) (hh : k_here B R M) (f : ∀ (k : Nat) (s : Int), (71 ≤ k ∧ k ≤ 76) → M' k 0 s = M k 0 s) : k_here B R M' := fun c c0 c3 => k_cm_fr ⟨c0, c3⟩ (fun q => by
  have s := (k_szA hB hl out.1 ⟨c0, c3⟩).1
  exact ⟨s.2.2.2.1, s.2.2.2.2, B 8 1, ((out.2 c c0 c3).1.2 q).2.2⟩) (hh c c0 c3) (fun s _ _ => f _ _ (by omega)) (fun s _ _ => f _ _ (by omega)) (fun s _ _ => f _ _ (by omega)) (fun s _ => f _ _ (by omega)) (fun k p _ hk _ _ => f _ _ (by omega))
/-- what stands for a word: a text, a number -/
noncomputable def k_told (B : pT) (R : c_R) (y : Int) : Int := if c_K B y = 6 then b_text (c_K B) (B 5) (c_G B R) y else if c_K B y = 2 then b_num (c_K B) (c_G B R) (B 8 2) y else 0
theorem k_byp (hB : c_ok B) (hbk : k_bk B M) {x : Int} (hx : x = if M 76 0 3 = 1 then 1 else 0) : x = B 8 2 := by
  have := hB.2.2.2.2.2.2.2.2
  rw [hbk.2.2.2.2.2] at hx
  rw [hx]
  rcases this with z | z
  · rw [if_neg (by omega)]; omega
  · rw [if_pos z]; omega
theorem L213 {f : Int → qM → Prop} (hS : qSe h) (hB : c_ok B) (hB2 : c_ok2 B) (hl : k_lim B) (huq : k_uq B) (hbk : k_bk B M) (hp : 0 ≤ p0 ∧ p0 ≤ 100) (out : c_out B W ob Bo Ro p0 R) (hh : k_here B R M) {it w : Int} (h18 : 0 ≤ it ∧ it < 18) (hw : 0 ≤ w ∧ w < B 3 (k_x it)) (H : f (k_told B R (k_y it w)) M) : e213 (d + 5) h it w M f := by
  have cd := k_code hB hB2 hbk h18 hw
  have n15 := hl.2.1 (k_x it) (k_x_p h18).1.1 (k_x_p h18).1.2
  refine w213 hS (L187 hS h18 ⟨hw.1, by omega⟩ (L188 hS ?_))
  rw [cd.1]
  unfold k_told at H
  refine ⟨fun k6 => ?_, fun k6 => ⟨fun k2 x hx => ?_, fun k2 => ?_⟩⟩
  · rw [if_pos k6] at H
    exact L211 hS hB hB2 hl huq hbk hp out hh h18 hw H
  · rw [if_neg k6, if_pos k2] at H
    rw [k_byp hB hbk hx]
    exact L212 hS hB hB2 hl hbk (fun _ it w a b e g F HF => L210 hS hB hB2 hl out hh ⟨a, b⟩ ⟨e, g⟩ HF) h18 hw k2 H
  · rw [if_neg k6, if_neg k2] at H
    exact H
theorem k_text_b (hB : c_ok B) (hp : 0 ≤ p0 ∧ p0 ≤ 100) (out : c_out B W ob Bo Ro p0 R) {y : Int} (hy : 0 ≤ y ∧ y < 600) (ht : c_there B y) : 0 ≤ b_text (c_K B) (B 5) (c_G B R) y ∧ b_text (c_K B) (B 5) (c_G B R) y ≤ 400 := by
  unfold b_text
  by_cases z : b_lab (c_K B) (B 5) (B 5 y) 600 = -1
  · rw [if_pos z]; omega
  · rw [if_neg z]
    rcases b_lab_p (K := c_K B) (V := B 5) (l := B 5 y) 600 with q | ⟨z1, z2, z3, z4⟩
    · exact absurd q z
    · have th : c_there B (b_lab (c_K B) (B 5) (B 5 y) 600) := Classical.byContradiction fun q => by
        have z3' : c_K B (b_lab (c_K B) (B 5) (B 5 y) 600) = 1 := z3
        rw [k_K0 q] at z3'
        omega
      have g := c_G_b hB hp out ⟨z1, by omega⟩ th
      have g' : 1 ≤ c_G B R (b_lab (c_K B) (B 5) (B 5 y) 600) ∧ c_G B R (b_lab (c_K B) (B 5) (B 5 y) 600) ≤ 369 := g
      unfold b_tf
      split
      · omega
      · split <;> omega
theorem L214 {F : qM → Prop} (hS : qSe h) (hB : c_ok B) (hB2 : c_ok2 B) (hl : k_lim B) (hbk : k_bk B M) (ho : k_off B M) (huq : k_uq B) (hp : 0 ≤ p0 ∧ p0 ≤ 100) (out : c_out B W ob Bo Ro p0 R) (hh : k_here B R M)
    (H : ∀ M', (∀ (k : Nat) (o s : Int), ¬ (k = 69 ∧ o = 0) → M' k o s = M k o s) → k_e 69 B (c_W1 B R) M' → F M') : e214 (d + 5) h 0 M F := by
  -- what is written so far
  have wr : ∀ (it w x : Int) (M1 M2 : qM), (0 ≤ it ∧ it < 18) → (0 ≤ w ∧ w < B 3 (k_x it)) → x = c_W1 B R (k_y it w) → M2 = qU M1 69 0 (k_O B it + w) x → (∀ i v, 0 ≤ i → i < 18 → 0 ≤ v → v < B 3 (k_x i) → (i < it ∨ (i = it ∧ v < w)) → M1 69 0 (k_O B i + v) = c_W1 B R (k_y i v)) → ∀ i v, 0 ≤ i → i < 18 → 0 ≤ v → v < B 3 (k_x i) → (i < it ∨ (i = it ∧ v < w + 1)) → M2 69 0 (k_O B i + v) = c_W1 B R (k_y i v) := by
    intro it w x M1 M2 h18 hw hx e2 old i v a b e g lt
    rw [e2]
    by_cases z : i = it ∧ v = w
    · rw [z.1, z.2, qU_s, hx]
    · have lt2 : i < it ∨ (i = it ∧ v < w) := by omega
      rw [qU_l ?_]
      · exact old i v a b e g lt2
      · rcases lt2 with l | l
        · have := k_O_m hB a l
          omega
        · rw [l.1]; omega
  refine w214 hS ?_
  refine q_upto (P := fun it => ∀ (M1 : qM) (u8 u9 u10 u11 : qV), 0 ≤ it → (∀ (k : Nat) (o s : Int), ¬ (k = 69 ∧ o = 0) → M1 k o s = M k o s) → (∀ i v, 0 ≤ i → i < 18 → 0 ≤ v → v < B 3 (k_x i) → (i < it ∨ (i = it ∧ v < 0)) → M1 69 0 (k_O B i + v) = c_W1 B R (k_y i v)) → b214_3 d h F 0 it u8 u9 u10 u11 M1) (a := 0) (b := 18) (by decide) (fun M1 u8 u9 u10 u11 _ O1 old => ?_) (fun it i0 i1 ih M1 u8 u9 u10 u11 _ O1 old => ?_) M _ _ _ _ (Int.le_refl _) (fun _ _ _ _ => rfl) (fun i v a b e g lt => by omega)
  · exact w214_3 hS ⟨fun z => absurd z (by decide), fun _ => H M1 O1 (fun i v a b e g => old i v a b e g (Or.inl b))⟩
  · refine w214_3 hS ⟨fun _ => ?_, fun z => absurd i1 z⟩
    have h18 : 0 ≤ it ∧ it < 18 := ⟨i0, i1⟩
    have x := k_x_p h18
    have n0 := (hB.2.1 (k_x it)).1
    have n15 := hl.2.1 (k_x it) x.1.1 x.1.2
    refine q_upto (P := fun w => ∀ (M1 : qM) (u9 u10 u11 : qV), 0 ≤ w → (∀ (k : Nat) (o s : Int), ¬ (k = 69 ∧ o = 0) → M1 k o s = M k o s) → (∀ i v, 0 ≤ i → i < 18 → 0 ≤ v → v < B 3 (k_x i) → (i < it ∨ (i = it ∧ v < w)) → M1 69 0 (k_O B i + v) = c_W1 B R (k_y i v)) → b214_13 d h F 0 it w u9 u10 u11 M1) (a := 0) (b := B 3 (k_x it)) n0 (fun M1 u9 u10 u11 _ O1 old => ?_) (fun w w0 w1 ihw M1 u9 u10 u11 _ O1 old => ?_) M1 _ _ _ (Int.le_refl _) O1 old
    · have bk1 : k_bk B M1 := k_bk_fr hbk (fun s => O1 _ _ _ (by omega)) (fun i a b => by rw [O1 _ _ _ (by omega)]; exact ⟨rfl, (hbk.2.1 i a b).1⟩) (fun s => O1 _ _ _ (by omega)) (O1 _ _ _ (by omega)) (O1 _ _ _ (by omega)) (O1 _ _ _ (by omega))
      refine w214_13 hS (L189 hS h18 ?_)
      rw [(bk1.2.1 it i0 i1).2.1]
      refine ⟨fun z => absurd z (Int.lt_irrefl _), fun _ => ⟨⟨by omega, by omega⟩, ih M1 _ _ _ _ (by omega) O1 (fun i v a b e g lt => old i v a b e g ?_)⟩⟩
      by_cases z : i = it
      · right; rw [z] at g; exact ⟨z, g⟩
      · left; omega
    · have bk1 : k_bk B M1 := k_bk_fr hbk (fun s => O1 _ _ _ (by omega)) (fun i a b => by rw [O1 _ _ _ (by omega)]; exact ⟨rfl, (hbk.2.1 i a b).1⟩) (fun s => O1 _ _ _ (by omega)) (O1 _ _ _ (by omega)) (O1 _ _ _ (by omega)) (O1 _ _ _ (by omega))
      have here1 : k_here B R M1 := k_here_fr hB hl out hh (fun k s q => O1 _ _ _ (by omega))
      have cd := k_code hB hB2 bk1 h18 (w := w) ⟨w0, w1⟩
      have th := k_there hB2 h18 (w := w) ⟨w0, w1⟩ hB
      have o := ho it i0 (by omega)
      have ob := k_O_b hB hB2 hl (it + 1) (by omega) (by omega)
      have ob0 := k_O_b hB hB2 hl it (by omega) (by omega)
      have os := k_O_s (B := B) i0
      have e67 : ∀ N : qM, N = M1 → N 67 0 it = k_O B it := fun N e => by rw [e, O1 _ _ _ (by omega)]; exact o
      have fin : ∀ (v : Int) (M2 : qM) (u9 u10 u11 : qV), v = c_W1 B R (k_y it w) → M2 = qU M1 69 0 (k_O B it + w) v → b214_13 d h F 0 it (w + 1) u9 u10 u11 M2 := fun v M2 u9 u10 u11 hv e2 => ihw M2 _ _ _ (by omega) (fun k oo s z => by rw [e2]; unfold qU; rw [if_neg (fun y => z ⟨y.1, y.2.1⟩)]; exact O1 k oo s z) (wr it w v M1 M2 h18 ⟨w0, w1⟩ hv e2 old)
      have num : c_K B (k_y it w) = 2 → ∀ (u9 u10 u11 : qV), b214_135 d h F 0 it w u9 u10 u11 M1 := fun k2 u9 u10 u11 => by
        refine w214_135 hS (fun x hx => ?_)
        rw [k_byp hB bk1 hx]
        refine L212 hS hB hB2 hl bk1 (fun _ i v a b e g F HF => L210 hS hB hB2 hl out here1 ⟨a, b⟩ ⟨e, g⟩ HF) h18 ⟨w0, w1⟩ k2 (L191 hS ?_)
        rw [e67 M1 rfl]
        refine ⟨⟨by omega, by omega⟩, ⟨by omega, by omega⟩, ⟨by omega, by omega⟩, fun M2 f2 => ⟨⟨by omega, by omega⟩, fin _ M2 _ _ _ ?_ f2⟩⟩
        unfold c_W1 b_w1; rw [if_neg (by omega), if_pos k2]
      have put : ∀ (v : Int) (u : qV), c_K B (k_y it w) ≠ 2 → v = c_W1 B R (k_y it w) → b214_112 d h F 0 it w (c_K B (k_y it w)) v u M1 := fun v u k2 hv => by
        refine w214_112 hS ⟨fun z => absurd z k2, fun _ => ?_⟩
        rw [e67 M1 rfl]
        exact ⟨⟨by omega, by omega⟩, ⟨by omega, by omega⟩, ⟨by omega, by omega⟩, fun M2 f2 => ⟨⟨by omega, by omega⟩, fin v M2 _ _ _ hv f2⟩⟩
      refine w214_13 hS (L189 hS h18 ?_)
      rw [(bk1.2.1 it i0 i1).2.1]
      refine ⟨fun _ => L187 hS h18 ⟨w0, by omega⟩ (L188 hS ?_), fun z => absurd w1 z⟩
      rw [cd.1]
      refine ⟨fun k6 => ⟨fun _ => ?_, fun z => absurd rfl z⟩, fun k6 => ?_⟩
      · have w6 : c_W1 B R (k_y it w) = b_tw (b_text (c_K B) (B 5) (c_G B R) (k_y it w)) := by unfold c_W1 b_w1; rw [if_pos k6]
        have tb := k_text_b hB hp out th.1 th.2.1
        refine L211 hS hB hB2 hl huq bk1 hp out here1 h18 ⟨w0, w1⟩ ⟨fun t0 => put 2 _ (by omega) (by rw [w6, t0]; rfl), fun t0 => ⟨fun t1 => put 5 _ (by omega) (by rw [w6, t1]; rfl), fun t1 => ⟨fun t2 => put 8 _ (by omega) (by rw [w6, t2]; rfl), fun t2 => ⟨⟨by omega, by omega⟩, L191 hS ?_⟩⟩⟩⟩
        have dg : 1 ≤ b_dg (b_text (c_K B) (B 5) (c_G B R) (k_y it w) - 10) ∧ b_dg (b_text (c_K B) (B 5) (c_G B R) (k_y it w) - 10) ≤ 3 := by unfold b_dg; split <;> omega
        exact ⟨⟨by omega, by omega⟩, put _ _ (by omega) (by rw [w6]; unfold b_tw; rw [if_neg t0, if_neg t1, if_neg t2])⟩
      · by_cases k2 : c_K B (k_y it w) = 2
        · exact w214_112 hS ⟨fun _ => ⟨fun _ => num k2 _ _ _, fun z => absurd rfl z⟩, fun z => absurd k2 z⟩
        · exact put 0 _ k2 (by unfold c_W1 b_w1; rw [if_neg k6, if_neg k2])
theorem L214v1 {F : qM → Prop} (hS : qSe h) (hB : c_ok B) (hB2 : c_ok2 B) (hl : k_lim B) (hbk : k_bk B M) (ho : k_off B M)
    (H : ∀ M', (∀ (k : Nat) (o s : Int), ¬ (k = 68 ∧ o = 0) → M' k o s = M k o s) → k_e 68 B (c_W0 B) M' → F M') : e214v1 (d + 5) h 1 M F := by
  -- what is written so far
  have wr : ∀ (it w x : Int) (M1 M2 : qM), (0 ≤ it ∧ it < 18) → (0 ≤ w ∧ w < B 3 (k_x it)) → x = c_W0 B (k_y it w) → M2 = qU M1 68 0 (k_O B it + w) x → (∀ i v, 0 ≤ i → i < 18 → 0 ≤ v → v < B 3 (k_x i) → (i < it ∨ (i = it ∧ v < w)) → M1 68 0 (k_O B i + v) = c_W0 B (k_y i v)) → ∀ i v, 0 ≤ i → i < 18 → 0 ≤ v → v < B 3 (k_x i) → (i < it ∨ (i = it ∧ v < w + 1)) → M2 68 0 (k_O B i + v) = c_W0 B (k_y i v) := by
    intro it w x M1 M2 h18 hw hx e2 old i v a b e g lt
    rw [e2]
    by_cases z : i = it ∧ v = w
    · rw [z.1, z.2, qU_s, hx]
    · have lt2 : i < it ∨ (i = it ∧ v < w) := by omega
      rw [qU_l ?_]
      · exact old i v a b e g lt2
      · rcases lt2 with l | l
        · have := k_O_m hB a l
          omega
        · rw [l.1]; omega
  refine w214v1 hS ?_
  refine q_upto (P := fun it => ∀ (M1 : qM) (u8 u9 u10 u11 : qV), 0 ≤ it → (∀ (k : Nat) (o s : Int), ¬ (k = 68 ∧ o = 0) → M1 k o s = M k o s) → (∀ i v, 0 ≤ i → i < 18 → 0 ≤ v → v < B 3 (k_x i) → (i < it ∨ (i = it ∧ v < 0)) → M1 68 0 (k_O B i + v) = c_W0 B (k_y i v)) → b214v1_3 d h F 1 it u8 u9 u10 u11 M1) (a := 0) (b := 18) (by decide) (fun M1 u8 u9 u10 u11 _ O1 old => ?_) (fun it i0 i1 ih M1 u8 u9 u10 u11 _ O1 old => ?_) M _ _ _ _ (Int.le_refl _) (fun _ _ _ _ => rfl) (fun i v a b e g lt => by omega)
  · exact w214v1_3 hS ⟨fun z => absurd z (by decide), fun _ => H M1 O1 (fun i v a b e g => old i v a b e g (Or.inl b))⟩
  · refine w214v1_3 hS ⟨fun _ => ?_, fun z => absurd i1 z⟩
    have h18 : 0 ≤ it ∧ it < 18 := ⟨i0, i1⟩
    have x := k_x_p h18
    have n0 := (hB.2.1 (k_x it)).1
    have n15 := hl.2.1 (k_x it) x.1.1 x.1.2
    refine q_upto (P := fun w => ∀ (M1 : qM) (u9 u10 u11 : qV), 0 ≤ w → (∀ (k : Nat) (o s : Int), ¬ (k = 68 ∧ o = 0) → M1 k o s = M k o s) → (∀ i v, 0 ≤ i → i < 18 → 0 ≤ v → v < B 3 (k_x i) → (i < it ∨ (i = it ∧ v < w)) → M1 68 0 (k_O B i + v) = c_W0 B (k_y i v)) → b214v1_13 d h F 1 it w u9 u10 u11 M1) (a := 0) (b := B 3 (k_x it)) n0 (fun M1 u9 u10 u11 _ O1 old => ?_) (fun w w0 w1 ihw M1 u9 u10 u11 _ O1 old => ?_) M1 _ _ _ (Int.le_refl _) O1 old
    · have bk1 : k_bk B M1 := k_bk_fr hbk (fun s => O1 _ _ _ (by omega)) (fun i a b => by rw [O1 _ _ _ (by omega)]; exact ⟨rfl, (hbk.2.1 i a b).1⟩) (fun s => O1 _ _ _ (by omega)) (O1 _ _ _ (by omega)) (O1 _ _ _ (by omega)) (O1 _ _ _ (by omega))
      refine w214v1_13 hS (L189 hS h18 ?_)
      rw [(bk1.2.1 it i0 i1).2.1]
      refine ⟨fun z => absurd z (Int.lt_irrefl _), fun _ => ⟨⟨by omega, by omega⟩, ih M1 _ _ _ _ (by omega) O1 (fun i v a b e g lt => old i v a b e g ?_)⟩⟩
      by_cases z : i = it
      · right; rw [z] at g; exact ⟨z, g⟩
      · left; omega
    · have bk1 : k_bk B M1 := k_bk_fr hbk (fun s => O1 _ _ _ (by omega)) (fun i a b => by rw [O1 _ _ _ (by omega)]; exact ⟨rfl, (hbk.2.1 i a b).1⟩) (fun s => O1 _ _ _ (by omega)) (O1 _ _ _ (by omega)) (O1 _ _ _ (by omega)) (O1 _ _ _ (by omega))
      have cd := k_code hB hB2 bk1 h18 (w := w) ⟨w0, w1⟩
      have th := k_there hB2 h18 (w := w) ⟨w0, w1⟩ hB
      have o := ho it i0 (by omega)
      have ob := k_O_b hB hB2 hl (it + 1) (by omega) (by omega)
      have ob0 := k_O_b hB hB2 hl it (by omega) (by omega)
      have os := k_O_s (B := B) i0
      have e67 : ∀ N : qM, N = M1 → N 67 0 it = k_O B it := fun N e => by rw [e, O1 _ _ _ (by omega)]; exact o
      have fin : ∀ (v : Int) (M2 : qM) (u9 u10 u11 : qV), v = c_W0 B (k_y it w) → M2 = qU M1 68 0 (k_O B it + w) v → b214v1_13 d h F 1 it (w + 1) u9 u10 u11 M2 := fun v M2 u9 u10 u11 hv e2 => ihw M2 _ _ _ (by omega) (fun k oo s z => by rw [e2]; unfold qU; rw [if_neg (fun y => z ⟨y.1, y.2.1⟩)]; exact O1 k oo s z) (wr it w v M1 M2 h18 ⟨w0, w1⟩ hv e2 old)
      have num : c_K B (k_y it w) = 2 → B 8 2 = 0 → ∀ (u9 u10 u11 : qV), b214v1_135 d h F 1 it w u9 u10 u11 M1 := fun k2 b0 u9 u10 u11 => by
        refine w214v1_135 hS (fun x hx => ?_)
        rw [k_byp hB bk1 hx, b0]
        refine L212 (G := fun _ => 0) (bp := 0) hS hB hB2 hl bk1 (fun z => absurd rfl z) h18 ⟨w0, w1⟩ k2 (L191 hS ?_)
        rw [e67 M1 rfl]
        refine ⟨⟨by omega, by omega⟩, ⟨by omega, by omega⟩, ⟨by omega, by omega⟩, fun M2 f2 => ⟨⟨by omega, by omega⟩, fin _ M2 _ _ _ ?_ f2⟩⟩
        unfold c_W0 b_w0; rw [if_neg (by omega), if_pos k2, if_pos b0]
      have put : ∀ (v : Int) (u : qV), c_K B (k_y it w) ≠ 2 → v = c_W0 B (k_y it w) → b214v1_112 d h F 1 it w (c_K B (k_y it w)) v u M1 := fun v u k2 hv => by
        refine w214v1_112 hS ⟨fun z => absurd z k2, fun _ => ?_⟩
        rw [e67 M1 rfl]
        exact ⟨⟨by omega, by omega⟩, ⟨by omega, by omega⟩, ⟨by omega, by omega⟩, fun M2 f2 => ⟨⟨by omega, by omega⟩, fin v M2 _ _ _ hv f2⟩⟩
      refine w214v1_13 hS (L189 hS h18 ?_)
      rw [(bk1.2.1 it i0 i1).2.1]
      refine ⟨fun _ => L187 hS h18 ⟨w0, by omega⟩ (L188 hS ?_), fun z => absurd w1 z⟩
      rw [cd.1]
      refine ⟨fun k6 => ⟨fun z => absurd z (by decide), fun _ => put 2 _ (by omega) (by unfold c_W0 b_w0; rw [if_pos k6])⟩, fun k6 => ?_⟩
      by_cases k2 : c_K B (k_y it w) = 2
      · refine w214v1_112 hS ⟨fun _ => ⟨fun z => absurd z (by decide), fun _ => ?_⟩, fun z => absurd k2 z⟩
        rw [bk1.2.2.2.2.2]
        refine ⟨fun b1 => ?_, fun b1 => num k2 (by rcases hB.2.2.2.2.2.2.2.2 with z | z <;> omega) _ _ _⟩
        rw [e67 M1 rfl]
        exact ⟨⟨by omega, by omega⟩, ⟨by omega, by omega⟩, ⟨by omega, by omega⟩, fun M2 f2 => ⟨⟨by omega, by omega⟩, fin 1 M2 _ _ _ (by unfold c_W0 b_w0; rw [if_neg k6, if_pos k2, if_neg (by omega)]) f2⟩⟩
      · exact put 0 _ k2 (by unfold c_W0 b_w0; rw [if_neg k6, if_neg k2])
end
