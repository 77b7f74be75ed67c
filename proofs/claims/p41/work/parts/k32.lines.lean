/-! ===== the lines of the index; sums of words ===== -/
noncomputable def k_ln (B : pT) (R : c_R) (al : Int → Int) (t : Int) : Int := (k_runs (x_on (c_K B) (B 5) (c_G B R) t 600) + 2) / 3 + (if al t ≤ 0 then 0 else 1)
noncomputable def k_L (B : pT) (R : c_R) (al : Int → Int) : Int := p_sum (k_ln B R al) 10
theorem k_runs_b {on : Int → Prop} : 0 ≤ k_runs on ∧ k_runs on ≤ 61 := by
  have := p_sum_bd (g := k_rn on) (b := 1) (n := 61) k_rn_b (by decide)
  unfold k_runs
  omega
/-- the lines that the class counts -/
theorem k_L_x {B : pT} {R : c_R} {al n : Int → Int} {a b : Int → Int → Int} (hb : ∀ t p, 0 ≤ t → t < 10 → x_on (c_K B) (B 5) (c_G B R) t 600 p → p ≤ 61) (hx : ∀ t, 0 ≤ t → t < 10 → x_iv (n t) (a t) (b t) (x_on (c_K B) (B 5) (c_G B R) t 600)) : k_L B R al = x_L n (fun t => al t - 1) := by
  unfold k_L x_L
  refine p_sum_cg (by decide) (fun t t0 t1 => ?_)
  show k_ln B R al t = (n t + 2) / 3 + (if al t - 1 < 0 then 0 else 1)
  unfold k_ln
  rw [k_runs_n (hx t t0 t1) (fun p => hb t p t0 t1)]
  by_cases z : al t ≤ 0
  · rw [if_pos z, if_pos (by omega)]
  · rw [if_neg z, if_neg (by omega)]
/-- how much of a kind there is in an item -/
def k_sg (B : pT) (kd it w : Int) : Int := if kd < 0 then 1 else if B 4 (k_y it w) = kd then (if kd = 2 then B 5 (k_y it w) else 1) else 0
def k_sm (B : pT) (but kd it : Int) : Int := if it = but then 0 else p_sum (k_sg B kd it) (B 3 (k_x it))
def k_ct3 (B : pT) (c but kd : Int) : Int := p_sum (fun i => k_sm B but kd (6 * c + i)) 6
section
variable {d : Nat} {h : qH} {B Bo : pT} {W : Int → Int} {ob : Prop} {Ro R : c_R} {p0 : Int} {M : qM}
theorem L218 {f : Int → qM → Prop} (hS : qSe h) (hB : c_ok B) (hB2 : c_ok2 B) (hl : k_lim B) (hbk : k_bk B M) (hp : 0 ≤ p0 ∧ p0 ≤ 100) (out : c_out B W ob Bo Ro p0 R) (hh : k_here B R M) (hG : ∀ y, 0 ≤ y → y < 600 → c_there B y → c_G B R y ≤ 61) (H : f (k_L B R (M 78 0)) M) : e218 (d + 5) h M f := by
  refine w218 hS ?_
  have lb : ∀ t, 0 ≤ k_ln B R (M 78 0) t ∧ k_ln B R (M 78 0) t ≤ 22 := fun t => by
    have := k_runs_b (on := x_on (c_K B) (B 5) (c_G B R) t 600)
    unfold k_ln
    split <;> omega
  refine q_upto (P := fun t => 0 ≤ t → b218_6 d h f (p_sum (k_ln B R (M 78 0)) t) t M) (a := 0) (b := 10) (by decide) (fun _ => w218_6 hS ⟨fun z => absurd z (by decide), fun _ => H⟩) (fun t t0 t1 ih _ => ?_) (Int.le_refl _)
  have sb := p_sum_bd (g := k_ln B R (M 78 0)) (b := 22) (n := t) lb t0
  have ss := p_sum_s (g := k_ln B R (M 78 0)) t0
  have rb := k_runs_b (on := x_on (c_K B) (B 5) (c_G B R) t 600)
  refine w218_6 hS ⟨fun _ => L216 hS hB hB2 hl hbk hp out hh hG (fun S hs => L217 hS hs ⟨⟨by omega, by omega⟩, by omega, ⟨t0, t1⟩, fun x hx => ?_⟩), fun z => absurd t1 z⟩
  have e : (k_runs (x_on (c_K B) (B 5) (c_G B R) t 600) + 2) / 3 + x = k_ln B R (M 78 0) t := by rw [hx]; rfl
  have lt := lb t
  rw [e]
  refine ⟨⟨by omega, by omega⟩, ⟨by omega, by omega⟩, ⟨by omega, by omega⟩, ?_⟩
  rw [← ss]
  exact ih (by omega)
theorem k_sg_b (hB : c_ok B) (kd it w : Int) : 0 ≤ k_sg B kd it w ∧ k_sg B kd it w ≤ 9 := by
  have := hB.2.2.2.1 (k_y it w)
  unfold k_sg
  split
  · omega
  · split
    · split <;> omega
    · omega
theorem k_sm_b (hB : c_ok B) (hl : k_lim B) (but kd it : Int) (h : 0 ≤ it ∧ it < 18) : 0 ≤ k_sm B but kd it ∧ k_sm B but kd it ≤ 135 := by
  have n := (hB.2.1 (k_x it)).1
  have n15 := hl.2.1 (k_x it) (k_x_p h).1.1 (k_x_p h).1.2
  have := p_sum_bd (g := k_sg B kd it) (b := 9) (n := B 3 (k_x it)) (k_sg_b hB kd it) n
  unfold k_sm
  split <;> omega
theorem L225 {f : Int → qM → Prop} {c but kd : Int} (hS : qSe h) (hB : c_ok B) (hB2 : c_ok2 B) (hl : k_lim B) (hbk : k_bk B M) (hc : 0 ≤ c ∧ c < 3) (H : f (k_ct3 B c but kd) M) : e225 (d + 2) h c but kd M f := by
  refine w225 hS ⟨⟨by omega, by omega⟩, ?_⟩
  have tot : ∀ i, 0 ≤ i → i ≤ 6 → 0 ≤ p_sum (fun i => k_sm B but kd (6 * c + i)) i ∧ p_sum (fun i => k_sm B but kd (6 * c + i)) i ≤ 135 * i := fun i i0 i1 => by
    refine q_dnto (P := fun i => i ≤ 6 → 0 ≤ p_sum (fun i => k_sm B but kd (6 * c + i)) i ∧ p_sum (fun i => k_sm B but kd (6 * c + i)) i ≤ 135 * i) i0 (fun _ => by rw [p_sum_0]; omega) (fun j j0 j1 ih j6 => ?_) i1
    have s := p_sum_s (g := fun i => k_sm B but kd (6 * c + i)) (x := j - 1) (by omega)
    rw [show j - 1 + 1 = j by omega] at s
    have b := k_sm_b hB hl but kd (6 * c + (j - 1)) (by omega)
    have := ih (by omega)
    omega
  refine q_upto (P := fun i => ∀ u7 u8 : qV, 0 ≤ i → b225_9 d h f c but kd (p_sum (fun i => k_sm B but kd (6 * c + i)) i) (6 * c + i) u7 u8 M) (a := 0) (b := 6) (by decide) (fun u7 u8 _ => ?_) (fun i i0 i1 ih u7 u8 _ => ?_) q_u q_u (Int.le_refl _) |> fun z => by
      rw [show 6 * c + 0 = 6 * c by omega] at z
      exact z
  · exact w225_9 hS ⟨⟨by omega, by omega⟩, ⟨by omega, by omega⟩, fun z => absurd z (by omega), fun _ => H⟩
  · have h18 : 0 ≤ 6 * c + i ∧ 6 * c + i < 18 := by omega
    have bt := hbk.2.1 (6 * c + i) h18.1 h18.2
    have n0 := (hB.2.1 (k_x (6 * c + i))).1
    have n15 := hl.2.1 (k_x (6 * c + i)) (k_x_p h18).1.1 (k_x_p h18).1.2
    have ss := p_sum_s (g := fun i => k_sm B but kd (6 * c + i)) i0
    have tb := tot i i0 (by omega)
    have next : ∀ u7 u8, b225_9 d h f c but kd (p_sum (fun i => k_sm B but kd (6 * c + i)) (i + 1)) (6 * c + i + 1) u7 u8 M := fun u7 u8 => by
      have := ih u7 u8 (by omega)
      rw [show 6 * c + (i + 1) = 6 * c + i + 1 by omega] at this
      exact this
    refine w225_9 hS ⟨⟨by omega, by omega⟩, ⟨by omega, by omega⟩, fun _ => ?_, fun z => absurd (show 6 * c + i < 6 * c + 6 by omega) z⟩
    by_cases eb : 6 * c + i = but
    · have z0 : k_sm B but kd (6 * c + i) = 0 := by unfold k_sm; rw [if_pos eb]
      have e : p_sum (fun i => k_sm B but kd (6 * c + i)) (i + 1) = p_sum (fun i => k_sm B but kd (6 * c + i)) i := by rw [ss, z0]; omega
      rw [e] at next
      refine w225_24 hS (L189 hS h18 ?_)
      exact ⟨fun _ => ⟨fun _ => ⟨⟨by omega, by omega⟩, next _ _⟩, fun z => absurd eb z⟩, fun _ => ⟨⟨by omega, by omega⟩, next _ _⟩⟩
    · have z1 : k_sm B but kd (6 * c + i) = p_sum (k_sg B kd (6 * c + i)) (B 3 (k_x (6 * c + i))) := by unfold k_sm; rw [if_neg eb]
      refine q_upto (P := fun w => ∀ u8 : qV, 0 ≤ w → b225_24 d h f c but kd (p_sum (fun i => k_sm B but kd (6 * c + i)) i + p_sum (k_sg B kd (6 * c + i)) w) (6 * c + i) w u8 M) (a := 0) (b := B 3 (k_x (6 * c + i))) n0 (fun u8 _ => ?_) (fun w w0 w1 ihw u8 _ => ?_) u8 (Int.le_refl _) |> fun z => by
          rw [show p_sum (fun i => k_sm B but kd (6 * c + i)) i + p_sum (k_sg B kd (6 * c + i)) 0 = p_sum (fun i => k_sm B but kd (6 * c + i)) i by rw [p_sum_0]; omega] at z
          exact z
      · refine w225_24 hS (L189 hS h18 ?_)
        rw [bt.2.1]
        refine ⟨fun z => absurd z (Int.lt_irrefl _), fun _ => ⟨⟨by omega, by omega⟩, ?_⟩⟩
        rw [← z1, ← ss]
        exact next _ _
      · have ci := k_code hB hB2 hbk h18 (w := w) ⟨w0, w1⟩
        have kk := k_K hB hB2 h18 (w := w) ⟨w0, w1⟩
        have sw := p_sum_s (g := k_sg B kd (6 * c + i)) w0
        have sb := p_sum_bd (g := k_sg B kd (6 * c + i)) (b := 9) (n := w) (k_sg_b hB kd (6 * c + i)) w0
        have gb := k_sg_b hB kd (6 * c + i) w
        have step : ∀ x u8, x = p_sum (fun i => k_sm B but kd (6 * c + i)) i + p_sum (k_sg B kd (6 * c + i)) w + k_sg B kd (6 * c + i) w → b225_24 d h f c but kd x (6 * c + i) (w + 1) u8 M := fun x u8 hx => by
          have := ihw u8 (by omega)
          rw [hx, show p_sum (fun i => k_sm B but kd (6 * c + i)) i + p_sum (k_sg B kd (6 * c + i)) w + k_sg B kd (6 * c + i) w = p_sum (fun i => k_sm B but kd (6 * c + i)) i + p_sum (k_sg B kd (6 * c + i)) (w + 1) by omega]
          exact this
        refine w225_24 hS (L189 hS h18 ?_)
        rw [bt.2.1]
        refine ⟨fun _ => ⟨fun z => absurd z eb, fun _ => L187 hS h18 ⟨w0, by omega⟩ ⟨fun neg => ⟨⟨by omega, by omega⟩, ⟨by omega, by omega⟩, step _ _ (by unfold k_sg; rw [if_pos neg])⟩, fun pos => L188 hS ?_⟩⟩, fun z => absurd w1 z⟩
        rw [ci.1, ci.2.1, kk]
        refine fun x hx => ?_
        have e : x = k_sg B kd (6 * c + i) w := by
          unfold k_sg
          rw [hx, if_neg pos]
        rw [e]
        exact ⟨⟨by omega, by omega⟩, ⟨by omega, by omega⟩, step _ _ rfl⟩
end
