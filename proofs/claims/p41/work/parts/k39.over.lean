/-! ===== the margins that waited, on a page of the law ===== -/
section
variable {d : Nat} {h : qH} {f : Int → qH → qM → Prop} {B : pT} {c D no nn pg : Int} {ans : Int → Int} {M : qM}
def k_98 (M M' : qM) : Prop := ∀ (k : Nat) (o s : Int), k ≠ 98 → k ≠ 99 → M' k o s = M k o s
theorem k_87 {s0 : c_Mg} {x12 x13 : Int} (hS : qSe h) (hB : c_ok B) (hB2 : c_ok2 B) (hl : k_lim B) (hbk : k_bk B M) (hc : 0 ≤ c ∧ c < 3) (hD : B 8 1 = D) (hpg : 0 ≤ pg ∧ pg ≤ 62) (ho : mg_ok B c 16 s0)
    (Hm : ∀ M', k_98 M M' → ∀ i w, 0 ≤ i → i < B 0 c → 0 ≤ w → w < B 3 (10 * c + i) → ∀ F : Int → qH → qM → Prop, F (ans (200 * c + 20 * i + w)) h M' → e180 (d + 5) h c i w M' F)
    (Hst : ∀ q : Nat, (q : Int) < mg_n s0 → mg_e (mg_over D pg (B 5) (mg_o s0) q (mg_begin s0)) ≤ b_at 0 (mg_e (mg_over D pg (B 5) (mg_o s0) q (mg_begin s0))) D (B 5 (mg_o s0 q)) → ans (mg_o s0 q) = 100 * pg + b_at 0 (mg_e (mg_over D pg (B 5) (mg_o s0) q (mg_begin s0))) D (B 5 (mg_o s0 q)))
    (H : ∀ M', k_98 M M' → (∀ i, M' 98 no i = M 98 no i) → (∀ i, 0 ≤ i → i < mg_n (mg_over D pg (B 5) (mg_o s0) (mg_n s0).toNat (mg_begin s0)) → M' 99 nn i = k_wc (mg_o (mg_over D pg (B 5) (mg_o s0) (mg_n s0).toNat (mg_begin s0)) i)) → ∀ u10 u17 u18 u19 u20 u21 : qV, b220_220 d h f c no nn u10 pg x12 x13 (mg_n (mg_over D pg (B 5) (mg_o s0) (mg_n s0).toNat (mg_begin s0))) (mg_e (mg_over D pg (B 5) (mg_o s0) (mg_n s0).toNat (mg_begin s0))) x12 u17 u18 u19 u20 u21 M') :
    ∀ (t q : Nat) (M1 : qM) (u17 u18 u19 u20 u21 : qV), mg_n s0 - q ≤ t → (q : Int) ≤ mg_n s0 → k_98 M M1 → (∀ i, M1 98 no i = M 98 no i) → (∀ i, 0 ≤ i → i < mg_n s0 → M 98 no i = k_wc (mg_o s0 i)) → (∀ i, 0 ≤ i → i < mg_n (mg_over D pg (B 5) (mg_o s0) q (mg_begin s0)) → M1 99 nn i = k_wc (mg_o (mg_over D pg (B 5) (mg_o s0) q (mg_begin s0)) i)) → mg_ok B c q (mg_over D pg (B 5) (mg_o s0) q (mg_begin s0)) → b220_87 d h f c no nn (mg_n s0) pg x12 x13 (mg_n (mg_over D pg (B 5) (mg_o s0) q (mg_begin s0))) (mg_e (mg_over D pg (B 5) (mg_o s0) q (mg_begin s0))) q u17 u18 u19 u20 u21 M1 := by
  have hDD := hB.2.2.2.2.2.2.2.1
  have n16 := ho.2.1
  have fin : ∀ (q : Nat) (M1 : qM) (u17 u18 u19 u20 u21 : qV), (q : Int) = mg_n s0 → k_98 M M1 → (∀ i, M1 98 no i = M 98 no i) → (∀ i, 0 ≤ i → i < mg_n (mg_over D pg (B 5) (mg_o s0) q (mg_begin s0)) → M1 99 nn i = k_wc (mg_o (mg_over D pg (B 5) (mg_o s0) q (mg_begin s0)) i)) → b220_87 d h f c no nn (mg_n s0) pg x12 x13 (mg_n (mg_over D pg (B 5) (mg_o s0) q (mg_begin s0))) (mg_e (mg_over D pg (B 5) (mg_o s0) q (mg_begin s0))) q u17 u18 u19 u20 u21 M1 := by
    intro q M1 u17 u18 u19 u20 u21 e O1 e98 e99
    have eq : q = (mg_n s0).toNat := by omega
    rw [eq] at e99 ⊢
    exact w220_87 hS ⟨fun z => absurd z (by omega), fun _ => H M1 O1 e98 e99 _ _ _ _ _ _⟩
  intro t
  induction t with
  | zero => intro q M1 u17 u18 u19 u20 u21 ht hq O1 e98 ew e99 ok; exact fin q M1 _ _ _ _ _ (by omega) O1 e98 e99
  | succ t ih =>
    intro q M1 u17 u18 u19 u20 u21 ht hq O1 e98 ew e99 ok
    by_cases e : (q : Int) = mg_n s0
    · exact fin q M1 _ _ _ _ _ e O1 e98 e99
    have hy := ho.2.2 q (by omega) (by omega)
    have wc := k_wc_p hB hl hc hy.1 hy.2.1
    have h18 : 0 ≤ 6 * c + mg_o s0 q / 20 % 10 ∧ 6 * c + mg_o s0 q / 20 % 10 < 18 := by omega
    have l6 := (hl.1 c hc.1 hc.2).1
    have kx : k_x (6 * c + mg_o s0 q / 20 % 10) = 10 * c + mg_o s0 q / 20 % 10 := k_x_c hc ⟨wc.2.2.2.2.1.1, by omega⟩
    have n15 := hl.2.1 (10 * c + mg_o s0 q / 20 % 10) (by omega) (by omega)
    have bk1 : k_bk B M1 := k_bk_fr hbk (fun s => O1 _ _ _ (by decide) (by decide)) (fun it a b => by rw [O1 _ _ _ (by decide) (by decide)]; exact ⟨rfl, (hbk.2.1 it a b).1⟩) (fun s => O1 _ _ _ (by decide) (by decide)) (O1 _ _ _ (by decide) (by decide)) (O1 _ _ _ (by decide) (by decide)) (O1 _ _ _ (by decide) (by decide))
    have cd := k_code hB hB2 bk1 h18 (w := mg_o s0 q % 20) (by rw [kx]; exact wc.2.2.2.2.2.1)
    have ey : k_y (6 * c + mg_o s0 q / 20 % 10) (mg_o s0 q % 20) = mg_o s0 q := by unfold k_y; rw [kx]; omega
    rw [ey] at cd
    have e98q : M1 98 no q = k_wc (mg_o s0 q) := by rw [e98]; exact ew q (by omega) (by omega)
    have v5 := hB.2.2.2.1 (mg_o s0 q)
    have oke := ok.1
    have okn := ok.2.1
    have e2 : M1 76 0 2 = D := by rw [bk1.2.2.2.2.1, hD]
    have st : mg_over D pg (B 5) (mg_o s0) (q + 1) (mg_begin s0) = mg_step D pg (mg_o s0 q) (B 5 (mg_o s0 q)) 0 (mg_over D pg (B 5) (mg_o s0) q (mg_begin s0)) := rfl
    have ok1 := mg_step_ok (dp := D) (pg := pg) (hi := B 5 (mg_o s0 q)) (w := 0) ok (by omega) v5.1 hy
    have hst := Hst q (by omega)
    have at0 := k_at_0 (e := mg_e (mg_over D pg (B 5) (mg_o s0) q (mg_begin s0))) (dp := D) (hi := B 5 (mg_o s0 q)) oke.1
    have ih1 := fun (M2 : qM) (u17 u18 u19 u20 u21 : qV) (O2 : k_98 M M2) (x98 : ∀ i, M2 98 no i = M 98 no i) (x99 : ∀ i, 0 ≤ i → i < mg_n (mg_over D pg (B 5) (mg_o s0) (q + 1) (mg_begin s0)) → M2 99 nn i = k_wc (mg_o (mg_over D pg (B 5) (mg_o s0) (q + 1) (mg_begin s0)) i)) => ih (q + 1) M2 u17 u18 u19 u20 u21 (by omega) (by omega) O2 x98 ew x99 (by rw [st]; exact_mod_cast ok1.1)
    rw [st] at ih1
    rw [show ((q + 1 : Nat) : Int) = (q : Int) + 1 by omega] at ih1
    generalize mg_over D pg (B 5) (mg_o s0) q (mg_begin s0) = s at *
    refine w220_87 hS ⟨fun _ => ⟨⟨by omega, by omega⟩, ?_⟩, fun z => absurd (show (q : Int) < mg_n s0 by omega) z⟩
    rw [e98q]
    refine ⟨wc.1.1, ⟨by omega, by omega⟩, wc.1.1, ?_⟩
    rw [wc.2.1, wc.2.2.1]
    refine L187 hS h18 ⟨by omega, by omega⟩ ?_
    rw [cd.2.1, e2, e98q]
    refine ⟨⟨by omega, by omega⟩, fun _ => ⟨by omega, by omega⟩, fun x hx => ?_⟩
    rw [← at0] at hx
    refine ⟨fun lt => ?_, fun ge => ?_⟩
    · have no' : ¬ mg_e s ≤ b_at 0 (mg_e s) D (B 5 (mg_o s0 q)) := by omega
      have es : mg_step D pg (mg_o s0 q) (B 5 (mg_o s0 q)) 0 s = (mg_p s, fun z => if z = mg_n s then mg_o s0 q else mg_o s z, mg_n s + 1, mg_e s) := by unfold mg_step; rw [if_neg no']
      rw [es] at ih1
      refine ⟨⟨by omega, by omega⟩, ⟨by omega, by omega⟩, fun M2 f2 => ⟨⟨by omega, by omega⟩, ⟨by omega, by omega⟩, ?_⟩⟩
      refine ih1 M2 _ _ _ _ _ (fun k o s a b => by rw [f2, qU_k b]; exact O1 k o s a b) (fun i => by rw [f2, qU_k (by decide)]; exact e98 i) (fun i i0 i1 => ?_)
      have i1' : i < mg_n s + 1 := i1
      show M2 99 nn i = k_wc (if i = mg_n s then mg_o s0 q else mg_o s i)
      by_cases z : i = mg_n s
      · rw [if_pos z, z, f2, qU_s]
      · rw [if_neg z, f2, qU_l z]; exact e99 i i0 (by omega)
    · have yes : mg_e s ≤ b_at 0 (mg_e s) D (B 5 (mg_o s0 q)) := by omega
      have es : mg_step D pg (mg_o s0 q) (B 5 (mg_o s0 q)) 0 s = (fun z => if z = mg_o s0 q then 100 * pg + b_at 0 (mg_e s) D (B 5 (mg_o s0 q)) else mg_p s z, mg_o s, mg_n s, b_at 0 (mg_e s) D (B 5 (mg_o s0 q)) + B 5 (mg_o s0 q)) := by unfold mg_step; rw [if_pos yes]
      rw [es] at ih1
      have bb : b_at 0 (mg_e s) D (B 5 (mg_o s0 q)) ≤ 30 := by rw [at0]; split <;> omega
      refine ⟨⟨by omega, by omega⟩, ⟨by omega, by omega⟩, wc.1.1, by omega, ⟨by omega, by omega⟩, wc.1.1, ?_⟩
      rw [wc.2.2.2.1, wc.2.2.1]
      refine Hm M1 O1 _ _ wc.2.2.2.2.1.1 wc.2.2.2.2.1.2 wc.2.2.2.2.2.1.1 wc.2.2.2.2.2.1.2 _ ?_
      rw [← wc.2.2.2.2.2.2, hst yes, hx]
      refine ⟨⟨by omega, by omega⟩, ⟨by omega, by omega⟩, fun _ => ⟨⟨by omega, by omega⟩, ih1 M1 _ _ _ _ _ O1 e98 (fun i i0 i1 => e99 i i0 i1)⟩, fun z => absurd rfl z⟩
end
