/-! ===== a round of the law, whole ===== -/
section
variable {d : Nat} {f : Int → qH → qM → Prop} {B Bo : pT} {W at' wd : Int → Int} {ob : Prop} {Ro : c_R} {kp : Int}
theorem L208 {h : qH} {u0 : Nat} {M : qM} (hu : k_h u0 h) (hB : c_ok B) (hB2 : c_ok2 B) (hl : k_lim B) (hW : k_W B W) (hbk : k_bk B M) (ho : k_off B M) (he : k_e 68 B W M) (hbr : k_brk B at' wd M) (hv : k_v66 M) (h9 : 0 ≤ M 76 0 9 ∧ M 76 0 9 ≤ 900000)
    (hold : (¬ ob ∧ kp = 0) ∨ (ob ∧ kp ≠ 0 ∧ k_om B Bo Ro M ∧ ∀ L E, c_oldok B L E Bo Ro))
    (H : (∃ R, c_out B W ob Bo Ro (c_p0 B) R ∧ ∀ h' M', k_h (u0 + 66) h' → k_fR M M' → (∀ it, 0 ≤ it → it < 18 → M' 65 0 it % 65536 = M 65 0 it % 65536) → k_edm B R (c_p0 B) M' → k_bk B M' → k_brk B (fun _ => B 8 0) (fun y => B 6 y + W y) M' → k_v66 M' → M' 76 0 9 = M 76 0 9 + p_sum (c_rg B at' wd W) 30 → (0 ≤ M' 76 0 6 ∧ M' 76 0 6 ≤ 61) → f 1 h' M') ∨ (c_fail B W ob Bo Ro (c_p0 B) ∧ ∀ h' M', k_h (u0 + 66) h' → k_fR M M' → (∀ it, 0 ≤ it → it < 18 → M' 65 0 it % 65536 = M 65 0 it % 65536) → k_bk B M' → k_brk B (fun _ => B 8 0) (fun y => B 6 y + W y) M' → k_v66 M' → (0 ≤ M' 76 0 6 ∧ M' 76 0 6 ≤ 61) → f 0 h' M')) : e208 (d + 6) h kp M f := by
  have hS := hu.1
  have hD := hB.2.2.2.2.2.2.2.1
  have pb := c_p0_b hB
  have D0 : 0 < B 8 1 := by omega
  have e18 := k_sum18 (g := fun x => if B 1 x = 0 then (0 : Int) else 1) (fun x x0 x1 x6 => by
    show (if B 1 x = 0 then (0 : Int) else 1) = 0
    have := (hl.1 (x / 10) (by omega) (by omega)).1
    rw [if_pos (hB2 x x0 x1 (by omega)).1])
  have h18 : c_hds B = p_sum (fun it => if B 1 (k_x it) = 0 then (0 : Int) else 1) 18 := e18.symm
  have hb : ∀ n, 0 ≤ n → 0 ≤ p_sum (fun it => if B 1 (k_x it) = 0 then (0 : Int) else 1) n ∧ p_sum (fun it => if B 1 (k_x it) = 0 then (0 : Int) else 1) n ≤ 1 * n := fun n n0 => p_sum_bd (g := fun it => if B 1 (k_x it) = 0 then (0 : Int) else 1) (b := 1) (n := n) (fun k => by
    show 0 ≤ (if B 1 (k_x k) = 0 then (0 : Int) else 1) ∧ (if B 1 (k_x k) = 0 then (0 : Int) else 1) ≤ 1
    split <;> omega) n0
  have p4 : c_p0 B ≤ 4 := by
    have h := hb 18 (by decide)
    have : (c_hds B + B 8 1 - 1) / B 8 1 < 4 := Int.ediv_lt_of_lt_mul D0 (by omega)
    have ep : c_p0 B = c_nc B + c_nc B % 2 := rfl
    have en : c_nc B = (c_hds B + B 8 1 - 1) / B 8 1 := rfl
    have := pb.2.1
    omega
  refine w208 hS (fun M1 f1 => ?_)
  have O1 : ∀ (k : Nat) (o s : Int), ¬ (k = 76 ∧ o = 0 ∧ s = 6) → M1 k o s = M k o s := fun k o s z => by rw [f1]; unfold qU; rw [if_neg z]
  have v6 : M1 76 0 6 = 0 := by rw [f1, qU_s]
  have t1 := fun it (a : 0 ≤ it) (b : it < 18) => hbk.2.1 it a b
  -- the heads
  refine q_upto (P := fun it => ∀ u18 u19 : qV, 0 ≤ it → b208_12 d h f kp (p_sum (fun it => if B 1 (k_x it) = 0 then (0 : Int) else 1) it) it u18 u19 M1) (a := 0) (b := 18) (by decide) ?_ ?_ q_u q_u (Int.le_refl _)
  · intro u18 u19 _
    have hh := hb 18 (by decide)
    refine w208_12 hS ⟨fun z => absurd z (by decide), fun _ => ?_⟩
    rw [← h18, O1 76 0 2 (by omega), hbk.2.2.2.2.1]
    rw [← h18] at hh
    refine ⟨⟨by omega, by omega⟩, ⟨by omega, by omega⟩, ⟨by omega, D0⟩, ?_⟩
    have en : (c_hds B + B 8 1 - 1) / B 8 1 = c_nc B := rfl
    rw [en]
    have ep : c_nc B + c_nc B % 2 = c_p0 B := rfl
    -- the contents
    have fin : ∀ (M2 : qM) (u16 u19 : qV), (∀ (k : Nat) (o s : Int), ¬ (k = 76 ∧ o = 0 ∧ s = 6) → ¬ ((k = 74 ∨ k = 75) ∧ o = 0) → M2 k o s = M k o s) → M2 76 0 6 = c_p0 B → (∀ q, 1 ≤ q → q ≤ c_p0 B → M2 74 0 q = 3 ∧ M2 75 0 q = 0) → b208_63 d h f kp u16 (c_nc B) (c_p0 B) u19 M2 := by
      intro M2 u16 u19 O2 e6 pg
      have bk2 : k_bk B M2 := k_bk_fr hbk (fun s => O2 _ _ _ (by omega) (by omega)) (fun it a b => by rw [O2 _ _ _ (by omega) (by omega)]; exact ⟨rfl, (hbk.2.1 it a b).1⟩) (fun s => O2 _ _ _ (by omega) (by omega)) (O2 _ _ _ (by omega) (by omega)) (O2 _ _ _ (by omega) (by omega)) (O2 _ _ _ (by omega) (by omega))
      have ho2 : k_off B M2 := fun it a b => by rw [O2 _ _ _ (by omega) (by omega)]; exact ho it a b
      have he2 : k_e 68 B W M2 := fun it w a b e g => by rw [O2 _ _ _ (by omega) (by omega)]; exact he it w a b e g
      have br2 : k_brk B at' wd M2 := fun it a b r q => by rw [O2 _ _ _ (by omega) (by omega), O2 _ _ _ (by omega) (by omega)]; exact hbr it a b r q
      have v2 : k_v66 M2 := fun it a b => by rw [O2 _ _ _ (by omega) (by omega)]; exact hv it a b
      have e9 : M2 76 0 9 = M 76 0 9 := O2 _ _ _ (by omega) (by omega)
      refine w208_63 hS ⟨pb.2.1.1, ⟨by omega, by omega⟩, fun z => absurd z (by omega), fun _ => k_102 hS (u2 := q_u) (u16 := q_u) (u17 := q_u) hB hB2 hl bk2 ho2 he2 hW br2 v2 (by rw [e9]; exact h9) (fun M3 O3 bk3 l65 br3 v3 e93 u2 u16 u17 u19 => ?_) _ _ _⟩
      have O23 : k_fR M M3 := fun k o s z1 z2 => by rw [O3 k o s (fun y => z2 (by omega)) (fun y => z2 (by omega)), O2 k o s (fun y => z2 (by omega)) (fun y => z2 (by omega))]
      have l653 : ∀ it, 0 ≤ it → it < 18 → M3 65 0 it % 65536 = M 65 0 it % 65536 := fun it a b => by rw [l65 it a b, O2 _ _ _ (by omega) (by omega)]
      have ho3 : k_off B M3 := fun it a b => by rw [O3 _ _ _ (by omega) (by omega)]; exact ho2 it a b
      have he3 : k_e 68 B W M3 := fun it w a b e g => by rw [O3 _ _ _ (by omega) (by omega)]; exact he2 it w a b e g
      have hold3 : ∀ L E, (¬ ob ∧ kp = 0) ∨ (ob ∧ kp ≠ 0 ∧ k_om B Bo Ro M3 ∧ c_oldok B L E Bo Ro) := fun L E => by
        rcases hold with hold | hold
        · exact Or.inl hold
        · exact Or.inr ⟨hold.1, hold.2.1, k_om_fr hl hold.2.2.1 (fun k s q => O23 _ _ _ (by omega) (by omega)) (fun it a b => by have := l653 it a b; omega), hold.2.2.2 L E⟩
      have pg3 : ∀ q, 1 ≤ q → q ≤ c_p0 B → M3 74 0 q = 3 ∧ M3 75 0 q = 0 := fun q a b => by rw [O3 _ _ _ (by omega) (by omega), O3 _ _ _ (by omega) (by omega)]; exact pg q a b
      have e63 : M3 76 0 6 = c_p0 B := by rw [O3 _ _ _ (by omega) (by omega)]; exact e6
      have br4 : ∀ M4 : qM, (∀ it, M4 65 0 it = M3 65 0 it ∧ M4 66 0 it = M3 66 0 it) → k_brk B (fun _ => B 8 0) (fun y => B 6 y + W y) M4 ∧ k_v66 M4 ∧ ∀ it, 0 ≤ it → it < 18 → M4 65 0 it % 65536 = M 65 0 it % 65536 := fun M4 e => ⟨fun it a b r q => by rw [(e it).1, (e it).2]; exact br3 it a b r q, fun it a b => by rw [(e it).2]; exact v3 it a b, fun it a b => by rw [(e it).1]; exact l653 it a b⟩
      have bk4 : ∀ M4 : qM, k_fR M3 M4 → (∀ it, M4 65 0 it = M3 65 0 it ∧ M4 66 0 it = M3 66 0 it) → k_bk B M4 := fun M4 O4 e => k_bk_fr bk3 (fun s => O4 _ _ _ (by omega) (by omega)) (fun it a b => by rw [(e it).1]; exact ⟨rfl, (bk3.2.1 it a b).1⟩) (fun s => O4 _ _ _ (by omega) (by omega)) (O4 _ _ _ (by omega) (by omega)) (O4 _ _ _ (by omega) (by omega)) (O4 _ _ _ (by omega) (by omega))
      rcases H with ⟨R, out, H⟩ | ⟨⟨L, C, E, W', n, hL, hn, hch, hN, hnone⟩, H⟩
      · refine k_140 (n := 3) (Wc := r_W R) hB hB2 hl out.1 hW hu bk3 ho3 he3 (hold3 _ _) rfl e63 pg3 (by decide) out.2 (fun q => absurd q (by decide)) (fun _ h4 M4 hu4 O4 e65 e94 cm la b61 kd => ?_) (fun q => absurd q (by decide)) _ _ _ _
        have b4 := br4 M4 e65
        have bd := c_la_bd2 hB out.1 pb.2.2.1 (by decide) out.2 3 (by decide)
        exact H h4 M4 hu4 (k_fR_t O23 O4) b4.2.2 ⟨cm, la, kd⟩ (bk4 M4 O4 e65) b4.1 b4.2.1 (by rw [e94, e93, e9]) ⟨by rw [la]; omega, b61⟩
      · refine k_140 (n := n) (Wc := W') hB hB2 hl hL hW hu bk3 ho3 he3 (hold3 _ _) rfl e63 pg3 ⟨hn.1, by omega⟩ hch (fun _ => ⟨hN, hnone⟩) (fun q => by omega) (fun _ h4 M4 hu4 O4 e65 b61 => ?_) _ _ _ _
        have b4 := br4 M4 e65
        exact H h4 M4 hu4 (k_fR_t O23 O4) b4.2.2 (bk4 M4 O4 e65) b4.1 b4.2.1 b61
    have pages : ∀ (t : Nat) (p : Int) (M2 : qM) (u16 u19 : qV), c_p0 B - p ≤ t → (0 ≤ p ∧ p ≤ c_p0 B) → (∀ (k : Nat) (o s : Int), ¬ (k = 76 ∧ o = 0 ∧ s = 6) → ¬ ((k = 74 ∨ k = 75) ∧ o = 0) → M2 k o s = M k o s) → M2 76 0 6 = p → (∀ q, 1 ≤ q → q ≤ p → M2 74 0 q = 3 ∧ M2 75 0 q = 0) → b208_63 d h f kp u16 (c_nc B) p u19 M2 := by
      intro t
      induction t with
      | zero =>
        intro p M2 u16 u19 ht hp O2 e6 pg
        have e : p = c_p0 B := by omega
        subst e
        exact fin M2 u16 u19 O2 e6 pg
      | succ t ih =>
        intro p M2 u16 u19 ht hp O2 e6 pg
        by_cases e : p = c_p0 B
        · subst e
          exact fin M2 u16 u19 O2 e6 pg
        refine w208_63 hS ⟨pb.2.1.1, ⟨by omega, by omega⟩, fun _ => L203 hS ⟨by decide, by decide⟩ ⟨by decide, by decide⟩ ⟨by decide, by decide⟩ ⟨by decide, by decide⟩ ⟨by decide, by decide⟩ ⟨by decide, by decide⟩ ⟨by decide, by decide⟩ ⟨by decide, by decide⟩ (by rw [e6]; omega) (fun M3 O3 x6 x74 x75 => ⟨⟨by omega, by omega⟩, ?_⟩), fun z => absurd (show p < c_nc B + c_nc B % 2 by omega) z⟩
        rw [e6] at O3 x6 x74 x75
        refine ih (p + 1) M3 _ _ (by omega) ⟨by omega, by omega⟩ (fun k o s z1 z2 => by rw [O3 k o s z1 (fun y => z2 ⟨y.1, y.2.1⟩)]; exact O2 k o s z1 z2) x6 (fun q q0 q1 => ?_)
        by_cases z : q = p + 1
        · subst z; exact ⟨x74, x75⟩
        · rw [O3 _ _ _ (by omega) (by omega), O3 _ _ _ (by omega) (by omega)]; exact pg q q0 (by omega)
    exact pages (c_p0 B).toNat 0 M1 _ _ (by omega) ⟨Int.le_refl _, by omega⟩ (fun k o s z _ => O1 k o s z) v6 (fun q a b => by omega)
  · intro it i0 i1 ih u18 u19 _
    have hh := hb it i0
    have ss := p_sum_s (g := fun it => if B 1 (k_x it) = 0 then (0 : Int) else 1) i0
    have t := t1 it i0 i1
    refine w208_12 hS ⟨fun _ => L190 hS ⟨i0, i1⟩ (by rw [O1 _ _ _ (by omega)]; exact t.1) ?_, fun z => absurd i1 z⟩
    rw [O1 65 _ _ (by omega), t.2.2.1]
    refine fun x hx => ⟨by rw [hx]; constructor <;> split <;> omega, ⟨by omega, by omega⟩, ?_⟩
    rw [hx, ← ss]
    exact ih _ _ (by omega)
end
