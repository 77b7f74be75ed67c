/-! ===== a turn that composes ===== -/
/-- behind a compose the law asks of all -/
def l_ask (B : pT) (en : Int) (W : Int → Int) (R : c_R) (L : Int) (M : qM) : Prop := k_as B en W R L M ∧ k_all B R L M ∧ c_lal B R ≤ 40 ∧ M 76 0 28 = c_lal B R + 1 ∧ M 76 0 9 = M 2 0 9 ∧ M 76 0 8 = M 2 0 10
def k_ip (L D : Int) : Int := (L + 2 * D - 1) / (2 * D)
theorem k_ip_iff {D L x : Int} (hD : 8 ≤ D ∧ D ≤ 14) : x * 2 * D < L ↔ x < k_ip L D := by
  unfold k_ip
  rcases (show D = 8 ∨ D = 9 ∨ D = 10 ∨ D = 11 ∨ D = 12 ∨ D = 13 ∨ D = 14 by omega) with z | z | z | z | z | z | z <;> rw [z] <;> omega
theorem k_ip_b {D L : Int} (hD : 8 ≤ D ∧ D ≤ 14) (hL : 0 ≤ L ∧ L ≤ 220) : 0 ≤ k_ip L D ∧ k_ip L D ≤ 14 := by
  unfold k_ip
  rcases (show D = 8 ∨ D = 9 ∨ D = 10 ∨ D = 11 ∨ D = 12 ∨ D = 13 ∨ D = 14 by omega) with z | z | z | z | z | z | z <;> rw [z] <;> omega
theorem k_ip_q {D x : Int} (hD : 8 ≤ D ∧ D ≤ 14) (hx : 0 ≤ x ∧ x ≤ 100) : qIn (x * 2 * D) := by
  rcases (show D = 8 ∨ D = 9 ∨ D = 10 ∨ D = 11 ∨ D = 12 ∨ D = 13 ∨ D = 14 by omega) with z | z | z | z | z | z | z <;> rw [z] <;> exact ⟨by omega, by omega⟩
section
variable {d : Nat} {h : qH} {sc : Int × (Int → Int)} {f : Int → qH → qM → Prop} {x25 x31 x32 : Int} {M : qM}
/-- the pages of the index -/
theorem k_814 {la Lx D : Int} (hS : qSe h) (hD : M 76 0 2 = D ∧ 8 ≤ D ∧ D ≤ 14) (hla : 0 ≤ la ∧ la ≤ 40) (hL : 0 ≤ Lx ∧ Lx ≤ 220) (h6 : M 76 0 6 = la) {u26 u27 u28 u29 u30 : qV}
    (K : ∀ N, (∀ (k : Nat) (o s : Int), ¬ (k = 76 ∧ o = 0 ∧ s = 6) → ¬ ((k = 74 ∨ k = 75) ∧ o = 0 ∧ la < s) → N k o s = M k o s) → N 76 0 6 = la + k_ip Lx D → (∀ p, la < p → p ≤ la + k_ip Lx D → N 74 0 p = 5 ∧ N 75 0 p = 0) → ∀ u33 u34, b269_852 d h sc f x25 u26 u27 u28 u29 u30 x31 x32 u33 u34 N) : b269_814 d h sc f x25 u26 u27 u28 u29 u30 x31 x32 Lx 0 M := by
  have ib := k_ip_b hD.2 hL
  refine q_upto (P := fun x => 0 ≤ x → ∀ N, (∀ (k : Nat) (o s : Int), ¬ (k = 76 ∧ o = 0 ∧ s = 6) → ¬ ((k = 74 ∨ k = 75) ∧ o = 0 ∧ la < s) → N k o s = M k o s) → N 76 0 6 = la + x → (∀ p, la < p → p ≤ la + x → N 74 0 p = 5 ∧ N 75 0 p = 0) → b269_814 d h sc f x25 u26 u27 u28 u29 u30 x31 x32 Lx x N) (a := 0) (b := k_ip Lx D) ib.1 (fun _ N O e6 pg => ?_) (fun x x0 x1 ih _ N O e6 pg => ?_) (Int.le_refl _) M (fun _ _ _ _ _ => rfl) (by omega) (fun p a b => by omega)
  · have e2 : N 76 0 2 = D := by rw [O _ _ _ (by omega) (by omega)]; exact hD.1
    refine w269_814 hS ⟨⟨by omega, by omega⟩, ?_⟩
    rw [e2]
    exact ⟨k_ip_q hD.2 ⟨ib.1, by omega⟩, fun z => absurd ((k_ip_iff hD.2).mp z) (Int.lt_irrefl _), fun _ => K N O e6 pg _ _⟩
  · have e2 : N 76 0 2 = D := by rw [O _ _ _ (by omega) (by omega)]; exact hD.1
    refine w269_814 hS ⟨⟨by omega, by omega⟩, ?_⟩
    rw [e2]
    refine ⟨k_ip_q hD.2 ⟨x0, by omega⟩, fun _ => L203 hS ⟨by decide, by decide⟩ ⟨by decide, by decide⟩ ⟨by decide, by decide⟩ ⟨by decide, by decide⟩ ⟨by decide, by decide⟩ ⟨by decide, by decide⟩ ⟨by decide, by decide⟩ ⟨by decide, by decide⟩ ⟨by omega, by omega⟩ (fun N1 O1 v6 v74 v75 => ⟨⟨by omega, by omega⟩, ?_⟩), fun z => absurd ((k_ip_iff hD.2).mpr x1) z⟩
    refine ih (by omega) N1 (fun k o s q1 q2 => by rw [O1 k o s q1 (by omega)]; exact O k o s q1 q2) (by omega) (fun p a b => ?_)
    by_cases e : p = la + x + 1
    · rw [e, ← e6, v74, v75]; exact ⟨rfl, rfl⟩
    · rw [O1 74 _ _ (by omega) (by omega), O1 75 _ _ (by omega) (by omega)]; exact pg p a (by omega)
variable {B : pT} {n : Int}
theorem c_comp_W {ob : Prop} {Bo : pT} {Ro R : c_R} {p0 res set' cnt : Int} {at' wd W : Int → Int} (hB2 : c_ok2 B) (h : c_comp B ob Bo Ro p0 at' wd W R res set' cnt) : k_W B W := by
  rcases h with ⟨Rq, r, hr, hch, hgo, hf, rfl, rfl, rfl, rfl, rfl⟩ | ⟨Rq, n, v, hn, hch, hgo, hf, hv, hv2, rfl, out, rfl, rfl, rfl⟩
  · exact k_W_q hB2
  · refine k_W_w hB2 ?_
    unfold c_first at hf
    rw [show n - 1 + 1 = n by omega] at hf
    rcases hf with hf | hf
    · rw [if_pos (by omega)]; omega
    · rw [if_neg (by omega)]; omega
/-- breaks by what class and law hold -/
theorem k_brk_W {W : Int → Int} {N : qM} (hB : c_ok B) (h : k_brk B (fun _ => B 8 0) (fun y => B 6 y + W y) M) (f65 : ∀ it, N 65 0 it = M 65 0 it) (f66 : ∀ it, N 66 0 it = M 66 0 it) (bw : c_brkW B W N) : k_brk B (fun x => N 5 (1 + x) 8) (fun y => N 36 (1 + y / 20) (y % 20)) N := fun it a b r q => by
  have t := h it a b r q
  have xx := k_x_p ⟨a, b⟩
  have real : k_x it % 10 < B 0 (k_x it / 10) := by rw [xx.2.1, xx.2.2.1]; exact r
  have z := bw (k_x it) xx.1.1 xx.1.2 real q
  have n20 := hB.2.1 (k_x it)
  have ey : ∀ j : Int, 0 ≤ j → j < B 3 (k_x it) → N 36 (1 + k_y it j / 20) (k_y it j % 20) = B 6 (k_y it j) + W (k_y it j) := fun j a b => by
    have e1 : k_y it j / 20 = k_x it := by unfold k_y; omega
    have e2 : k_y it j % 20 = j := by unfold k_y; omega
    rw [e1, e2, z.2 j a b]
    rfl
  show N 65 0 it / 65536 = N 5 (1 + k_x it) 8 ∧ (N 5 (1 + k_x it) 8 ≠ 0 → kU (N 66 0 it) = kP 4 (fun j => (N 36 (1 + k_y it j / 20) (k_y it j % 20)).toNat) (B 3 (k_x it)).toNat ∧ ∀ j, 0 ≤ j → j < B 3 (k_x it) → 0 ≤ N 36 (1 + k_y it j / 20) (k_y it j % 20) ∧ N 36 (1 + k_y it j / 20) (k_y it j % 20) ≤ 15)
  rw [f65, f66, z.1]
  refine ⟨t.1, fun nz => ⟨?_, fun j a b => by rw [ey j a b]; exact (t.2 nz).2 j a b⟩⟩
  rw [(t.2 nz).1]
  refine kP_cg (fun i hi => ?_)
  show (B 6 (k_y it i) + W (k_y it i)).toNat = _
  rw [ey i (by omega) (by omega)]
theorem k_712 {u : Nat} (hu : k_h u h) (ha : l_all n B M) (hx : x31 = 0 ∨ x31 = 1) (h5 : x31 ≠ 0 → M 76 0 5 ≠ 0) (HE : ∀ h' N, k_h (u + 900) h' → f 1 h' N)
    (H1 : ∀ h' N en W R L, k_h (u + 900) h' → l_all n B N → l_ask B en W R L N → N 10 0 13 = 1 → ∀ u26 u27 u28 u31 u32 u33 u34, b269_1234 d h' sc f x25 u26 u27 u28 1 1 u31 u32 u33 u34 N)
    (H0 : ∀ h' N, k_h (u + 900) h' → l_all n B N → N 10 0 13 = 0 → ∀ u26 u27 u28 u31 u32 u33 u34, b269_1234 d h' sc f x25 u26 u27 u28 1 0 u31 u32 u33 u34 N) (u26 u27 u28 u29 u30 u32 u33 u34 : qV) : b269_712 d h sc f x25 u26 u27 u28 u29 u30 x31 u32 u33 u34 M := by
  obtain ⟨⟨b1, ⟨b2, b3, b4⟩, ⟨b5, b6⟩, b7, b8, b9⟩, hm, hp⟩ := ha
  have hS := hu.1
  have hB := b1.2.1.1.1
  have hB2 := b1.2.1.1.2
  have pb := c_p0_b hB
  have hp0 : 0 ≤ c_p0 B ∧ c_p0 B ≤ 100 := ⟨pb.2.2.1, by omega⟩
  have hD := hB.2.2.2.2.2.2.2.1
  have key : ∀ (Bo : pT) (Wo : Int → Int) (Ro : c_R) (Lo e' : Int), (M 10 0 9 = 0 ∨ z_pp B Bo Wo Ro Lo e' M) → ((¬ (x31 ≠ 0) ∧ x31 = 0) ∨ (x31 ≠ 0 ∧ x31 ≠ 0 ∧ k_om B Bo Ro M ∧ ∀ L E, c_oldok B L E Bo Ro)) → ¬ (x31 ≠ 0 ∧ M 10 0 9 = 0) → (∀ N, (M 10 0 9 = 0 ∨ z_pp B Bo Wo Ro Lo e' N) → N 10 0 9 = M 10 0 9 → N 76 0 5 = M 76 0 5 → (∀ (k : Nat) (s : Int), (80 ≤ k ∧ k ≤ 86) ∨ (k = 76 ∧ 33 ≤ s ∧ s ≤ 41) → N k 0 s = M k 0 s) → (∀ it, 0 ≤ it → it < 18 → N 65 0 it / 256 % 256 = M 65 0 it / 256 % 256) → l_pr B N) → b269_712 d h sc f x25 u26 u27 u28 u29 u30 x31 u32 u33 u34 M := by
    intro Bo Wo Ro Lo e' hpr hold no prN
    have ex := v159 hS b1 hpr no
    refine w269_712 hS (L215x hu hB hB2 b3 b4 b2 hold b5 b6 ex (fun v h1 M1 hu1 fL E1 v66 b61 hc hn x5 hx5 M2 f2 => ?_))
    have hS1 := hu1.1
    have e26 : M2 76 0 6 = M1 76 0 6 := by rw [f2, qU_l (by decide)]
    have big : ∀ u', u' ≤ u + 900 → ∀ h', k_h u' h' → k_h (u + 900) h' := fun u' q h' z => k_h_up z q
    rw [e26]
    refine ⟨fun le => ⟨⟨by omega, by omega⟩, fun M3 f3 => ?_⟩, fun _ => HE h1 M2 (k_h_up hu1 (by omega))⟩
    have O3 : ∀ (k : Nat) (o s : Int), ¬ (k = 76 ∧ o = 0 ∧ (s = 4 ∨ s = 28)) → M3 k o s = M1 k o s := fun k o s q => by rw [f3, f2]; unfold qU; rw [if_neg (by omega), if_neg (by omega)]
    have v4 : M3 76 0 4 = x5 := by rw [f3, qU_l (by decide), f2, qU_s]
    have v28 : M3 76 0 28 = M1 76 0 6 + 1 := by rw [f3, qU_s]
    have lab : ∀ R W res set' cnt, c_comp B (x31 ≠ 0) Bo Ro (c_p0 B) (k_am M) (k_wm M) W R res set' cnt → M1 76 0 6 = c_lal B R := fun R W res set' cnt c => (hc W R res set' cnt c).2.1.2.1
    have bk3 : k_bk B M3 := k_bk_fr E1.1 (fun s => O3 _ _ _ (by omega)) (fun it a b => by rw [O3 _ _ _ (by omega)]; exact ⟨rfl, (E1.1.2.1 it a b).1⟩) (fun s => O3 _ _ _ (by omega)) (O3 _ _ _ (by omega)) (O3 _ _ _ (by omega)) (O3 _ _ _ (by omega))
    have cl3 : ∀ (k : Nat) (o s : Int), k < 64 → M3 k o s = M k o s := fun k o s q => by rw [O3 k o s (by omega)]; exact fL k o s (by omega) (by omega)
    have e78 : ∀ s, M3 78 0 s = M 78 0 s := fun s => by rw [O3 _ _ _ (by omega)]; exact fL _ _ _ (by omega) (by omega)
    -- from the pages of the index on
    have fin : ∀ Lx, (0 ≤ Lx ∧ Lx ≤ 220) → (∀ R W res set' cnt, c_comp B (x31 ≠ 0) Bo Ro (c_p0 B) (k_am M) (k_wm M) W R res set' cnt → Lx = k_L B R (M3 78 0)) → b269_814 d h1 sc f x25 u26 u27 u28 u29 u30 x31 v Lx 0 M3 := by
      intro Lx hLx eLx
      refine k_814 (la := M1 76 0 6) (D := B 8 1) hS1 ⟨bk3.2.2.2.2.1, hD⟩ ⟨b61.1, le⟩ hLx (O3 _ _ _ (by omega)) (fun M4 O4 v46 pg u33 u34 => ?_)
      have cl4 : ∀ (k : Nat) (o s : Int), k < 64 → M4 k o s = M k o s := fun k o s q => by rw [O4 k o s (by omega) (by omega)]; exact cl3 k o s q
      have zf : z_fr M M4 := fun k o s _ q => cl4 k o s q
      have ea : k_am M4 = k_am M := funext fun x => cl4 5 _ _ (by decide)
      have ew : k_wm M4 = k_wm M := funext fun y => cl4 36 _ _ (by decide)
      have pr4 : M4 10 0 9 = 0 ∨ z_pp B Bo Wo Ro Lo e' M4 := by
        rcases hpr with z | z
        · exact Or.inl (by rw [cl4 _ _ _ (by decide)]; exact z)
        · exact Or.inr (z_pp_fr zf z)
      have no4 : ¬ (x31 ≠ 0 ∧ M4 10 0 9 = 0) := by rw [cl4 10 _ _ (by decide)]; exact no
      -- the law's memory from then on
      have lw : ∀ (k : Nat) (o s : Int), 64 ≤ k → ¬ (87 ≤ k ∧ k ≤ 97) → ¬ (o = 0 ∧ ((k = 76 ∧ (s = 4 ∨ s = 6 ∨ s = 8 ∨ s = 9 ∨ (10 ≤ s ∧ s ≤ 32))) ∨ (65 ≤ k ∧ k ≤ 75))) → M4 k o s = M k o s := fun k o s q1 q2 q3 => by
        rw [O4 k o s (by omega) (by omega), O3 k o s (by omega)]; exact fL k o s q2 (by omega)
      have e65 : ∀ it, M4 65 0 it = M1 65 0 it := fun it => by rw [O4 _ _ _ (by omega) (by omega), O3 _ _ _ (by omega)]
      have e66 : ∀ it, M4 66 0 it = M1 66 0 it := fun it => by rw [O4 _ _ _ (by omega) (by omega), O3 _ _ _ (by omega)]
      have s65 : ∀ it, 0 ≤ it → it < 18 → M4 65 0 it / 256 % 256 = M 65 0 it / 256 % 256 := fun it a b => by
        have := E1.2.2.2 it a b
        have e : M1 65 0 it % 65536 = M 65 0 it % 65536 := this
        rw [e65]; omega
      -- what holds in both cases behind the class' compose
      have both : ∀ (N : qM) (en : Int) (W : Int → Int), fr104 en M4 N → z_cl n B N → (M4 10 0 9 = 0 ∨ z_pp B Bo Wo Ro Lo e' N) → c_brkW B W N → k_brk B (fun _ => B 8 0) (fun y => B 6 y + W y) M1 → l_bs n B N ∧ l_pr B N := by
        intro N en W fr zc pr bw br
        have l64 : ∀ (k : Nat) (o s : Int), 64 ≤ k → N k o s = M4 k o s := fun k o s q => fr k o s (Or.inl q)
        refine ⟨⟨zc, ⟨k_bk_fr bk3 (fun s => by rw [l64 _ _ _ (by decide)]; exact O4 _ _ _ (by omega) (by omega)) (fun it a b => by rw [l64 _ _ _ (by decide), O4 _ _ _ (by omega) (by omega)]; exact ⟨rfl, (bk3.2.1 it a b).1⟩) (fun s => by rw [l64 _ _ _ (by decide)]; exact O4 _ _ _ (by omega) (by omega)) (by rw [l64 _ _ _ (by decide)]; exact O4 _ _ _ (by omega) (by omega)) (by rw [l64 _ _ _ (by decide)]; exact O4 _ _ _ (by omega) (by omega)) (by rw [l64 _ _ _ (by decide)]; exact O4 _ _ _ (by omega) (by omega)), b3, b4⟩, ⟨fun it a b => by rw [l64 _ _ _ (by decide), e66]; exact v66 it a b, k_brk_W hB br (fun it => by rw [l64 _ _ _ (by decide)]; exact e65 it) (fun it => by rw [l64 _ _ _ (by decide)]; exact e66 it) bw⟩, ⟨?_, fun w a b => ?_⟩, fun t a b => ?_, fun it a b => ?_, fun x a b r q => ?_⟩, ?_⟩
        · rw [l64 _ _ _ (by decide), lw _ _ _ (by decide) (by omega) (by omega), fr 5 _ 2 (by omega), cl4 _ _ _ (by decide)]; exact b7.1
        · rw [fr 5 _ 2 (by omega), cl4 _ _ _ (by decide)] at b
          rw [l64 _ _ _ (by decide), lw _ _ _ (by decide) (by omega) (by omega), fr 32 _ _ (by omega), fr 33 _ _ (by omega), fr 34 _ _ (by omega), cl4 _ _ _ (by decide), cl4 _ _ _ (by decide), cl4 _ _ _ (by decide)]; exact b7.2 w a b
        · rw [l64 _ _ _ (by decide), lw _ _ _ (by decide) (by omega) (by omega), fr 63 _ _ (by omega), cl4 _ _ _ (by decide)]; exact b8 t a b
        · rw [l64 _ _ _ (by decide), s65 it a b]; exact b9.1 it a b
        · have := (bw x a b r q).1
          have := hB.2.2.2.2.2.2.1
          omega
        · refine prN N ?_ ?_ ?_ (fun k s q => ?_) (fun it a b => by rw [l64 _ _ _ (by decide)]; exact s65 it a b)
          · rcases pr with z | z
            · exact Or.inl (by rw [← cl4 10 0 9 (by decide)]; exact z)
            · exact Or.inr z
          · rw [fr 10 _ 9 (by omega), cl4 _ _ _ (by decide)]
          · rw [l64 _ _ _ (by decide)]; exact lw _ _ _ (by decide) (by omega) (by omega)
          · rw [l64 k _ _ (by omega)]; exact lw _ _ _ (by omega) (by omega) (by omega)
      have eo : (x31 ≠ 0) = (x31 ≠ 0) := rfl
      refine w269_852 hS1 (C159 hS1 (z_cl_fr zf b1) pr4 (fun z1 z2 => absurd ⟨z1, z2⟩ no4) (fun _ N en W R res set' cnt L fr zc zx z13 pr comp bw s10 s9 x105 hx105 x107 hx107 => ?_) (fun _ N en W fr zc z13 pr nc bw x105 hx105 x107 hx107 => ?_))
      · rw [ea, ew] at comp
        obtain ⟨c1, c2, c3, c4, c5⟩ := hc W R res set' cnt comp
        have la := lab R W res set' cnt comp
        have rp := (c_comp_out comp).2.1
        have out := (c_comp_out comp).1
        rw [if_pos c1.symm] at hx105
        rw [if_neg (by omega)] at hx107
        rw [hx105, hx107]
        obtain ⟨r1, r2⟩ := both N en W fr zc pr bw c5
        have l64 : ∀ (k : Nat) (o s : Int), 64 ≤ k → N k o s = M4 k o s := fun k o s q => fr k o s (Or.inl q)
        have hG : ∀ y, 0 ≤ y → y < 600 → c_there B y → c_G B R y ≤ 61 := fun y a b c => by have := (k_G_la hB out ⟨a, b⟩ c).2; omega
        have eL : Lx = L := by
          rw [eLx R W res set' cnt comp, k_L_x (n := N 27 0) (a := fun t => N 29 t) (b := fun t => N 31 t) (fun t p t0 t1 ⟨y, hy, k4, _, g⟩ => by
            have th : c_there B y := c_K_there (by omega)
            have := hG y hy.1 hy.2 th
            omega) (fun t t0 t1 => (z_iv hB zx ⟨t0, t1⟩).1), zx.2.2.2.2.1.2.2.2.2.2.2.2]
          unfold x_L
          refine p_sum_cg (by decide) (fun t a b => ?_)
          show (N 27 0 t + 2) / 3 + (if M3 78 0 t - 1 < 0 then 0 else 1) = (N 27 0 t + 2) / 3 + (if N 63 0 t < 0 then 0 else 1)
          rw [e78, b8 t a b, show N 63 0 t = M 63 0 t by rw [fr 63 _ _ (by omega), cl4 _ _ _ (by decide)], show M 63 0 t + 1 - 1 = M 63 0 t by omega]
        have etot : c_tot B R L = M1 76 0 6 + k_ip Lx (B 8 1) := by rw [eL, la]; rfl
        have ib := k_ip_b (D := B 8 1) hD hLx
        have here : k_here B R N := fun c c0 c3' => by
          have sz := (k_szA hB b3 out.1 (c := c) ⟨c0, c3'⟩).1
          have fl := fun q => c_fi_la hB out ⟨c0, c3'⟩ q
          refine k_cm_fr ⟨c0, c3'⟩ (fun n => ⟨sz.2.2.2.1, sz.2.2.2.2, B 8 1, ((out.2 c c0 c3').1.2 n).2.2⟩) (c2.1 c c0 c3') (fun s a b => ?_) (fun s a b => ?_) (fun s a b => ?_) (fun s a => ?_) (fun k p n hk p1 p2 => ?_)
          · rw [l64 _ _ _ (by decide), O4 _ _ _ (by omega) (by omega), O3 _ _ _ (by omega)]
          · rw [l64 _ _ _ (by decide), O4 _ _ _ (by omega) (by omega), O3 _ _ _ (by omega)]
          · rw [l64 _ _ _ (by decide), O4 _ _ _ (by omega) (by omega), O3 _ _ _ (by omega)]
          · rw [l64 _ _ _ (by decide), O4 _ _ _ (by omega) (by omega), O3 _ _ _ (by omega)]
          · have := fl n
            rw [l64 _ _ _ (by omega), O4 _ _ _ (by omega) (by omega), O3 _ _ _ (by omega)]
        have as : k_as B en W R L N := ⟨⟨⟨zc.2.1, Or.inr z13, fun _ => zx⟩, by omega⟩, ⟨b3, b4, c_comp_W hB2 comp⟩, r1.2.1.1, fun it a b => by
          rw [l64 _ _ _ (by decide), O4 _ _ _ (by omega) (by omega), O3 _ _ _ (by omega)]; exact E1.2.1 it a b, fun it w a b e g => by
          rw [l64 _ _ _ (by decide), O4 _ _ _ (by omega) (by omega), O3 _ _ _ (by omega)]; exact c3 it w a b e g, here, fun c a b q => by
          have := c_fi_la hB out ⟨a, b⟩ q
          omega⟩
        have all : k_all B R L N := by
          refine ⟨⟨by rw [l64 _ _ _ (by decide), v46, etot], by omega⟩, fun p a b => ?_, fun p a b => ?_⟩
          · have b' : p ≤ c_lal B R := b
            have e : ∀ k, k = 74 ∨ k = 75 → N k 0 p = M1 k 0 p := fun k q => by rw [l64 _ _ _ (by omega), O4 _ _ _ (by omega) (by omega), O3 _ _ _ (by omega)]
            rw [e 74 (Or.inl rfl), e 75 (Or.inr rfl)]
            exact c2.2.2 p a b
          · rw [l64 _ _ _ (by decide), l64 _ _ _ (by decide)]
            exact pg p (by omega) (by omega)
        have a28 : N 76 0 28 = c_lal B R + 1 := by rw [l64 _ _ _ (by decide), O4 _ _ _ (by omega) (by omega), v28, la]
        have a4 : N 76 0 4 = 1 := by rw [l64 _ _ _ (by decide), O4 _ _ _ (by omega) (by omega), v4, hx5, if_neg (by omega)]
        have l40 : c_lal B R ≤ 40 := by omega
        refine H1 h1 N en W R L (k_h_up hu1 (by omega)) ⟨r1, Or.inr ⟨z13, a4, en, W, R, L, as, all, l40⟩, r2⟩ ⟨as, all, l40, a28, ?_, ?_⟩ z13 _ _ _ _ _ _ _
        · rw [l64 _ _ _ (by decide), O4 _ _ _ (by omega) (by omega), O3 _ _ _ (by omega), c4.2, s9]
        · rw [l64 _ _ _ (by decide), O4 _ _ _ (by omega) (by omega), O3 _ _ _ (by omega), c4.1, s10]
      · obtain ⟨c1, c5⟩ := hn W nc
        rw [if_pos c1.symm] at hx105
        rw [if_pos (by omega)] at hx107
        rw [hx105, hx107]
        obtain ⟨r1, r2⟩ := both N en W fr zc pr bw c5
        have l64 : ∀ (k : Nat) (o s : Int), 64 ≤ k → N k o s = M4 k o s := fun k o s q => fr k o s (Or.inl q)
        have a4 : N 76 0 4 = 0 := by rw [l64 _ _ _ (by decide), O4 _ _ _ (by omega) (by omega), v4, hx5, if_pos (by omega)]
        exact H0 h1 N (k_h_up hu1 (by omega)) ⟨r1, Or.inl ⟨z13, a4⟩, r2⟩ z13 _ _ _ _ _ _ _
    refine ⟨fun v0 => fin 0 ⟨by decide, by decide⟩ (fun R W res set' cnt c => ?_), fun v0 => ?_⟩
    · have := (hc W R res set' cnt c).1
      have := (c_comp_out c).2.1
      omega
    · have ex2 : ∃ R, ∃ W res set' cnt, c_comp B (x31 ≠ 0) Bo Ro (c_p0 B) (k_am M) (k_wm M) W R res set' cnt := by
        rcases ex with ⟨W, R, res, set', cnt, c⟩ | ⟨W, c⟩
        · exact ⟨R, W, res, set', cnt, c⟩
        · have := (hn W c).1
          omega
      refine L218x (P := fun R => ∃ W res set' cnt, c_comp B (x31 ≠ 0) Bo Ro (c_p0 B) (k_am M) (k_wm M) W R res set' cnt) hS1 hB hB2 b3 bk3 hp0 (fun R ⟨W, res, set', cnt, hcc⟩ => ?_) ex2 (fun Lx eLx => fin Lx ?_ (fun R W res set' cnt c => eLx R ⟨W, res, set', cnt, c⟩))
      · have out := (c_comp_out hcc).1
        have la := lab R W res set' cnt hcc
        refine ⟨⟨W, _, _, _, out⟩, fun c c0 c3' => ?_, fun y a b t => by have := (k_G_la hB out ⟨a, b⟩ t).2; omega⟩
        have sz := (k_szA hB b3 out.1 (c := c) ⟨c0, c3'⟩).1
        exact k_cm_fr ⟨c0, c3'⟩ (fun n => ⟨sz.2.2.2.1, sz.2.2.2.2, B 8 1, ((out.2 c c0 c3').1.2 n).2.2⟩) ((hc W R res set' cnt hcc).2.1.1 c c0 c3') (fun s a b => O3 _ _ _ (by omega)) (fun s a b => O3 _ _ _ (by omega)) (fun s a b => O3 _ _ _ (by omega)) (fun s a => O3 _ _ _ (by omega)) (fun k p n hk p1 p2 => O3 _ _ _ (by omega))
      · obtain ⟨R0, c0⟩ := ex2
        rw [eLx R0 c0]
        have lb : ∀ t, 0 ≤ k_ln B R0 (M3 78 0) t ∧ k_ln B R0 (M3 78 0) t ≤ 22 := fun t => by
          have := k_runs_b (on := x_on (c_K B) (B 5) (c_G B R0) t 600)
          unfold k_ln
          split <;> omega
        have sb := p_sum_bd (g := k_ln B R0 (M3 78 0)) (b := 22) (n := 10) lb (by decide)
        unfold k_L
        omega
  rcases hp with ⟨p1, p2⟩ | ⟨p1, Bo, Wo, Ro, Lo, e', N0, p2, p3, p4, p5⟩
  · have x0 : x31 = 0 := Classical.byContradiction fun z => h5 z p2
    refine key B (fun _ => 0) (default : c_R) 0 0 (Or.inl p1) (Or.inl ⟨fun z => z x0, x0⟩) (fun z => z.1 x0) (fun N hz h9 e5 f65 s65 => Or.inl ⟨by rw [h9]; exact p1, by rw [e5]; exact p2⟩)
  · have e9 := p2.1
    refine key Bo Wo Ro Lo e' (Or.inr p2) ?_ (fun z => by omega) (fun N hz h9 e5 ff s65 => Or.inr ⟨by rw [e5]; exact p1, Bo, Wo, Ro, Lo, e', N0, ?_, k_om_fr b3 p3 (fun k s q => ff k s (by omega)) s65, l_cp_fr p4 (fun k s q => ff k s (by omega)), fun c i a b c' d => ?_⟩)
    · by_cases z : x31 = 0
      · exact Or.inl ⟨fun y => y z, z⟩
      · exact Or.inr ⟨z, z, p3, z_pp_old hB p2⟩
    · rcases hz with z | z
      · omega
      · exact z
    · have l6 := b3.1 c a b
      have n6 := p2.2.2.2.2.2.1.1 c a b
      rw [s65 _ (by omega) (by omega), ff 82 _ (by omega)]; exact p5 c i a b c' d
end
