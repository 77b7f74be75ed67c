/-! ===== the law breaks what has to be broken ===== -/
def k_brk (B : pT) (at' wd : Int → Int) (M : qM) : Prop := ∀ it, 0 ≤ it → it < 18 → it % 6 < B 0 (it / 6) → B 1 (k_x it) = 0 → M 65 0 it / 65536 = at' (k_x it) ∧ (at' (k_x it) ≠ 0 → kU (M 66 0 it) = kP 4 (fun j => (wd (k_y it j)).toNat) (B 3 (k_x it)).toNat ∧ ∀ j, 0 ≤ j → j < B 3 (k_x it) → 0 ≤ wd (k_y it j) ∧ wd (k_y it j) ≤ 15)
def k_v66 (M : qM) : Prop := ∀ it, 0 ≤ it → it < 18 → qIl (M 66 0 it)
theorem k_bk_fr {B : pT} {M M' : qM} (h : k_bk B M) (h77 : ∀ s, M' 77 0 s = M 77 0 s) (h65 : ∀ it, 0 ≤ it → it < 18 → M' 65 0 it % 65536 = M 65 0 it % 65536 ∧ 0 ≤ M' 65 0 it ∧ M' 65 0 it ≤ 2147483647) (h64 : ∀ s, M' 64 0 s = M 64 0 s) (h1 : M' 76 0 1 = M 76 0 1) (h2 : M' 76 0 2 = M 76 0 2) (h3 : M' 76 0 3 = M 76 0 3) : k_bk B M' := by
  obtain ⟨b1, b2, b3, b4, b5, b6⟩ := h
  refine ⟨fun c a b => by rw [h77]; exact b1 c a b, fun it a b => ?_, fun it w a b e g => ?_, by rw [h1]; exact b4, by rw [h2]; exact b5, by rw [h3]; exact b6⟩
  · have h := h65 it a b
    obtain ⟨x1, x2, x3, x4⟩ := b2 it a b
    exact ⟨h.2, by omega, by omega, fun z => by have := x4 z; omega⟩
  · unfold k_cd
    rw [h64]
    exact b3 it w a b e g
section
variable {d : Nat} {h : qH} {f : Int → qH → qM → Prop} {B : pT} {W at' wd : Int → Int} {M : qM}
/-- the width of a word -/
theorem k_wide (hB : c_ok B) (hB2 : c_ok2 B) (hl : k_lim B) (hbk : k_bk B M) (ho : k_off B M) (he : k_e 68 B W M) (hW : k_W B W) {it j : Int} (h18 : 0 ≤ it ∧ it < 18) (hj : 0 ≤ j ∧ j < B 3 (k_x it)) : (0 ≤ B 6 (k_y it j) + W (k_y it j) ∧ B 6 (k_y it j) + W (k_y it j) ≤ 15) ∧ k_cd M it j % 16 + M 68 0 (M 67 0 it + j) = B 6 (k_y it j) + W (k_y it j) ∧ (0 ≤ M 67 0 it + j ∧ M 67 0 it + j < 64) ∧ 0 ≤ M 68 0 (M 67 0 it + j) ∧ M 68 0 (M 67 0 it + j) ≤ 1000 := by
  obtain ⟨t1, t2, t3, t4, t5⟩ := k_there hB2 h18 hj hB
  have o := ho it h18.1 (by omega)
  have e := he it j h18.1 h18.2 hj.1 hj.2
  have w := hW _ t1.1 t1.2 t2
  have cd := hbk.2.2.1 it j h18.1 h18.2 hj.1 hj.2
  have b6 := hB.2.2.2.2.2.1 (k_y it j)
  have b4 := hB.2.2.2.2.1 (k_y it j) t1.1 t1.2 t2
  have b5 := hB.2.2.2.1 (k_y it j)
  have l6 := hl.2.2 (k_y it j) t1.1 t1.2 t2
  have ob := k_O_b hB hB2 hl (it + 1) (by omega) (by omega)
  have ob0 := k_O_b hB hB2 hl it (by omega) (by omega)
  have os := k_O_s (B := B) h18.1
  rw [o, e, cd]
  have sm : 0 ≤ B 6 (k_y it j) + W (k_y it j) ∧ B 6 (k_y it j) + W (k_y it j) ≤ 15 := by
    by_cases z : B 4 (k_y it j) = 6
    · have := l6 z; omega
    · have := w.2 z; omega
  exact ⟨sm, by omega, ⟨by omega, by omega⟩, by omega, by omega⟩
theorem k_102 (hS : qSe h) {kp : Int} {u2 u16 u17 : qV} (hB : c_ok B) (hB2 : c_ok2 B) (hl : k_lim B) (hbk : k_bk B M) (ho : k_off B M) (he : k_e 68 B W M) (hW : k_W B W) (hbr : k_brk B at' wd M) (hv : k_v66 M) (h9 : 0 ≤ M 76 0 9 ∧ M 76 0 9 ≤ 900000)
    (H : ∀ M', (∀ (k : Nat) (o s : Int), ¬ ((k = 65 ∨ k = 66) ∧ o = 0) → ¬ (k = 76 ∧ o = 0 ∧ s = 9) → M' k o s = M k o s) → k_bk B M' → (∀ it, 0 ≤ it → it < 18 → M' 65 0 it % 65536 = M 65 0 it % 65536) → k_brk B (fun _ => B 8 0) (fun y => B 6 y + W y) M' → k_v66 M' → M' 76 0 9 = M 76 0 9 + p_sum (c_rg B at' wd W) 30 → ∀ u2 u16 u17 u19 : qV, b208_140 d h f u2 kp u16 u17 0 u19 M') (u16 u17 u19 : qV) : b208_102 d h f kp u16 u17 0 u19 M := by
  have W8 := hB.2.2.2.2.2.2.1
  have rgb : ∀ x, 0 ≤ c_rg B at' wd W x ∧ c_rg B at' wd W x ≤ 1 := fun x => c_rg_b x
  have fin : ∀ (M1 : qM) (u19 : qV), (∀ (k : Nat) (o s : Int), ¬ ((k = 65 ∨ k = 66) ∧ o = 0 ∧ 0 ≤ s ∧ s < 18) → ¬ (k = 76 ∧ o = 0 ∧ s = 9) → M1 k o s = M k o s) → (∀ i, 0 ≤ i → i < 18 → M1 65 0 i % 65536 = M 65 0 i % 65536 ∧ 0 ≤ M1 65 0 i ∧ M1 65 0 i ≤ 2147483647) → (∀ i, 0 ≤ i → i < 18 → i % 6 < B 0 (i / 6) → B 1 (k_x i) = 0 → M1 65 0 i / 65536 = B 8 0 ∧ kU (M1 66 0 i) = kP 4 (fun j => (B 6 (k_y i j) + W (k_y i j)).toNat) (B 3 (k_x i)).toNat) → k_v66 M1 → M1 76 0 9 = M 76 0 9 + p_sum (fun i => c_rg B at' wd W (k_x i)) 18 → b208_102 d h f kp u16 u17 18 u19 M1 := by
    intro M1 u19 O1 lo done v66 e9
    refine w208_102 hS ⟨fun z => absurd z (by decide), fun _ => H M1 (fun k o s z1 z2 => O1 k o s (fun y => z1 ⟨y.1, y.2.1⟩) z2) (k_bk_fr hbk (fun s => O1 _ _ _ (by omega) (by omega)) lo (fun s => O1 _ _ _ (by omega) (by omega)) (O1 _ _ _ (by omega) (by omega)) (O1 _ _ _ (by omega) (by omega)) (O1 _ _ _ (by omega) (by omega))) (fun i a b => (lo i a b).1) (fun i a b r q => ⟨(done i a b r q).1, fun _ => ⟨(done i a b r q).2, fun j j0 j1 => (k_wide hB hB2 hl hbk ho he hW ⟨a, b⟩ ⟨j0, j1⟩).1⟩⟩) v66 ?_ _ _ _ _⟩
    rw [e9, k_sum18 (g := c_rg B at' wd W) (fun x x0 x1 x6 => ?_)]
    have := (hl.1 (x / 10) (by omega) (by omega)).1
    unfold c_rg
    rw [if_neg (by omega)]
  have loop : ∀ (t : Nat) (it : Int) (M1 : qM) (u19 : qV), 18 - it ≤ t → (0 ≤ it ∧ it ≤ 18) → (∀ (k : Nat) (o s : Int), ¬ ((k = 65 ∨ k = 66) ∧ o = 0 ∧ 0 ≤ s ∧ s < it) → ¬ (k = 76 ∧ o = 0 ∧ s = 9) → M1 k o s = M k o s) → (∀ i, 0 ≤ i → i < it → M1 65 0 i % 65536 = M 65 0 i % 65536 ∧ 0 ≤ M1 65 0 i ∧ M1 65 0 i ≤ 2147483647) → (∀ i, 0 ≤ i → i < it → i % 6 < B 0 (i / 6) → B 1 (k_x i) = 0 → M1 65 0 i / 65536 = B 8 0 ∧ kU (M1 66 0 i) = kP 4 (fun j => (B 6 (k_y i j) + W (k_y i j)).toNat) (B 3 (k_x i)).toNat) → k_v66 M1 → M1 76 0 9 = M 76 0 9 + p_sum (fun i => c_rg B at' wd W (k_x i)) it → b208_102 d h f kp u16 u17 it u19 M1 := by
    intro t
    induction t with
    | zero =>
      intro it M1 u19 ht hit O1 l65 done v66 e9
      have e18 : it = 18 := by omega
      subst e18
      exact fin M1 u19 O1 l65 done v66 e9
    | succ t ih =>
      intro it M1 u19 ht hit O1 l65 done v66 e9
      by_cases e18 : it = 18
      · subst e18
        exact fin M1 u19 O1 l65 done v66 e9
      have h18 : 0 ≤ it ∧ it < 18 := ⟨hit.1, by omega⟩
      have bk1 : k_bk B M1 := by
        refine k_bk_fr hbk (fun s => O1 _ _ _ (by omega) (by omega)) (fun i a b => ?_) (fun s => O1 _ _ _ (by omega) (by omega)) (O1 _ _ _ (by omega) (by omega)) (O1 _ _ _ (by omega) (by omega)) (O1 _ _ _ (by omega) (by omega))
        by_cases z : i < it
        · exact l65 i a z
        · rw [O1 _ _ _ (by omega) (by omega)]; exact ⟨rfl, (hbk.2.1 i a b).1⟩
      have ho1 : k_off B M1 := fun i a b => by rw [O1 _ _ _ (by omega) (by omega)]; exact ho i a b
      have he1 : k_e 68 B W M1 := fun i w a b e g => by rw [O1 _ _ _ (by omega) (by omega)]; exact he i w a b e g
      have e65 : M1 65 0 it = M 65 0 it := O1 _ _ _ (by omega) (by omega)
      have e66 : M1 66 0 it = M 66 0 it := O1 _ _ _ (by omega) (by omega)
      have x := k_x_p h18
      have n3 := hB.2.1 (k_x it)
      have l15 := hl.2.1 (k_x it) x.1.1 x.1.2
      have bt := bk1.2.1 it h18.1 h18.2
      have ss := p_sum_s (g := fun i => c_rg B at' wd W (k_x i)) h18.1
      have sb := p_sum_bd (g := fun i => c_rg B at' wd W (k_x i)) (b := 1) (n := it) (fun i => rgb _) h18.1
      have xr : k_x it % 10 < B 0 (k_x it / 10) ↔ it % 6 < B 0 (it / 6) := by rw [x.2.1, x.2.2.1]
      have skip : c_rg B at' wd W (k_x it) = 0 → (it % 6 < B 0 (it / 6) → B 1 (k_x it) = 0 → M1 65 0 it / 65536 = B 8 0 ∧ kU (M1 66 0 it) = kP 4 (fun j => (B 6 (k_y it j) + W (k_y it j)).toNat) (B 3 (k_x it)).toNat) → ∀ u19, b208_102 d h f kp u16 u17 (it + 1) u19 M1 := fun r0 dn u19 => by
        refine ih (it + 1) M1 u19 (by omega) ⟨by omega, by omega⟩ (fun k o s z1 z2 => O1 k o s (fun y => z1 ⟨y.1, y.2.1, y.2.2.1, by omega⟩) z2) (fun i a b => ?_) (fun i a b r q => ?_) v66 (by rw [ss, r0, e9]; omega)
        · by_cases z : i = it
          · subst z; rw [e65]; exact ⟨rfl, (hbk.2.1 i a (by omega)).1⟩
          · exact l65 i a (by omega)
        · by_cases z : i = it
          · subst z; exact dn r q
          · exact done i a (by omega) r q
      refine w208_102 hS ⟨fun _ => L189 hS h18 ?_, fun z => absurd h18.2 z⟩
      rw [bt.2.1]
      refine ⟨fun none => ⟨⟨by omega, by omega⟩, skip ?_ (fun r q => ?_) _⟩, fun some => ?_⟩
      · unfold c_rg
        by_cases r : k_x it % 10 < B 0 (k_x it / 10)
        · rw [if_pos r, if_neg (fun z => ?_)]
          rcases hB.2.2.1 (k_x it) x.1.1 x.1.2 r with q | q
          · omega
          · omega
        · rw [if_neg r]
      · exfalso
        rcases hB.2.2.1 (k_x it) x.1.1 x.1.2 (xr.mpr r) with q2 | q2
        · omega
        · omega
      · have th := k_there hB2 h18 (w := 0) ⟨Int.le_refl _, by omega⟩ hB
        have real : k_x it % 10 < B 0 (k_x it / 10) := xr.mpr th.2.2.2.2
        have b1 : B 1 (k_x it) = 0 := by
          rcases hB.2.2.1 (k_x it) x.1.1 x.1.2 real with q | q
          · omega
          · exact q.1
        have ww := fun (j : Int) (j0 : 0 ≤ j) (j1 : j < B 3 (k_x it)) => k_wide hB hB2 hl bk1 ho1 he1 hW (it := it) (j := j) h18 ⟨j0, j1⟩
        have br := hbr it h18.1 h18.2 th.2.2.2.2 b1
        have w16 : ∀ (g : Int → Int), (∀ j, 0 ≤ j → j < B 3 (k_x it) → 0 ≤ g j ∧ g j ≤ 15) → ∀ i : Nat, i < (B 3 (k_x it)).toNat → (fun j : Nat => (g j).toNat) i < 2 ^ 4 := fun g hg i hi => by
          have := hg i (by omega) (by omega)
          show (g i).toNat < 2 ^ 4
          omega
        have ey : ∀ j, 20 * k_x it + j = k_y it j := fun j => rfl
        refine L194 hS h18 bt.2.1 l15 bt.1 (v66 it h18.1 h18.2) bk1.2.2.2.1 ⟨by omega, by omega⟩ (by rw [e9]; omega) (w := fun j => B 6 (k_y it j) + W (k_y it j)) ww (fun c1 c2 => ⟨⟨by omega, by omega⟩, skip ?_ (fun _ _ => ⟨by rw [c1], c2⟩) _⟩) (fun no M2 O2 v65 v66' q66 v9 => ⟨⟨by omega, by omega⟩, ?_⟩)
        · have hz : at' (k_x it) = B 8 0 ∧ ∀ j, 0 ≤ j → j < B 3 (k_x it) → wd (20 * k_x it + j) = B 6 (20 * k_x it + j) + W (20 * k_x it + j) := ?hz
          unfold c_rg
          rw [if_pos real, if_neg (fun z => z.2 hz)]
          case hz =>
          rw [e65] at c1
          rw [e66] at c2
          have ea : at' (k_x it) = B 8 0 := by rw [← br.1]; exact c1
          have b2 := br.2 (by rw [ea]; omega)
          refine ⟨ea, fun j j0 j1 => ?_⟩
          rw [ey]
          have inj := kP_inj (w16 (fun j => wd (k_y it j)) b2.2) (w16 (fun j => B 6 (k_y it j) + W (k_y it j)) (fun j a b => (ww j a b).1)) (b2.1.symm.trans c2) j.toNat (by omega)
          have a1 := b2.2 j j0 j1
          have a2 := (ww j j0 j1).1
          have inj2 : (wd (k_y it (j.toNat : Int))).toNat = (B 6 (k_y it (j.toNat : Int)) + W (k_y it (j.toNat : Int))).toNat := inj
          rw [show (j.toNat : Int) = j by omega] at inj2
          omega
        · have r1 : c_rg B at' wd W (k_x it) = 1 := by
            have hz : at' (k_x it) = B 8 0 → (∀ j, 0 ≤ j → j < B 3 (k_x it) → wd (20 * k_x it + j) = B 6 (20 * k_x it + j) + W (20 * k_x it + j)) → M1 65 0 it / 65536 = B 8 0 ∧ kU (M1 66 0 it) = kP 4 (fun j => (B 6 (k_y it j) + W (k_y it j)).toNat) (B 3 (k_x it)).toNat := fun z1 z2 => ?hz2
            unfold c_rg
            rw [if_pos real, if_pos ⟨b1, fun z => no (hz z.1 z.2)⟩]
            case hz2 =>
            rw [e65, e66]
            have b2 := br.2 (by rw [z1]; omega)
            refine ⟨by rw [br.1]; exact z1, b2.1.trans (kP_cg (fun i hi => ?_))⟩
            show (wd (k_y it (i : Int))).toNat = (B 6 (k_y it (i : Int)) + W (k_y it (i : Int))).toNat
            have := z2 i (by omega) (by omega)
            rw [ey] at this
            rw [this]
          have M265 : M2 65 0 it % 65536 = M1 65 0 it % 65536 := by rw [v65]; omega
          refine ih (it + 1) M2 _ (by omega) ⟨by omega, by omega⟩ (fun k o s z1 z2 => ?_) (fun i a b => ?_) (fun i a b r q => ?_) (fun i a b => ?_) (by rw [ss, r1, v9, e9]; omega)
          · rw [O2 k o s (fun y => z1 ⟨y.1, y.2.1, by omega, by omega⟩) z2]
            exact O1 k o s (fun y => z1 ⟨y.1, y.2.1, y.2.2.1, by omega⟩) z2
          · by_cases z : i = it
            · subst z; rw [M265, e65, v65]; exact ⟨rfl, by omega, by omega⟩
            · rw [O2 _ _ _ (by omega) (by omega)]; exact l65 i a (by omega)
          · by_cases z : i = it
            · subst z; exact ⟨by rw [v65]; omega, v66'⟩
            · rw [O2 _ _ _ (by omega) (by omega), O2 _ _ _ (by omega) (by omega)]; exact done i a (by omega) r q
          · by_cases z : i = it
            · subst z; exact q66
            · rw [O2 _ _ _ (by omega) (by omega)]; exact v66 i a b
  exact loop 18 0 M u19 (by decide) ⟨Int.le_refl _, by decide⟩ (fun _ _ _ _ _ => rfl) (fun i a b => by omega) (fun i a b => by omega) hv (by rw [p_sum_0, Int.add_zero])
end
