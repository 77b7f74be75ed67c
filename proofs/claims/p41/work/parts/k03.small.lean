/-! ===== the law's small statics; its rows, items, words ===== -/
def k_x (it : Int) : Int := 10 * (it / 6) + it % 6
def k_cd (M : qM) (it w : Int) : Int := M 64 0 (3 * it + w / 5) / 2 ^ (11 * (w % 5)).toNat % 2048
theorem k_cd_b {M : qM} {it w : Int} : 0 ≤ k_cd M it w ∧ k_cd M it w < 2048 := ⟨Int.emod_nonneg _ (by decide), Int.emod_lt_of_pos _ (by decide)⟩
section
variable {d : Nat} {h : qH} {M : qM} {f : Int → qM → Prop}
theorem L151 (hS : qSe h) {x n : Int} (hn : 0 < n) (H : f (x % 4294967296 / 2 % n) M) : e151 (d + 1) h x n M f :=
  w151 hS ⟨⟨by omega, hn⟩, H⟩
theorem L187 (hS : qSe h) {it w : Int} (h1 : 0 ≤ it ∧ it < 18) (h2 : 0 ≤ w ∧ w < 15) (H : f (k_cd M it w) M) : e187 (d + 1) h it w M f := by
  refine w187 hS ⟨⟨by omega, by omega⟩, by omega, ⟨by omega, by omega⟩, ⟨by omega, by omega⟩, by omega, ⟨by omega, by omega⟩, ⟨by omega, by omega⟩, ?_⟩
  rw [k_l2047, k_wr ⟨by omega, by omega⟩]
  exact H
theorem L188 (hS : qSe h) {x : Int} (H : f (x / 16 % 8) M) : e188 (d + 1) h x M f := w188 hS (by rw [k_a7]; exact H)
theorem L189 (hS : qSe h) {it : Int} (h1 : 0 ≤ it ∧ it < 18) (H : f (M 65 0 it % 32) M) : e189 (d + 1) h it M f := w189 hS ⟨h1, by rw [k_a31]; exact H⟩
theorem L190 (hS : qSe h) {it : Int} (h1 : 0 ≤ it ∧ it < 18) (h2 : 0 ≤ M 65 0 it ∧ M 65 0 it ≤ 2147483647) (H : f (M 65 0 it / 32 % 2) M) : e190 (d + 1) h it M f := by
  refine w190 hS ⟨h1, fun x hx => ?_⟩
  rw [k_a32 h2] at hx
  have e : x = M 65 0 it / 32 % 2 := by rw [hx]; split <;> omega
  rw [e]
  exact ⟨by omega, H⟩
theorem L191 (hS : qSe h) {x : Int} (H : f (b_dg x) M) : e191 (d + 1) h x M f := w191 hS (fun y hy => by rw [hy]; exact H)
theorem L192 (hS : qSe h) {it w : Int} (h1 : 0 ≤ it ∧ it < 18) (h2 : 0 ≤ w ∧ w < 15) (h3 : 0 ≤ M 67 0 it + w ∧ M 67 0 it + w < 64) (h4 : 0 ≤ M 68 0 (M 67 0 it + w) ∧ M 68 0 (M 67 0 it + w) ≤ 1000) (H : f (k_cd M it w % 16 + M 68 0 (M 67 0 it + w)) M) : e192 (d + 2) h it w M f := by
  refine w192 hS (L187 hS h1 h2 ⟨by omega, ⟨by omega, by omega⟩, h3, ?_⟩)
  rw [k_a15]
  exact ⟨⟨by omega, by omega⟩, H⟩
theorem L195 (hS : qSe h) {x : Int} (H : f (x / 16 % 32) M) : e195 (d + 1) h x M f := w195 hS (by rw [k_a31]; exact H)
theorem L196 (hS : qSe h) {x : Int} (H : f (x / 512 % 32) M) : e196 (d + 1) h x M f := w196 hS (by rw [k_a31]; exact H)
theorem L206 (hS : qSe h) {x k m : Int} (hk : 0 ≤ k ∧ k < 31) (H : f (qAnd (x / 2 ^ k.toNat) m) M) : e206 (d + 1) h x k m M f := w206 hS ⟨hk, H⟩
end
/-! rows -/
theorem k_fr {A : pA} {cnt q : Int} (h : p_okA A cnt) (hq : 0 ≤ q ∧ q < p_SR A cnt) : p_FB A (p_ri A q) (p_fr A q) = p_fl A q ∧ p_NB A (p_ri A q) (p_fr A q) = p_nl A q ∧ p_LS A (p_ri A q) (p_fr A q) = p_ls A q := by
  obtain ⟨i, s, hi, hs, e, e1, e2⟩ := p_row_dec h hq
  have it := (h.2.1 i hi.1 hi.2).2
  by_cases s0 : s = 0
  · have f0 : p_fr A q = 0 := by unfold p_fr; rw [e2, s0]; simp
    rw [e1, f0]
    by_cases i0 : i = 0
    · have q0 : q = 0 := by rw [e, s0, i0]; unfold p_SR; rw [p_sum_0]; rfl
      rw [i0, q0]
      unfold p_fl p_nl p_ls p_FB p_NB p_SF p_SN p_PF p_PN
      rw [p_sum_0, p_sum_0, p_sum_0, p_sum_0]
      exact ⟨rfl, rfl, rfl⟩
    · have j := h.2.1 (i - 1) (by omega) (by omega)
      have h6 := p_okA_6 h (i := i - 1) ⟨by omega, by omega⟩
      have sr := p_SR_s (A := A) (i := i - 1) (by omega)
      rw [show i - 1 + 1 = i by omega] at sr
      have rc := p_rc_at h (i - 1) (A 2 (i - 1) 0 - 1) (by omega) (by omega) (by omega) (by omega)
      have eq1 : q - 1 = p_SR A (i - 1) + (A 2 (i - 1) 0 - 1) := by omega
      have r1 : p_ri A (q - 1) = i - 1 := by unfold p_ri; rw [eq1, rc.1]
      have r2 : p_rl A (q - 1) = A 2 (i - 1) 0 - 1 := by unfold p_rl; rw [eq1, rc.1]
      have t1 : p_to A (q - 1) = A 6 (i - 1) 0 := by
        unfold p_to
        rw [r1, r2]
        rcases j.2 with ⟨k1, k2, k3, _⟩ | ⟨k1, _, _, _, _, k3⟩
        · rw [if_neg (by omega), k3]
        · rw [if_pos k1, k3]
      have qp : ¬ q ≤ 0 := by have := rc.2; omega
      unfold p_fl p_nl p_ls
      rw [if_neg qp, if_neg qp, if_neg qp, r1, t1]
      have a1 := p_FB_i (A := A) (i := i - 1) (by omega)
      have a2 := p_NB_i (A := A) (i := i - 1) (by omega)
      have a3 := p_LS_i (A := A) (i := i - 1) (by omega)
      rw [show i - 1 + 1 = i by omega] at a1 a2 a3
      exact ⟨a1, a2, a3⟩
  · have rc := p_rc_at h i (s - 1) (by omega) (by omega) (by omega) (by omega)
    have eq1 : q - 1 = p_SR A i + (s - 1) := by omega
    have r1 : p_ri A (q - 1) = i := by unfold p_ri; rw [eq1, rc.1]
    have r2 : p_rl A (q - 1) = s - 1 := by unfold p_rl; rw [eq1, rc.1]
    have k1 : A 0 i 0 = 0 := by
      rcases it with ⟨k1, k2, _⟩ | ⟨k1, _⟩
      · omega
      · exact k1
    have t1 : p_to A (q - 1) = A 3 i (s - 1) := by unfold p_to; rw [r1, r2, if_pos k1]
    have f1 : p_fr A q = A 3 i (s - 1) := by unfold p_fr; rw [e1, e2, if_pos k1, if_neg s0]
    have qp : ¬ q ≤ 0 := by have := rc.2; omega
    unfold p_fl p_nl p_ls
    rw [if_neg qp, if_neg qp, if_neg qp, e1, r1, t1, f1]
    exact ⟨rfl, rfl, rfl⟩
theorem k_to {A : pA} {q : Int} (hq : 0 ≤ q) : p_fl A (q + 1) = p_FB A (p_ri A q) (p_to A q) ∧ p_nl A (q + 1) = p_NB A (p_ri A q) (p_to A q) ∧ p_ls A (q + 1) = p_LS A (p_ri A q) (p_to A q) := by
  unfold p_fl p_nl p_ls
  rw [if_neg (by omega), if_neg (by omega), if_neg (by omega), show q + 1 - 1 = q by omega]
  exact ⟨rfl, rfl, rfl⟩
theorem k_fr0 {A : pA} {cnt q : Int} (h : p_okA A cnt) (hq : 0 ≤ q ∧ q < p_SR A cnt) : p_fr A q = 0 ↔ p_rl A q = 0 := by
  have r := p_row_in h hq
  have it := (h.2.1 _ r.1.1 r.1.2).2
  unfold p_fr
  rcases it with ⟨k1, k2, _⟩ | ⟨k1, _, _, k3, _⟩
  · rw [if_neg (by omega)]
    exact ⟨fun _ => by omega, fun _ => rfl⟩
  · rw [if_pos k1]
    by_cases z : p_rl A q = 0
    · rw [if_pos z]; exact ⟨fun _ => z, fun _ => rfl⟩
    · rw [if_neg z]
      have := k3 (p_rl A q - 1) (by omega) (by omega)
      exact ⟨fun y => by omega, fun y => absurd y z⟩
theorem k_bl {A : pA} {cnt q : Int} (h : p_okA A cnt) (hq : 0 ≤ q ∧ q < p_SR A cnt) : p_bl A (q + 1) = p_bl A q + (if p_fr A q = 0 then (if p_ri A q ≤ 0 then 0 else 1) else 0) := by
  unfold p_bl
  rw [p_sum_s hq.1]
  unfold p_ib
  by_cases z : p_rl A q = 0
  · rw [if_pos z, if_pos ((k_fr0 h hq).mpr z)]
  · rw [if_neg z, if_neg (fun y => z ((k_fr0 h hq).mp y))]
theorem k_to6 {A : pA} {cnt q : Int} (h : p_okA A cnt) (hq : 0 ≤ q ∧ q < p_SR A cnt) (h0 : A 0 (p_ri A q) 0 = 0) : p_to A q = A 6 (p_ri A q) 0 ↔ p_rl A q = A 2 (p_ri A q) 0 - 1 := by
  have r := p_row_in h hq
  have it := (h.2.1 _ r.1.1 r.1.2).2
  unfold p_to
  rw [if_pos h0]
  rcases it with ⟨k1, _⟩ | ⟨_, _, _, k3, k4, k5⟩
  · omega
  · constructor
    · intro e
      refine Classical.byContradiction fun z => ?_
      have a := k4 (p_rl A q) (by omega) (by omega)
      have b := k3 (p_rl A q + 1) (by omega) (by omega)
      omega
    · intro e
      rw [e]; exact k5
/-- a chapter's rows, items, words in the law's arrays -/
def k_rw (A : pA) (c n : Int) (M : qM) : Prop := ∀ q, 0 ≤ q → q < n → (0 ≤ M 71 0 (20 * c + q) ∧ M 71 0 (20 * c + q) ≤ 2147483647) ∧ M 71 0 (20 * c + q) % 16384 = p_ri A q + 16 * p_fr A q + 512 * p_to A q
def k_itm (A : pA) (cnt c : Int) (M : qM) : Prop := ∀ i, 0 ≤ i → i < cnt → (0 ≤ M 65 0 (6 * c + i) ∧ M 65 0 (6 * c + i) ≤ 2147483647) ∧ M 65 0 (6 * c + i) % 32 = A 6 i 0 ∧ M 65 0 (6 * c + i) / 32 % 2 = A 0 i 0 ∧ (A 0 i 0 ≠ 0 → M 65 0 (6 * c + i) / 64 % 4 = A 1 i 0)
def k_wrd (A : pA) (cnt c : Int) (M : qM) : Prop := ∀ i w, 0 ≤ i → i < cnt → 0 ≤ w → w < A 6 i 0 → k_cd M (6 * c + i) w / 16 % 8 = A 4 i w ∧ k_cd M (6 * c + i) w / 128 = A 5 i w
def k_flt (A : pA) (cnt c : Int) (M : qM) : Prop := ∀ i w, 0 ≤ i → i < cnt → 0 ≤ w → w < A 6 i 0 → A 4 i w = 3 → M 72 0 (4 * c + p_FB A i w) = w + 16 * i
def k_ss (A : pA) (cnt n : Int) (M : qM) : Prop := ∀ r, 0 ≤ r → r ≤ p_SR A cnt → M 96 n r = p_nl A r + 16 * p_fl A r
def k_sz (A : pA) (cnt c : Int) : Prop := (0 ≤ c ∧ c < 3) ∧ cnt ≤ 6 ∧ (∀ i, 0 ≤ i → i < cnt → A 6 i 0 ≤ 15) ∧ p_okB A cnt ∧ p_SR A cnt ≤ 16
def k_ch (A : pA) (cnt c D : Int) (M : qM) : Prop := k_sz A cnt c ∧ (8 ≤ D ∧ D ≤ 14) ∧ (M 76 0 2 = D ∧ M 76 0 (19 + c) = p_SR A cnt) ∧ k_rw A c (p_SR A cnt) M ∧ k_itm A cnt c M ∧ k_wrd A cnt c M
/-- what a row's number says -/
theorem k_row {A : pA} {cnt c n q : Int} {M : qM} (hA : k_sz A cnt c) (hr : k_rw A c n M) (hn : n ≤ p_SR A cnt) (hq : 0 ≤ q ∧ q < n) : ((0 ≤ p_ri A q ∧ p_ri A q < cnt ∧ p_ri A q ≤ 5) ∧ (0 ≤ p_fr A q ∧ p_fr A q ≤ p_to A q ∧ p_to A q ≤ A 6 (p_ri A q) 0 ∧ A 6 (p_ri A q) 0 ≤ 15)) ∧ M 71 0 (20 * c + q) % 16 = p_ri A q ∧ M 71 0 (20 * c + q) / 16 % 32 = p_fr A q ∧ M 71 0 (20 * c + q) / 512 % 32 = p_to A q := by
  have r := p_row_in hA.2.2.2.1.1 (r := q) ⟨hq.1, by omega⟩
  have m := hr q hq.1 hq.2
  have s := hA.2.2.1 _ r.1.1 r.1.2
  have := hA.2.1
  exact ⟨⟨⟨r.1.1, r.1.2, by omega⟩, r.2.2.1, r.2.2.2.1, r.2.2.2.2.1, s⟩, by omega, by omega, by omega⟩
section
variable {d : Nat} {h : qH} {M : qM} {f : Int → qM → Prop} {A : pA} {cnt c D n q : Int}
theorem L198 (hS : qSe h) (hA : k_sz A cnt c) (hr : k_rw A c n M) (hn : n ≤ p_SR A cnt) (hq : 0 ≤ q ∧ q < n) (H : f (p_bl A (q + 1) - p_bl A q) M) : e198 (d + 2) h c q M f := by
  obtain ⟨r1, r2, r3, r4⟩ := k_row hA hr hn hq
  have c3 := hA.1
  have s16 := hA.2.2.2.2
  have bl := k_bl hA.2.2.2.1.1 (q := q) ⟨hq.1, by omega⟩
  refine w198 hS ⟨⟨by omega, by omega⟩, ⟨by omega, by omega⟩, ⟨by omega, by omega⟩, L195 hS ⟨fun _ => ⟨⟨by omega, by omega⟩, ⟨by omega, by omega⟩, ⟨by omega, by omega⟩⟩, fun x hx => ?_⟩⟩
  rw [k_a15, r2, r3] at hx
  have e : x = p_bl A (q + 1) - p_bl A q := by rw [bl, hx]; (repeat' split) <;> omega
  refine ⟨by rw [hx]; (repeat' split) <;> omega, ?_⟩
  rw [e]; exact H
theorem L199 (hS : qSe h) (hA : k_sz A cnt c) (hw : k_wrd A cnt c M) (hf : k_flt A cnt c M) {k : Int} (hk : 0 ≤ k ∧ k < p_SF A cnt) (H : f (p_fv A cnt k) M) : e199 (d + 2) h c k M f := by
  obtain ⟨i, w, hi, hw', k3, e⟩ := p_float_ex hA.2.2.2.1.1 hk
  have fv := p_fv_p hA.2.2.2.1.1 hi hw' k3
  have c3 := hA.1
  have i6 := hA.2.1
  have w15 := hA.2.2.1 i hi.1 hi.2
  have f4 := hA.2.2.2.1.1.2.2.1
  have m := hf i w hi.1 hi.2 hw'.1 hw'.2 k3
  rw [e] at m fv
  refine w199 hS ⟨⟨by omega, by omega⟩, ⟨by omega, by omega⟩, ⟨by omega, by omega⟩, ⟨by omega, by omega⟩, ⟨by omega, by omega⟩, ⟨by omega, by omega⟩, ⟨by omega, by omega⟩, ⟨by omega, by omega⟩, ?_⟩
  rw [k_a15, m, show 6 * c + (w + 16 * i) / 16 = 6 * c + i by omega, show (w + 16 * i) % 16 = w by omega]
  refine L187 hS ⟨by omega, by omega⟩ ⟨by omega, by omega⟩ ?_
  rw [(hw i w hi.1 hi.2 hw'.1 hw'.2).2, ← fv]
  exact H
theorem L200 (hS : qSe h) (hK : k_ch A cnt c D M) (hq : 0 ≤ q ∧ q < p_SR A cnt) {l : Int} (H : f (if l = 0 then p_f1 A q else p_l1 A q) M) : e200 (d + 2) h c q l M f := by
  obtain ⟨hA, hD, ⟨m2, m19⟩, hr, hi, hw⟩ := hK
  obtain ⟨r1, r2, r3, r4⟩ := k_row hA hr (Int.le_refl _) hq
  have c3 := hA.1
  have s16 := hA.2.2.2.2
  obtain ⟨i0, i1, i2, i3⟩ := hi _ r1.1.1 r1.1.2.1
  have it := (hA.2.2.2.1.1.2.1 _ r1.1.1 r1.1.2.1).2
  have fr0 := k_fr0 hA.2.2.2.1.1 hq
  refine w200 hS ⟨⟨by omega, by omega⟩, ⟨by omega, by omega⟩, ⟨by omega, by omega⟩, ⟨by omega, by omega⟩, ?_⟩
  rw [k_a15, r2]
  refine ⟨⟨by omega, by omega⟩, L190 hS ⟨by omega, by omega⟩ i0 ?_⟩
  rw [i2]
  refine ⟨fun z => L195 hS ?_, fun z => ?_⟩
  · have t6 := k_to6 hA.2.2.2.1.1 hq z
    have it2 : 1 ≤ A 2 (p_ri A q) 0 := (p_okA_6 hA.2.2.2.1.1 ⟨r1.1.1, r1.1.2.1⟩).2.2.1
    have rl := (p_row_in hA.2.2.2.1.1 hq).2.1
    have tail : ¬ (p_fr A q = 0 ∧ p_to A q = A 6 (p_ri A q) 0) → b200_55 d h f (.inr (.inl (some (71, 0)))) (.inl c) (.inl q) l (M 71 0 (20 * c + q)) (6 * c + p_ri A q) M := by
      intro nz
      refine w200_55 hS ⟨fun l0 => L195 hS (fun x hx => ?_), fun l0 => L196 hS (L189 hS ⟨by omega, by omega⟩ (fun x hx => ?_))⟩
      · rw [r3] at hx
        have e : x = p_f1 A q := by
          rw [hx]; unfold p_f1
          by_cases y : p_rl A q = 0
          · rw [if_pos (fr0.mpr y), if_neg (fun z2 => nz ⟨fr0.mpr y, t6.mpr (by omega)⟩), if_pos y]
          · rw [if_neg (fun z2 => y (fr0.mp z2)), if_neg y, if_neg (by omega)]
        rw [if_pos l0, ← e] at H
        exact ⟨by rw [hx]; split <;> omega, H⟩
      · rw [r4, i1] at hx
        have e : x = p_l1 A q := by
          rw [hx]; unfold p_l1
          by_cases y : p_rl A q = A 2 (p_ri A q) 0 - 1
          · rw [if_pos (t6.mpr y), if_pos y, if_neg (fun z2 => nz ⟨fr0.mpr (by omega), t6.mpr y⟩)]
          · rw [if_neg (fun z2 => y (t6.mp z2)), if_neg y]
            split <;> rfl
        rw [if_neg l0, ← e] at H
        exact ⟨by rw [hx]; split <;> omega, H⟩
    rw [r3]
    refine ⟨fun y => L196 hS (L189 hS ⟨by omega, by omega⟩ ?_), fun y => tail (fun z2 => y z2.1)⟩
    rw [r4, i1]
    refine ⟨fun y2 => ?_, fun y2 => tail (fun z2 => y2 z2.2)⟩
    have e : (if l = 0 then p_f1 A q else p_l1 A q) = 0 := by
      have a := fr0.mp y
      have b := t6.mp y2
      unfold p_f1 p_l1
      split <;> rw [if_pos (by omega)]
    rw [e] at H
    exact H
  · have e : (if l = 0 then p_f1 A q else p_l1 A q) = 0 := by
      have : A 2 (p_ri A q) 0 = 1 := by
        rcases it with ⟨_, k, _⟩ | ⟨k, _⟩
        · exact k
        · exact absurd k z
      unfold p_f1 p_l1
      split <;> rw [if_pos (by omega)]
    rw [e] at H
    exact H
end
