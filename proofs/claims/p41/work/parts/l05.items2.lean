/-! ===== itemsTold whole ===== -/
section
variable {d : Nat} {f : Int → qH → qM → Prop} {B : pT} {en L : Int} {W : Int → Int} {R : c_R} {c : Int}
/-- where a line ends, as the class tells it -/
theorem k_to_E (hB : c_ok B) {M : qM} (z : z_x B en W R L M) (hc : 0 ≤ c ∧ c < 3) {i l : Int} (hi : 0 ≤ i ∧ i < B 0 c) (ok : p_okA (r_A B R c) (B 0 c)) (hl : 0 ≤ l ∧ l < r_L R (10 * c + i)) : p_ri (r_A B R c) (p_SR (r_A B R c) i + l) = i ∧ p_to (r_A B R c) (p_SR (r_A B R c) i + l) = r_E R (10 * c + i) l := by
  have cit : c_it B c i := ⟨hc, hi⟩
  have real := z_itx hB cit
  have a := c_A_v (B := B) (L := r_L R) (E := r_E R) (c := c) (i := i) (w := 0) ⟨hi.1, real.2.2⟩
  have a0 : r_A B R c 0 i 0 = B 1 (10 * c + i) := a.1
  have a2 : r_A B R c 2 i 0 = r_L R (10 * c + i) := a.2.2.1
  have a3 : r_A B R c 3 i l = r_E R (10 * c + i) l := (c_A_v (B := B) (L := r_L R) (E := r_E R) (c := c) (i := i) (w := l) ⟨hi.1, real.2.2⟩).2.2.2.1
  have rc := p_rc_at ok i l hi.1 hi.2 hl.1 (by rw [a2]; exact hl.2)
  have er : p_ri (r_A B R c) (p_SR (r_A B R c) i + l) = i := by unfold p_ri; rw [rc.1]
  have el : p_rl (r_A B R c) (p_SR (r_A B R c) i + l) = l := by unfold p_rl; rw [rc.1]
  refine ⟨er, ?_⟩
  unfold p_to
  rw [er, el, a0]
  by_cases q : B 1 (10 * c + i) = 0
  · rw [if_pos q, a3]
  · rw [if_neg q]
    obtain ⟨ob, B1, R1, out⟩ := z.2.2.1
    have l1 := ((out.1 (10 * c + i) real.1.1 real.1.2 real.2.1).2 q).1
    have b := (z.2.2.2.2.2.2.2.2 (10 * c + i) real.1.1 real.1.2 (fun y => q y.2)).2
    have e := (z.2.2.2.2.1.1 (10 * c + i) real.1.1 real.1.2).2.2 0
    rw [show l = 0 by omega, ← e]
    exact b.symm
theorem k_86 {u : Nat} {i nm ns : Int} {M : qM} {h : qH} {u6 u7 u8 u18 u19 u20 u21 : qV} (hu : k_h u h) (hx : k_as B en W R L M) (hc : 0 ≤ c ∧ c < 3) (hi : 0 ≤ i ∧ i < B 0 c) (cp : ∀ q, 0 ≤ q → q < p_SR (r_A B R c) (B 0 c) → M 100 nm (20 * c + q) = M 71 0 (20 * c + q))
    (H : ∀ h' M', k_h (u + 11) h' → k_sx M M' → (∀ s, M' 100 nm s = M 100 nm s) → ∀ u16 u17 u18 u19 u20 u21 : qV, b221_62 d h' f u6 u7 u8 c (p_SR (r_A B R c) (i + 1)) nm ns (i + 1) u16 u17 u18 u19 u20 u21 M') :
    ∀ (t : Nat) (l : Int), r_L R (10 * c + i) - l ≤ t → 0 ≤ l → l ≤ r_L R (10 * c + i) → b221_86 d h f u6 u7 u8 c (p_SR (r_A B R c) i + l) nm ns i (6 * c + i) (p_SR (r_A B R c) i) u18 u19 u20 u21 M := by
  have cx := hx.1.1
  have hm := hx.1.2
  have hB := cx.1.1.1
  have hl := hx.2.1.1
  have z := cx.2.2 hm
  obtain ⟨ob, B1, R1, out⟩ := z.2.2.1
  have sz : k_sz (r_A B R c) (B 0 c) c := (k_szA hB hl out.1 hc).1
  have ok := sz.2.2.2.1.1
  have s16 := sz.2.2.2.2
  have N0 : 0 < B 0 c := by omega
  have cm := (hx.2.2.2.2.2.1 c hc.1 hc.2).2 N0
  obtain ⟨cit, h18, i6, kx, m65, n15, ky⟩ := k_item hB cx.1.1.2 hl hx.2.2.1 hc hi
  have Lb := z_L_b hB z cit
  have a2 : r_A B R c 2 i 0 = r_L R (10 * c + i) := (c_A_v (B := B) (L := r_L R) (E := r_E R) (c := c) (i := i) (w := 0) ⟨hi.1, by omega⟩).2.2.1
  have srs : p_SR (r_A B R c) (i + 1) = p_SR (r_A B R c) i + r_L R (10 * c + i) := by rw [p_SR_s i6.1, a2]
  have sr0 : 0 ≤ p_SR (r_A B R c) i := (p_rc_at ok i 0 hi.1 hi.2 (Int.le_refl _) (by rw [a2]; omega)).2
  have sle := p_SR_le ok (i := i + 1) ⟨by omega, by omega⟩
  have fin : ∀ l, l = r_L R (10 * c + i) → ∀ u18 u19 u20 u21 : qV, b221_181 d h f u6 u7 u8 c (p_SR (r_A B R c) i + l) nm ns i (6 * c + i) (p_SR (r_A B R c) i) u18 u19 u20 u21 M := fun l el u18 u19 u20 u21 => by
    refine k_181 hu hx hc hi ⟨sr0, by omega⟩ (by omega) (fun h' M' hu' x' c' u16 u17 u18 u19 u20 u21 => ?_)
    rw [el, ← srs]
    exact H h' M' hu' x' c' _ _ _ _ _ _
  have last : ∀ l, l = r_L R (10 * c + i) → b221_86 d h f u6 u7 u8 c (p_SR (r_A B R c) i + l) nm ns i (6 * c + i) (p_SR (r_A B R c) i) u18 u19 u20 u21 M := by
    intro l el
    refine w221_86 hu.1 ⟨⟨by omega, by omega⟩, ⟨by omega, by omega⟩, fun lt => ?_, fun _ => fin l el _ _ _ _⟩
    rw [cm.1] at lt
    have lt' : p_SR (r_A B R c) i + l < p_SR (r_A B R c) (B 0 c) := lt
    refine ⟨⟨by omega, by omega⟩, ⟨by omega, by omega⟩, ⟨by omega, by omega⟩, fun y => ?_, fun _ => fin l el _ _ _ _⟩
    exfalso
    rw [k_a15, cp _ (by omega) lt'] at y
    have r := k_row sz cm.2.1 (Int.le_refl _) (q := p_SR (r_A B R c) i + l) ⟨by omega, lt'⟩
    rw [r.2.1] at y
    obtain ⟨i', s', b1, b2, b3, b4, b5⟩ := p_row_dec ok (r := p_SR (r_A B R c) i + l) ⟨by omega, lt'⟩
    rw [b4] at y
    subst y
    rw [a2] at b2
    omega
  intro t
  induction t with
  | zero => intro l ht l0 l1; exact last l (by omega)
  | succ t ih =>
    intro l ht l0 l1
    by_cases e : l = r_L R (10 * c + i)
    · exact last l e
    have lt : p_SR (r_A B R c) i + l < p_SR (r_A B R c) (B 0 c) := by omega
    have te := k_to_E hB z hc hi ok (l := l) ⟨l0, by omega⟩
    have r := k_row sz cm.2.1 (Int.le_refl _) (q := p_SR (r_A B R c) i + l) ⟨by omega, lt⟩
    have ecp := cp (p_SR (r_A B R c) i + l) (by omega) lt
    have e19 : M 76 0 (19 + c) = p_SR (r_A B R c) (B 0 c) := cm.1
    refine w221_86 hu.1 ⟨⟨by omega, by omega⟩, ⟨by omega, by omega⟩, fun _ => ⟨⟨by omega, by omega⟩, ⟨by omega, by omega⟩, ⟨by omega, by omega⟩, fun _ => ⟨⟨by omega, by omega⟩, ?_⟩, fun y => ?_⟩, fun y => absurd (show p_SR (r_A B R c) i + l < M 76 0 (19 + c) by rw [e19]; exact lt) y⟩
    · rw [show p_SR (r_A B R c) i + l - p_SR (r_A B R c) i = l by omega]
      refine A165 hu.1 cx (fun _ _ => ⟨⟨by omega, by omega⟩, ⟨by omega, by omega⟩, ⟨by omega, by omega⟩, L196 hu.1 ?_⟩) (fun _ m => absurd m hm) (fun q => absurd ⟨cit, l0, fun _ => by omega⟩ q)
      rw [ecp, r.2.2.2, te.2]
      refine ⟨fun _ => A172 hu.1 cx (fun _ _ k hk k1 k2 => ?_) (fun _ m => absurd m hm) (fun q => absurd ⟨hc, by omega, fun _ => lt⟩ q), fun y => absurd rfl y⟩
      have pk := (cm.2.2.2.1 k hk.1 hk.2).2 _ k1 k2
      rw [ecp, pk]
      refine ⟨⟨by omega, by omega⟩, ⟨by omega, by omega⟩, ⟨by omega, by omega⟩, fun _ => ⟨⟨by omega, by omega⟩, ?_⟩, fun y => absurd (show w_fi (r_W R c) + k = w_fi (r_W R c) - 1 + 1 + k by omega) y⟩
      have := ih (l + 1) (by omega) (by omega) (by omega)
      rw [show p_SR (r_A B R c) i + (l + 1) = p_SR (r_A B R c) i + l + 1 by omega] at this
      exact this
    · rw [k_a15, ecp, r.2.1] at y
      exact absurd te.1 y
theorem k_62 {M0 : qM} {u6 u7 u8 : qV} {nm ns : Int} {u : Nat} (hx0 : k_as B en W R L M0) (hc : 0 ≤ c ∧ c < 3) (cp0 : ∀ q, 0 ≤ q → q < p_SR (r_A B R c) (B 0 c) → M0 100 nm (20 * c + q) = M0 71 0 (20 * c + q))
    (H : ∀ h' M', k_h (u + 70) h' → k_sx M0 M' → f 1 h' M') : ∀ (t : Nat) (i : Int) (h : qH) (M : qM) (u16 u17 u18 u19 u20 u21 : qV), B 0 c - i ≤ t → 0 ≤ i → i ≤ B 0 c → k_h (u + 11 * i.toNat) h → k_sx M0 M → (∀ s, M 100 nm s = M0 100 nm s) → b221_62 d h f u6 u7 u8 c (p_SR (r_A B R c) i) nm ns i u16 u17 u18 u19 u20 u21 M := by
  have hB := hx0.1.1.1.1.1
  have hl := hx0.2.1.1
  have l6 := (hl.1 c hc.1 hc.2).1
  have b0 := (hB.1 c hc.1 hc.2).1
  have fin : ∀ (i : Int) (h : qH) (M : qM) (u16 u17 u18 u19 u20 u21 : qV), i = B 0 c → k_h (u + 11 * i.toNat) h → k_sx M0 M → b221_62 d h f u6 u7 u8 c (p_SR (r_A B R c) i) nm ns i u16 u17 u18 u19 u20 u21 M := by
    intro i h M u16 u17 u18 u19 u20 u21 ei hu x
    subst ei
    have hx := k_as_fr hx0 x
    have cx := hx.1.1
    have hm := hx.1.2
    have hbk := hx.2.2.1
    have e77 : M 77 0 c = B 0 c := hbk.1 c hc.1 hc.2
    have cm := hx.2.2.2.2.2.1 c hc.1 hc.2
    have mk := z_mk hB (cx.2.2 hm) hc
    have e19 : M 76 0 (19 + c) = p_SR (r_A B R c) (B 0 c) := by
      by_cases q : 0 < B 0 c
      · exact (cm.2 q).1
      · rw [(cm.1 (by omega)).2.2.2.1, show B 0 c = 0 by omega]; rfl
    have hu1 := k_h_bump hu
    have hu2 := k_h_bump hu1
    have hu3 := k_h_bump hu2
    have hu4 := k_h_bump hu3
    refine w221_62 hu.1 ⟨hc, fun y => absurd y (by rw [e77]; omega), fun _ => ?_⟩
    refine A167 hu.1 cx (fun _ _ => ?_) (fun _ m => absurd m hm) (fun q => absurd hc q)
    refine ⟨⟨by omega, by omega⟩, ⟨by omega, by omega⟩, fun _ => ?_, fun y => absurd e19.symm y⟩
    refine A172 hu.1 cx (fun q _ => absurd (q.2.2 hm) (Int.lt_irrefl _)) (fun _ m => absurd m hm) (fun _ => ⟨fun _ => ?_, fun y => absurd rfl y⟩)
    refine A172 hu1.1 cx (fun q _ => absurd q.2.1 (by decide)) (fun _ m => absurd m hm) (fun _ => ⟨fun _ => ⟨hc, ?_⟩, fun y => absurd rfl y⟩)
    rw [e77]
    refine A164 hu2.1 cx (fun q _ => absurd q.2.2 (Int.lt_irrefl _)) (fun _ m => absurd m hm) (fun _ => ⟨fun _ => ?_, fun y => absurd rfl y⟩)
    refine A166 hu3.1 cx (fun q _ => absurd q.2.1 (by decide)) (fun _ m => absurd m hm) (fun _ => ⟨fun _ => ?_, fun y => absurd rfl y⟩)
    have a10 : (if B 0 c ≤ 0 then -1 else if (0 : Int) = 0 then w_fi (r_W R c) else w_fi (r_W R c) + w_ct (r_W R c) - 1) = M 76 0 (10 + c) := by
      by_cases q : B 0 c ≤ 0
      · rw [if_pos q, (cm.1 q).1]
      · rw [if_neg q, if_pos rfl, (cm.2 (by omega)).2.2.2.2.1]
    have a13 : (if B 0 c ≤ 0 then -1 else if (1 : Int) = 0 then w_fi (r_W R c) else w_fi (r_W R c) + w_ct (r_W R c) - 1) = M 76 0 (13 + c) := by
      by_cases q : B 0 c ≤ 0
      · rw [if_pos q, (cm.1 q).2.1]
      · rw [if_neg q, if_neg (by decide), (cm.2 (by omega)).2.2.2.2.2.1]
    have a16 : w_co (r_W R c) = M 76 0 (16 + c) := by
      by_cases q : B 0 c ≤ 0
      · rw [(cm.1 q).2.2.1, (mk.1 q).2.2.2]
      · rw [(cm.2 (by omega)).2.2.2.2.2.2]
    refine A171 hu4.1 cx (fun _ _ => ⟨⟨by omega, by omega⟩, ⟨by omega, by omega⟩, fun _ => ?_, fun y => absurd a10 y⟩) (fun _ m => absurd m hm) (fun q => absurd hc q)
    refine A171 hu4.1 cx (fun _ _ => ⟨⟨by omega, by omega⟩, ⟨by omega, by omega⟩, fun _ => ?_, fun y => absurd a13 y⟩) (fun _ m => absurd m hm) (fun q => absurd hc q)
    refine A174 hu4.1 cx (fun _ _ => ⟨⟨by omega, by omega⟩, ⟨by omega, by omega⟩, fun v hv => ?_⟩) (fun _ m => absurd m hm) (fun q => absurd hc q)
    rw [if_pos a16] at hv
    rw [hv]
    exact ⟨Or.inr rfl, H _ M (k_h_up hu4 (by omega)) x⟩
  intro t
  induction t with
  | zero => intro i h M u16 u17 u18 u19 u20 u21 ht i0 i1 hu x c'; exact fin i h M _ _ _ _ _ _ (by omega) hu x
  | succ t ih =>
    intro i h M u16 u17 u18 u19 u20 u21 ht i0 i1 hu x c'
    by_cases e : i = B 0 c
    · exact fin i h M _ _ _ _ _ _ e hu x
    have hx := k_as_fr hx0 x
    have e77 : M 77 0 c = B 0 c := hx.2.2.1.1 c hc.1 hc.2
    have e71 : ∀ s, M 71 0 s = M0 71 0 s := fun s => x _ _ _ (by decide) (by decide) (by decide) (by omega)
    have z := hx.1.1.2.2 hx.1.2
    have Lb := z_L_b hB z (c := c) (i := i) ⟨hc, i0, by omega⟩
    refine w221_62 hu.1 ⟨hc, fun _ => ⟨⟨by omega, by omega⟩, ⟨by omega, by omega⟩, ?_⟩, fun y => absurd (show i < M 77 0 c by omega) y⟩
    have k := k_86 (u := u + 11 * i.toNat) (nm := nm) (ns := ns) (f := f) (d := d) (u6 := u6) (u7 := u7) (u8 := u8) (u18 := u18) (u19 := u19) (u20 := u20) (u21 := u21) hu hx hc (i := i) ⟨i0, by omega⟩ (fun q q0 q1 => by rw [c', e71]; exact cp0 q q0 q1) (fun h' M' hu' x' c'' u16 u17 u18 u19 u20 u21 => ih (i + 1) h' M' _ _ _ _ _ _ (by omega) (by omega) (by omega) (k_h_up hu' (by omega)) (k_sx_t x x') (fun s => by rw [c'', c'])) (r_L R (10 * c + i)).toNat 0 (by omega) (Int.le_refl _) (by omega)
    rw [Int.add_zero] at k
    exact k
theorem L221 {u : Nat} {h : qH} {M : qM} (hu : k_h u h) (hx : k_as B en W R L M) (hc : 0 ≤ c ∧ c < 3) (H : ∀ h' M', k_h (u + 75) h' → k_sx M M' → f 1 h' M') : e221 (d + 6) h c M f := by
  have cx := hx.1.1
  have hB := cx.1.1.1
  have hl := hx.2.1.1
  obtain ⟨ob, B1, R1, out⟩ := (cx.2.2 hx.1.2).2.2.1
  have sz : k_sz (r_A B R c) (B 0 c) c := (k_szA hB hl out.1 hc).1
  have s16 := sz.2.2.2.2
  have b0 := (hB.1 c hc.1 hc.2).1
  have cm := hx.2.2.2.2.2.1 c hc.1 hc.2
  have e19 : M 76 0 (19 + c) = p_SR (r_A B R c) (B 0 c) := by
    by_cases q : 0 < B 0 c
    · exact (cm.2 q).1
    · rw [(cm.1 (by omega)).2.2.2.1, show B 0 c = 0 by omega]; rfl
  have sr0 : 0 ≤ p_SR (r_A B R c) (B 0 c) := by
    have := p_SR_le sz.2.2.2.1.1 (i := 0) ⟨Int.le_refl _, b0.1⟩
    have e : p_SR (r_A B R c) 0 = 0 := rfl
    omega
  refine w221 hu.1 ⟨hu.2.1 100, fun nm hnm M1 f1 h1 g1 => ?_⟩
  have hu1 : k_h (u + 3) h1 := by rw [g1]; exact k_h_new (j := 3) hu (by decide) (by decide) (by decide)
  refine ⟨hu1.2.1 101, fun ns hns M2 f2 h2 g2 => ?_⟩
  have hu2 : k_h (u + 5) h2 := by rw [g2]; exact k_h_new hu1 (j := 2) (by decide) (by decide) (by decide)
  have O2 : ∀ (k : Nat) (o s : Int), ¬ (k = 100 ∧ o = nm) → ¬ (k = 101 ∧ o = ns) → M2 k o s = M k o s := fun k o s a b => by rw [f2, lNm_o b, f1, lNm_o a]
  refine q_upto (P := fun r => 0 ≤ r → ∀ (M3 : qM), (∀ (k : Nat) (o s : Int), ¬ (k = 100 ∧ o = nm) → ¬ (k = 101 ∧ o = ns) → M3 k o s = M k o s) → (∀ q, 0 ≤ q → q < r → M3 100 nm (20 * c + q) = M 71 0 (20 * c + q)) → b221_18 d h2 f (.inr (.inl (some (72, 0)))) (.inr (.inl (some (73, 0)))) (.inr (.inl (some (74, 0)))) c 0 nm ns r (q_u) (q_u) (q_u) (q_u) (q_u) (q_u) M3) sr0 (fun _ M3 O3 c3 => ?_) (fun r r0 r1 ih _ M3 O3 c3 => ?_) (Int.le_refl _) M2 O2 (fun q a b => by omega)
  · have x3 : k_sx M M3 := fun k o s a b c' d' => O3 k o s (by omega) (by omega)
    refine w221_18 hu2.1 ⟨⟨by omega, by omega⟩, ⟨by omega, by omega⟩, fun y => absurd y (by rw [O3 _ _ _ (by omega) (by omega), e19]; omega), fun _ => ?_⟩
    have k := k_62 (u := u + 5) (f := f) (d := d) (u6 := (.inr (.inl (some (72, 0))))) (u7 := (.inr (.inl (some (73, 0))))) (u8 := (.inr (.inl (some (74, 0))))) (nm := nm) (ns := ns) (k_as_fr hx x3) hc (fun q q0 q1 => by rw [c3 q q0 q1, O3 71 _ _ (by omega) (by omega)]) (fun h' M' hu' x' => H h' M' (k_h_up hu' (by omega)) (k_sx_t x3 x')) (B 0 c).toNat 0 h2 M3 q_u q_u q_u q_u q_u q_u (by omega) (Int.le_refl _) b0.1 hu2 k_sx_r (fun _ => rfl)
    exact k
  · refine w221_18 hu2.1 ⟨⟨by omega, by omega⟩, ⟨by omega, by omega⟩, fun _ => ⟨⟨by omega, by omega⟩, ⟨by omega, by omega⟩, ⟨by omega, by omega⟩, ⟨by omega, by omega⟩, ⟨by omega, by omega⟩, ⟨by omega, by omega⟩, fun M4 f4 => ⟨⟨by omega, by omega⟩, ih (by omega) M4 (fun k o s a b => by rw [f4]; unfold qU; rw [if_neg (by omega)]; exact O3 k o s a b) (fun q q0 q1 => ?_)⟩⟩, fun y => absurd (show r < M3 76 0 (19 + c) by rw [O3 _ _ _ (by omega) (by omega), e19]; exact r1) y⟩
    by_cases e : q = r
    · subst e; rw [f4, qU_s, O3 71 _ _ (by omega) (by omega)]
    · rw [f4, qU_l (by omega)]; exact c3 q q0 (by omega)
end
