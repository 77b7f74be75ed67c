/-! ===== itemsTold ===== -/
section
variable {d : Nat} {f : Int → qH → qM → Prop} {B : pT} {en L : Int} {W : Int → Int} {R : c_R} {c : Int}
theorem k_item (hB : c_ok B) (hB2 : c_ok2 B) (hl : k_lim B) {M : qM} (hbk : k_bk B M) (hc : 0 ≤ c ∧ c < 3) {i : Int} (hi : 0 ≤ i ∧ i < B 0 c) : c_it B c i ∧ (0 ≤ 6 * c + i ∧ 6 * c + i < 18) ∧ (0 ≤ i ∧ i < 6) ∧ k_x (6 * c + i) = 10 * c + i ∧ (M 65 0 (6 * c + i) % 32 = B 3 (10 * c + i) ∧ (0 ≤ M 65 0 (6 * c + i) ∧ M 65 0 (6 * c + i) ≤ 2147483647)) ∧ (0 ≤ B 3 (10 * c + i) ∧ B 3 (10 * c + i) ≤ 15) ∧ ∀ w, k_y (6 * c + i) w = 200 * c + 20 * i + w := by
  have l6 := (hl.1 c hc.1 hc.2).1
  have kx : k_x (6 * c + i) = 10 * c + i := k_x_c hc ⟨hi.1, by omega⟩
  have bt := hbk.2.1 (6 * c + i) (by omega) (by omega)
  rw [kx] at bt
  have n0 := (hB.2.1 (10 * c + i)).1
  have n15 := hl.2.1 (10 * c + i) (by omega) (by omega)
  exact ⟨⟨hc, hi⟩, ⟨by omega, by omega⟩, ⟨hi.1, by omega⟩, kx, ⟨bt.2.1, bt.1⟩, ⟨n0, n15⟩, fun w => by unfold k_y; rw [kx]; omega⟩
theorem k_303 {u : Nat} {h : qH} {M : qM} {i rows nm ns : Int} {u6 u7 u8 u17 u18 : qV} (hu : k_h u h) (hx : k_as B en W R L M) (hc : 0 ≤ c ∧ c < 3) (hi : 0 ≤ i ∧ i < B 0 c)
    (H : ∀ h', k_h (u + 4) h' → ∀ u16 u17 u18 u19 u20 u21 : qV, b221_62 d h' f u6 u7 u8 c rows nm ns (i + 1) u16 u17 u18 u19 u20 u21 M) :
    ∀ (t : Nat) (w : Int) (u20 u21 : qV), B 3 (10 * c + i) - w ≤ t → 0 ≤ w → w ≤ B 3 (10 * c + i) → b221_303 d h f u6 u7 u8 c rows nm ns i (6 * c + i) u17 u18 w u20 u21 M := by
  obtain ⟨⟨cx, hm⟩, ⟨hl, huq, hW⟩, hbk, ho, he, hh, h62⟩ := hx
  have hB := cx.1.1.1
  have hB2 := cx.1.1.2
  obtain ⟨ob, B1, R1, out⟩ := (cx.2.2 hm).2.2.1
  have pb := c_p0_b hB
  have hp : 0 ≤ c_p0 B ∧ c_p0 B ≤ 100 := ⟨pb.2.2.1, by omega⟩
  obtain ⟨cit, h18, i6, kx, m65, n15, ky⟩ := k_item hB hB2 hl hbk hc hi
  have hS := hu.1
  have N0 : 0 < B 0 c := by omega
  have fin : ∀ (w : Int) (u20 u21 : qV), w = B 3 (10 * c + i) → b221_303 d h f u6 u7 u8 c rows nm ns i (6 * c + i) u17 u18 w u20 u21 M := by
    intro w u20 u21 ew
    have hu1 := k_h_bump hu
    have hu2 := k_h_bump hu1
    have hu3 := k_h_bump hu2
    have hu4 := k_h_bump hu3
    refine w221_303 hS (L189 hS h18 ?_)
    rw [m65.1]
    refine ⟨fun z => absurd z (by omega), fun _ => L189 hS h18 ?_⟩
    rw [m65.1]
    refine A163 hS cx (fun q _ => absurd q.2.2 (by omega)) (fun _ m => absurd m hm) (fun _ => ⟨fun _ => ?_, fun z => absurd rfl z⟩)
    refine A177 hu1.1 cx (fun q _ => absurd q.2.1 (by omega)) (fun _ m => absurd m hm) (fun _ => ⟨fun _ => L189 hu2.1 h18 ?_, fun z => absurd rfl z⟩)
    rw [m65.1]
    refine A178 hu2.1 cx (fun q _ => absurd q.2.2 (by omega)) (fun _ m => absurd m hm) (fun _ => ⟨fun _ => ?_, fun z => absurd rfl z⟩)
    refine A180 hu3.1 cx (fun q _ => absurd q.2.2 (by omega)) (fun _ m => absurd m hm) (fun _ => ⟨fun _ => ⟨⟨by omega, by omega⟩, H _ hu4 _ _ _ _ _ _⟩, fun z => absurd rfl z⟩)
  intro t
  induction t with
  | zero => intro w u20 u21 ht w0 w1; exact fin w _ _ (by omega)
  | succ t ih =>
    intro w u20 u21 ht w0 w1
    by_cases e : w = B 3 (10 * c + i)
    · exact fin w _ _ e
    have hw : 0 ≤ w ∧ w < B 3 (k_x (6 * c + i)) := by rw [kx]; omega
    have cd := k_code hB hB2 hbk h18 hw
    have th := k_there hB2 h18 hw hB
    have kk := k_K hB hB2 h18 hw
    have wd := k_wide hB hB2 hl hbk ho he hW h18 hw
    rw [ky w] at cd th kk wd
    have wo : c_wo B c i w := ⟨cit, w0, by omega⟩
    refine w221_303 hS (L189 hS h18 ?_)
    rw [m65.1]
    refine ⟨fun _ => L187 hS h18 ⟨w0, by omega⟩ (L188 hS (L213 hS hB hB2 hl huq hbk hp out hh h18 hw ?_)), fun z => absurd (show w < B 3 (10 * c + i) by omega) z⟩
    rw [ky w, cd.1]
    refine A163 hS cx (fun _ _ => L192 hS h18 ⟨w0, by omega⟩ wd.2.2.1 wd.2.2.2 ?_) (fun _ m => absurd m hm) (fun q => absurd wo q)
    rw [wd.2.1]
    refine ⟨fun _ => A177 hS cx (fun _ _ x hx => ?_) (fun _ m => absurd m hm) (fun q => absurd wo q), fun z => absurd rfl z⟩
    have e6 : (if B 4 (200 * c + 20 * i + w) = 6 then b_text (c_K B) (B 5) (c_G B R) (200 * c + 20 * i + w) else -1) = x := by
      rw [hx, kk]
      by_cases q : B 4 (200 * c + 20 * i + w) = 6
      · rw [if_pos q, if_pos q]; unfold k_told; rw [if_pos (by rw [kk]; exact q)]
      · rw [if_neg q, if_neg q]
    refine ⟨fun _ => A178 hS cx (fun _ _ x2 hx2 => ?_) (fun _ m => absurd m hm) (fun q => absurd wo q), fun z => absurd e6 z⟩
    have e2 : (if B 4 (200 * c + 20 * i + w) = 2 then b_num (c_K B) (c_G B R) (B 8 2) (200 * c + 20 * i + w) else 0) = x2 := by
      rw [hx2, kk]
      by_cases q : B 4 (200 * c + 20 * i + w) = 2
      · rw [if_pos q, if_pos q]; unfold k_told; rw [if_neg (by rw [kk]; omega), if_pos (by rw [kk]; exact q)]
      · rw [if_neg q, if_neg q]
    refine ⟨fun _ => ⟨fun _ => ⟨⟨by omega, by omega⟩, ih (w + 1) _ _ (by omega) (by omega) (by omega)⟩, fun k5 => A180 hS cx (fun _ _ => ?_) (fun _ m => absurd m hm) (fun q => absurd wo q)⟩, fun z => absurd e2 z⟩
    rw [kk] at k5
    have mw := (z_mk hB (cx.2.2 hm) hc).2 N0
    rw [mgn_k5 hB out hc N0 k5 (w_wr (r_W R c)).toNat (by have := mw.2.2.1; omega)]
    exact ⟨fun _ => ⟨⟨by omega, by omega⟩, ih (w + 1) _ _ (by omega) (by omega) (by omega)⟩, fun z => absurd rfl z⟩
/-- an item behind its rows -/
theorem k_181 {u : Nat} {h : qH} {M : qM} {i rows had nm ns : Int} {u6 u7 u8 u18 u19 u20 u21 : qV} (hu : k_h u h) (hx : k_as B en W R L M) (hc : 0 ≤ c ∧ c < 3) (hi : 0 ≤ i ∧ i < B 0 c) (hb : 0 ≤ had ∧ had ≤ 100) (hrows : rows - had = r_L R (10 * c + i))
    (H : ∀ h' M', k_h (u + 11) h' → k_sx M M' → (∀ s, M' 100 nm s = M 100 nm s) → ∀ u16 u17 u18 u19 u20 u21 : qV, b221_62 d h' f u6 u7 u8 c rows nm ns (i + 1) u16 u17 u18 u19 u20 u21 M') : b221_181 d h f u6 u7 u8 c rows nm ns i (6 * c + i) had u18 u19 u20 u21 M := by
  have cx := hx.1.1
  have hm := hx.1.2
  have hB := cx.1.1.1
  have hB2 := cx.1.1.2
  have hl := hx.2.1.1
  have hbk := hx.2.2.1
  obtain ⟨ob, B1, R1, out⟩ := (cx.2.2 hm).2.2.1
  obtain ⟨cit, h18, i6, kx, m65, n15, ky⟩ := k_item hB hB2 hl hbk hc hi
  have real := z_itx hB cit
  have Lb := z_L_b hB (cx.2.2 hm) cit
  have lin := out.1 (10 * c + i) real.1.1 real.1.2 real.2.1
  have W8 := hB.2.2.2.2.2.2.1
  have kind := hB.2.2.1 (10 * c + i) real.1.1 real.1.2 real.2.1
  refine w221_181 hu.1 ⟨⟨by omega, by omega⟩, ⟨by omega, by omega⟩, fun M1 f1 M2 f2 => ⟨hu.2.1 71, fun no hno M3 f3 h3 g3 => ?_⟩⟩
  have n1 : 1 ≤ no := by rw [hno]; exact hu.2.2.2.2
  have hu3 : k_h (u + 3) h3 := by rw [g3]; exact k_h_new (j := 3) hu (by decide) (by decide) (by decide)
  have O3 : ∀ (k : Nat) (o s : Int), ¬ (k = 101 ∧ o = ns) → ¬ (k = 71 ∧ o = no) → M3 k o s = M k o s := fun k o s a b => by
    rw [f3, lNm_o b, f2, f1]; unfold qU; rw [if_neg (by omega), if_neg (by omega)]
  have x3 : k_sx M M3 := fun k o s a b c' d' => O3 k o s (by omega) (by omega)
  have hx3 := k_as_fr hx x3
  have v1 : M3 101 ns 1 = B 8 0 := by rw [f3, lNm_o (by omega), f2, qU_s, f1, qU_k (by decide)]; exact hbk.2.2.2.1
  have vR : M3 101 ns (19 + c) = 0 := by rw [f3, lNm_o (by omega), f2, qU_l (by omega), f1, qU_s]
  have bk3 := hx3.2.2.1
  have m65' : M3 65 0 (6 * c + i) = M 65 0 (6 * c + i) := O3 _ _ _ (by omega) (by omega)
  have bt3 := bk3.2.1 (6 * c + i) h18.1 h18.2
  rw [kx] at bt3
  have tail : ∀ h6 M6, k_h (u + 5) h6 → k_sx M M6 → (∀ s, M6 100 nm s = M 100 nm s) → e165 (d + 4) h6 c i (rows - had) M6 (fun v134 z137 M135 => ((v134 = (-7100) → e165 (d + 4) z137 c i (-1) M135 (fun v141 z144 M142 => ((v141 = (-7100) → e162 (d + 4) z144 c i M142 (fun v148 z151 M149 => e189 (d + 1) z151 (6 * c + i) M149 (fun v152 M153 => ((v148 = v152 → b221_303 d z151 f u6 u7 u8 c rows nm ns i (6 * c + i) (.inl had) (.inr (.inl (some (71, no)))) 0 u20 u21 M153) ∧ (¬ (v148 = v152) → f 0 z151 M153))))) ∧ (¬ (v141 = (-7100)) → f 0 z144 M142)))) ∧ (¬ (v134 = (-7100)) → f 0 z137 M135))) := by
    intro h6 M6 hu6 x6 c6
    have hx6 := k_as_fr hx x6
    have cx6 := hx6.1.1
    have hm6 := hx6.1.2
    have hu7 := k_h_bump hu6
    have hu8 := k_h_bump hu7
    have bt6 := (hx6.2.2.1.2.1 (6 * c + i) h18.1 h18.2).2.1
    rw [kx] at bt6
    refine A165 hu6.1 cx6 (fun q _ => absurd (q.2.2 hm6) (by omega)) (fun _ m => absurd m hm6) (fun _ => ⟨fun _ => ?_, fun z => absurd rfl z⟩)
    refine A165 hu7.1 cx6 (fun q _ => absurd q.2.1 (by omega)) (fun _ m => absurd m hm6) (fun _ => ⟨fun _ => ?_, fun z => absurd rfl z⟩)
    refine A162 hu8.1 cx6.1 (fun _ => L189 hu8.1 h18 ?_) (fun q => absurd cit q)
    rw [bt6]
    refine ⟨fun _ => k_303 hu8 hx6 hc hi (fun h9 hu9 u16 u17 u18 u19 u20 u21 => H h9 M6 hu9 x6 c6 _ _ _ _ _ _) (B 3 (10 * c + i)).toNat 0 _ _ (by omega) (Int.le_refl _) n15.1, fun z => absurd rfl z⟩
  refine A164 hu3.1 hx3.1.1 (fun _ _ => ?_) (fun _ m => absurd m hx3.1.2) (fun q => absurd cit q)
  refine ⟨⟨by omega, by omega⟩, fun _ => A166 hu3.1 hx3.1.1 (fun _ _ => ?_) (fun _ m => absurd m hx3.1.2) (fun q => absurd cit q), fun z => absurd hrows.symm z⟩
  refine L193v1 (u := u + 3) (ro := no) (w := fun j => if 0 ≤ j ∧ j < B 3 (10 * c + i) then B 6 (k_y (6 * c + i) j) + W (k_y (6 * c + i) j) else 0) hu3 hc i6 bt3.2.1 n15.2 bt3.1 W8 v1 vR (Int.le_refl _) (fun j => ?_) (fun j j0 j1 => ?_) (fun hd => ⟨by decide, fun M' O' r1 r2 => ?_⟩) (fun hp => ⟨?_, fun h' M' Ln Cc En hu' O' pl r1 r2 => ?_⟩)
  · show 0 ≤ (if 0 ≤ j ∧ j < B 3 (10 * c + i) then B 6 (k_y (6 * c + i) j) + W (k_y (6 * c + i) j) else 0) ∧ (if 0 ≤ j ∧ j < B 3 (10 * c + i) then B 6 (k_y (6 * c + i) j) + W (k_y (6 * c + i) j) else 0) ≤ 16
    by_cases z : 0 ≤ j ∧ j < B 3 (10 * c + i)
    · rw [if_pos z]
      have := (k_wide hB hB2 hl bk3 hx3.2.2.2.1 hx3.2.2.2.2.1 hx.2.1.2.2 (it := 6 * c + i) (j := j) h18 (by rw [kx]; exact z)).1
      omega
    · rw [if_neg z]; omega
  · have := (k_wide hB hB2 hl bk3 hx3.2.2.2.1 hx3.2.2.2.2.1 hx.2.1.2.2 (it := 6 * c + i) (j := j) h18 (by rw [kx]; exact ⟨j0, j1⟩)).2
    show _ = (if 0 ≤ j ∧ j < B 3 (10 * c + i) then B 6 (k_y (6 * c + i) j) + W (k_y (6 * c + i) j) else 0) ∧ _
    rw [if_pos ⟨j0, j1⟩]
    exact this
  · rw [bt3.2.2.1] at hd
    have x' : k_sx M M' := k_sx_t x3 (fun k o s a b c' d' => O' k o s (by omega) (by omega))
    exact ⟨fun _ => ⟨⟨by omega, by omega⟩, tail _ _ (k_h_up hu3 (by omega)) x' (fun s => by rw [O' _ _ _ (by omega) (by omega), O3 _ _ _ (by omega) (by omega)])⟩, fun z => absurd (lin.2 hd).2 z⟩
  · rw [bt3.2.2.1] at hp
    rcases kind with q | q
    · omega
    · omega
  · rw [bt3.2.2.1] at hp
    have l1 := lin.1 hp
    have pl2 : p_lined (fun j => B 6 (20 * (10 * c + i) + j) + W (20 * (10 * c + i) + j)) (B 3 (10 * c + i)) (B 8 0) Ln Cc En := p_lined_w (fun j j0 j1 => by
      show _ = (if 0 ≤ j ∧ j < B 3 (10 * c + i) then B 6 (k_y (6 * c + i) j) + W (k_y (6 * c + i) j) else 0)
      rw [if_pos ⟨j0, j1⟩]
      unfold k_y
      rw [kx]) pl
    obtain ⟨u1, u2', u3⟩ := p_lined_u n15.1 l1 pl2
    have x' : k_sx M M' := k_sx_t x3 (fun k o s a b c' d' => O' k o s (by omega) (by omega) (by omega))
    exact ⟨fun _ => ⟨⟨by omega, by omega⟩, tail _ _ hu' x' (fun s => by rw [O' _ _ _ (by omega) (by omega) (by omega), O3 _ _ _ (by omega) (by omega)])⟩, fun z => absurd u2'.symm z⟩
end
