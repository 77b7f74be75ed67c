/-! ===== pagesTold ===== -/
/-- all pages, those of the index behind the chapters' -/
def k_all (B : pT) (R : c_R) (L : Int) (M : qM) : Prop := (M 76 0 6 = c_tot B R L ∧ c_tot B R L ≤ 61) ∧ k_kd B (r_W R) (c_p0 B) 3 M ∧ ∀ p, c_lal B R < p → p ≤ c_tot B R L → M 74 0 p = 5 ∧ M 75 0 p = 0
section
variable {d : Nat} {f : Int → qH → qM → Prop} {B : pT} {en L : Int} {W : Int → Int} {R : c_R} {p v : Int}
theorem k_all_fr {M M' : qM} (h : k_all B R L M) (f : k_sx M M') : k_all B R L M' := by
  have e : ∀ (k : Nat) (s : Int), (k = 74 ∨ k = 75) → M' k 0 s = M k 0 s := fun k s q => f _ _ _ (by omega) (by omega) (by omega) (by omega)
  refine ⟨⟨by rw [f _ _ _ (by decide) (by decide) (by decide) (by decide)]; exact h.1.1, h.1.2⟩, fun p a b => ?_, fun p a b => by rw [e 74 p (Or.inl rfl), e 75 p (Or.inr rfl)]; exact h.2.2 p a b⟩
  rw [e 74 p (Or.inl rfl), e 75 p (Or.inr rfl)]
  exact h.2.1 p a b
/-- the fields of a page of a kind -/
theorem k_pf {M : qM} (hx : k_as B en W R L M) (ha : k_all B R L M) (hp : 1 ≤ p ∧ p ≤ c_tot B R L) (hv : z_kd B R p v) : (0 ≤ v ∧ v ≤ 5) ∧ (0 ≤ M 74 0 p ∧ M 74 0 p ≤ 2147483647) ∧ M 74 0 p % 8 = v ∧ (v < 3 → 0 < B 0 v ∧ (0 ≤ v ∧ v < 3) ∧ (0 ≤ p - w_fi (r_W R v) ∧ p - w_fi (r_W R v) < w_ct (r_W R v)) ∧ M 74 0 p / 8 % 32 = g_bf (w_P (r_W R v)) 0 (p - w_fi (r_W R v)) ∧ M 74 0 p / 256 % 16 = w_P (r_W R v) 0 (p - w_fi (r_W R v)) - g_bf (w_P (r_W R v)) 0 (p - w_fi (r_W R v)) ∧ M 74 0 p / 4096 % 8 = g_bf (w_P (r_W R v)) 1 (p - w_fi (r_W R v)) ∧ M 74 0 p / 32768 % 8 = w_P (r_W R v) 1 (p - w_fi (r_W R v)) - g_bf (w_P (r_W R v)) 1 (p - w_fi (r_W R v)) ∧ M 74 0 p / 262144 % 16 = g_bf (w_P (r_W R v)) 2 (p - w_fi (r_W R v)) ∧ M 74 0 p / 4194304 % 16 = w_P (r_W R v) 2 (p - w_fi (r_W R v)) - g_bf (w_P (r_W R v)) 2 (p - w_fi (r_W R v)) ∧ M 74 0 p / 67108864 = w_P (r_W R v) 3 (p - w_fi (r_W R v)) ∧ M 75 0 p = w_P (r_W R v) 4 (p - w_fi (r_W R v))) ∧ (¬ v < 3 → M 74 0 p = v ∧ M 75 0 p = 0) := by
  have cx := hx.1.1
  have hB := cx.1.1.1
  have z := cx.2.2 hx.1.2
  obtain ⟨ob, B1, R1, out⟩ := z.2.2.1
  have ela : c_la (r_W R) (c_p0 B) (3 : Int).toNat = c_lal B R := rfl
  rcases hv with ⟨h1, rfl⟩ | ⟨h1, h2, h3⟩ | ⟨h1, h2, h3⟩
  · have tb := c_tot_b hB out z.2.1
    have k3 : M 74 0 p = 3 ∧ M 75 0 p = 0 := by
      rcases ha.2.1 p hp.1 (by rw [ela]; omega) with y | ⟨c', y1, y2, y3, y4⟩ | y
      · exact y.2
      · have := c_fi_la hB out y1 y2
        omega
      · omega
    rw [k3.1, k3.2]
    exact ⟨by omega, by omega, by omega, fun y => absurd y (by decide), fun _ => ⟨rfl, rfl⟩⟩
  · have N0 : 0 < B 0 v := Classical.byContradiction fun y => by
      have := (z_mk hB z h2).1 (by omega); omega
    have mk := (z_mk hB z h2).2 N0
    have sz : k_sz (r_A B R v) (B 0 v) v := (k_szA hB hx.2.1.1 out.1 h2).1
    have cm := (hx.2.2.2.2.2.1 v h2.1 h2.2).2 N0
    have q := k_pgf sz hB.2.2.2.2.2.2.2.1 mk.2.2 cm.2.2.2.1 (k := p - w_fi (r_W R v)) ⟨by omega, by omega⟩
    rw [show w_fi (r_W R v) - 1 + 1 + (p - w_fi (r_W R v)) = p by omega] at q
    exact ⟨by omega, q.1, q.2.1, fun _ => ⟨N0, h2, ⟨by omega, by omega⟩, q.2.2⟩, fun y => absurd h2.2 y⟩
  · by_cases la : p ≤ c_lal B R
    · rw [if_pos la] at h3
      subst h3
      have k4 : M 74 0 p = 4 ∧ M 75 0 p = 0 := by
        rcases ha.2.1 p hp.1 (by rw [ela]; exact la) with y | ⟨c', y1, y2, y3, y4⟩ | y
        · omega
        · exact absurd ⟨y3, y4⟩ (h2 c' y1.1 y1.2)
        · exact y.2.1
      rw [k4.1, k4.2]
      exact ⟨by omega, by omega, by omega, fun y => absurd y (by decide), fun _ => ⟨rfl, rfl⟩⟩
    · rw [if_neg la] at h3
      subst h3
      have k5 := ha.2.2 p (by omega) hp.2
      rw [k5.1, k5.2]
      exact ⟨by omega, by omega, by omega, fun y => absurd y (by decide), fun _ => ⟨rfl, rfl⟩⟩
theorem h_it_p {A : pA} {cnt a b x : Int} (ok : p_okA A cnt) (hb : 0 ≤ a ∧ b ≤ p_SR A cnt) (h : h_lp A a b x ∨ h_fp A a b x) : (h_it A x < 0 ↔ x = -1) ∧ (x = -1 → h_it A x = -1) := by
  unfold h_it
  by_cases e : x = -1
  · rw [if_pos e]; exact ⟨⟨fun _ => e, fun _ => by decide⟩, fun _ => rfl⟩
  · rw [if_neg e]
    have r : a ≤ x ∧ x < b := by
      rcases h with (⟨h1, _⟩ | ⟨h1, _, _⟩) | (⟨h1, _⟩ | ⟨h1, _, _⟩)
      · exact absurd h1 e
      · exact h1
      · exact absurd h1 e
      · exact h1
    have := (p_row_in ok (r := x) ⟨by omega, by omega⟩).1
    exact ⟨⟨fun y => by omega, fun y => absurd y e⟩, fun y => absurd y e⟩
/-- what is told behind the heads of a page -/
theorem k_192 {M : qM} {u : Nat} {h : qH} {one last before n : Int} {u7 u8 u13 u14 : qV} (hu : k_h u h) (hx : k_as B en W R L M) (ha : k_all B R L M) (hp : 1 ≤ p ∧ p ≤ c_tot B R L) (hv : z_kd B R p v) (hn : n = M 74 0 p / 256 % 16)
    (h1 : ∀ x, z_hd B R p v 0 x → x = if one < 0 then before else one) (h2 : ∀ x, z_hd B R p v 1 x → x = if last < 0 then before else last)
    (H : ∀ u7 u8 u9 u10 u11 u12 u13 u14 : qV, b222_3 d h f (p + 1) u7 u8 u9 u10 u11 u12 u13 u14 M) : b222_192 d h f p u7 u8 n one last before u13 u14 M := by
  have cx := hx.1.1
  have hm := hx.1.2
  have pf := k_pf hx ha hp hv
  have pg : z_pg B R L M p := ⟨hp.1, fun _ => hp.2⟩
  have p61 := ha.1.2
  have uv : ∀ v', z_kd B R p v' → v' = v := fun v' hv' => by rw [← (k_pf hx ha hp hv').2.2.1]; exact pf.2.2.1
  have tell : ∀ v' a, z_kd B R p v' → z_tell R p v' a = z_tell R p v a := fun v' a hv' => by rw [uv v' hv']
  have t0 : z_tell R p v 0 = M 74 0 p / 256 % 16 := by
    unfold z_tell
    by_cases q : v < 3
    · rw [if_pos q, (pf.2.2.2.1 q).2.2.2.2.1]; rfl
    · rw [if_neg q, (pf.2.2.2.2 q).1]; omega
  have t1 : z_tell R p v 1 = M 74 0 p / 32768 % 8 := by
    unfold z_tell
    by_cases q : v < 3
    · rw [if_pos q, (pf.2.2.2.1 q).2.2.2.2.2.2.1]; rfl
    · rw [if_neg q, (pf.2.2.2.2 q).1]; omega
  have t2 : z_tell R p v 2 = M 74 0 p / 4194304 % 16 := by
    unfold z_tell
    by_cases q : v < 3
    · rw [if_pos q, (pf.2.2.2.1 q).2.2.2.2.2.2.2.2.1]; rfl
    · rw [if_neg q, (pf.2.2.2.2 q).1]; omega
  have t3 : z_tell R p v 3 = M 74 0 p / 67108864 := by
    unfold z_tell
    by_cases q : v < 3
    · rw [if_pos q, (pf.2.2.2.1 q).2.2.2.2.2.2.2.2.2.1]; rfl
    · rw [if_neg q, (pf.2.2.2.2 q).1]; omega
  have t4 : z_tell R p v 4 = M 75 0 p := by
    unfold z_tell
    by_cases q : v < 3
    · rw [if_pos q, (pf.2.2.2.1 q).2.2.2.2.2.2.2.2.2.2]; rfl
    · rw [if_neg q, (pf.2.2.2.2 q).2]
  have b62 : 0 ≤ p ∧ p < 62 := by omega
  refine w222_192 hu.1 (A179 hu.1 cx (fun _ _ v' x hv' hd y hy => ?_) (fun _ m => absurd m hm) (fun q => absurd pg q))
  rw [uv v' hv'] at hd
  have e1 := h1 x hd
  refine ⟨fun _ => A179 hu.1 cx (fun _ _ v' x hv' hd y hy => ?_) (fun _ m => absurd m hm) (fun q => absurd pg q), fun k => absurd (by rw [hy]; exact e1) k⟩
  rw [uv v' hv'] at hd
  have e2 := h2 x hd
  refine ⟨fun _ => A173 hu.1 cx (fun _ _ _ v' hv' => ?_) (fun _ _ m => absurd m hm) (fun _ q => absurd ⟨by decide, by decide⟩ q) (fun q => absurd pg q), fun k => absurd (by rw [hy]; exact e2) k⟩
  rw [tell v' _ hv', t0, hn]
  refine ⟨fun _ => A173 hu.1 cx (fun _ _ _ v' hv' => ⟨b62, L206m hu.1 ?_⟩) (fun _ _ m => absurd m hm) (fun _ q => absurd ⟨by decide, by decide⟩ q) (fun q => absurd pg q), fun k => absurd rfl k⟩
  rw [tell v' _ hv', t1]
  refine ⟨fun _ => A173 hu.1 cx (fun _ _ _ v' hv' => ⟨b62, L206l hu.1 ?_⟩) (fun _ _ m => absurd m hm) (fun _ q => absurd ⟨by decide, by decide⟩ q) (fun q => absurd pg q), fun k => absurd rfl k⟩
  rw [tell v' _ hv', t2]
  refine ⟨fun _ => A173 hu.1 cx (fun _ _ _ v' hv' => ⟨b62, ?_⟩) (fun _ _ m => absurd m hm) (fun _ q => absurd ⟨by decide, by decide⟩ q) (fun q => absurd pg q), fun k => absurd rfl k⟩
  rw [tell v' _ hv', t3]
  refine ⟨fun _ => A173 hu.1 cx (fun _ _ _ v' hv' => ⟨b62, ?_⟩) (fun _ _ m => absurd m hm) (fun _ q => absurd ⟨by decide, by decide⟩ q) (fun q => absurd pg q), fun k => absurd rfl k⟩
  rw [tell v' _ hv', t4]
  exact ⟨fun _ => ⟨⟨by omega, by omega⟩, H _ _ _ _ _ _ _ _⟩, fun k => absurd rfl k⟩
/-- the heads of a page -/
theorem k_98h {M : qM} {u : Nat} {h : qH} {u14 : qV} (hu : k_h u h) (hx : k_as B en W R L M) (ha : k_all B R L M) (hp : 1 ≤ p ∧ p ≤ c_tot B R L) (hv : z_kd B R p v)
    (H : ∀ u7 u8 u9 u10 u11 u12 u13 u14 : qV, b222_3 d h f (p + 1) u7 u8 u9 u10 u11 u12 u13 u14 M) : b222_98 d h f p v (M 74 0 p / 8 % 32) (M 74 0 p / 256 % 16) (-1) (-1) (-1) 0 u14 M := by
  have cx := hx.1.1
  have hm := hx.1.2
  have hB := cx.1.1.1
  have pf := k_pf hx ha hp hv
  by_cases v3 : v < 3
  case neg =>
    have e := (pf.2.2.2.2 v3).1
    have f0 : M 74 0 p / 8 % 32 = 0 := by omega
    have n0 : M 74 0 p / 256 % 16 = 0 := by omega
    refine w222_98 hu.1 ⟨⟨by omega, by omega⟩, fun y => absurd y (by omega), fun _ => ?_⟩
    exact k_192 hu hx ha hp hv rfl (fun x hd => by rw [if_pos (by decide)]; exact hd.2 v3) (fun x hd => by rw [if_pos (by decide)]; exact hd.2 v3) H
  obtain ⟨N0, hc, kb, pf0, pfn, _⟩ := pf.2.2.2.1 v3
  have z := cx.2.2 hm
  obtain ⟨ob, B1, R1, out⟩ := z.2.2.1
  have sz : k_sz (r_A B R v) (B 0 v) v := (k_szA hB hx.2.1.1 out.1 hc).1
  have ok := sz.2.2.2.1.1
  have s16 := sz.2.2.2.2
  have l6 := sz.2.1
  have cm := (hx.2.2.2.2.2.1 v hc.1 hc.2).2 N0
  have yn := (z_N hB z hv v3).2.2 _ kb.1 kb.2
  have bb := yn.1
  rw [pf0, pfn]
  generalize hk : p - w_fi (r_W R v) = k at *
  generalize hA : r_A B R v = A at *
  generalize hP : w_P (r_W R v) = P at *
  have hd0 : ∀ r, 0 ≤ r → r < p_SR A (B 0 v) → (M 71 0 (20 * v + r) % 16 = p_ri A r ∧ (0 ≤ p_ri A r ∧ p_ri A r < B 0 v)) ∧ (M 65 0 (6 * v + p_ri A r) / 32 % 2 = 0 ↔ ¬ h_hd A r) := fun r a b => by
    have row := k_row sz cm.2.1 (Int.le_refl _) (q := r) ⟨a, b⟩
    refine ⟨⟨row.2.1, row.1.1.1, row.1.1.2.1⟩, ?_⟩
    have bt := (hx.2.2.1.2.1 (6 * v + p_ri A r) (by omega) (by omega)).2.2.1
    rw [k_x_c hc ⟨row.1.1.1, by omega⟩] at bt
    have a0 : A 0 (p_ri A r) 0 = B 1 (10 * v + p_ri A r) := by
      rw [← hA]
      exact (c_A_v (B := B) (L := r_L R) (E := r_E R) (c := v) (i := p_ri (r_A B R v) r) (w := 0) (by rw [hA]; omega)).1
    rw [bt]
    unfold h_hd
    rw [a0]
    exact ⟨fun y k => k y, fun y => Classical.byContradiction fun k => y k⟩
  have step : ∀ (t : Nat) (r xo xl xb : Int) (fo lo bo : Int) (u14 : qV), P 0 k - r ≤ t → 0 ≤ r → r ≤ P 0 k → h_lp A 0 (if r < g_bf P 0 k then r else g_bf P 0 k) bo → h_fp A (g_bf P 0 k) (if r < g_bf P 0 k then g_bf P 0 k else r) fo → h_lp A (g_bf P 0 k) (if r < g_bf P 0 k then g_bf P 0 k else r) lo → xo = h_it A fo → xl = h_it A lo → xb = h_it A bo → b222_98 d h f p v (g_bf P 0 k) (P 0 k - g_bf P 0 k) xo xl xb r u14 M := by
    intro t
    have fin : ∀ (r xo xl xb : Int) (fo lo bo : Int) (u14 : qV), r = P 0 k → h_lp A 0 (if r < g_bf P 0 k then r else g_bf P 0 k) bo → h_fp A (g_bf P 0 k) (if r < g_bf P 0 k then g_bf P 0 k else r) fo → h_lp A (g_bf P 0 k) (if r < g_bf P 0 k then g_bf P 0 k else r) lo → xo = h_it A fo → xl = h_it A lo → xb = h_it A bo → b222_98 d h f p v (g_bf P 0 k) (P 0 k - g_bf P 0 k) xo xl xb r u14 M := by
      intro r xo xl xb fo lo bo u14 er hb hf hl eo el eb
      subst er
      rw [if_neg (by omega)] at hb hf hl
      have io := h_it_p (x := fo) ok ⟨bb.1, bb.2.2⟩ (Or.inr hf)
      have il := h_it_p (x := lo) ok ⟨bb.1, bb.2.2⟩ (Or.inl hl)
      have both : fo = -1 ↔ lo = -1 := by
        rcases hf with ⟨f1, f2⟩ | ⟨f1, f2, f3⟩ <;> rcases hl with ⟨l1, l2⟩ | ⟨l1, l2, l3⟩
        · omega
        · exact absurd l2 (f2 _ l1.1 l1.2)
        · exact absurd f2 (l2 _ f1.1 f1.2)
        · omega
      refine w222_98 hu.1 ⟨⟨by omega, by omega⟩, fun y => absurd y (by omega), fun _ => ?_⟩
      refine k_192 hu hx ha hp hv pfn.symm (fun x hd => ?_) (fun x hd => ?_) H
      · obtain ⟨f', l', q', g1, g2, g3, g4⟩ := hd.1 v3
        rw [hk, hA, hP] at g1 g2 g3
        rw [hA] at g4
        rw [h_fp_u g1 hf, h_lp_u g3 hb] at g4
        rw [g4, eo, eb]
        by_cases q : fo = -1
        · rw [if_pos q, if_pos (io.1.mpr q)]
        · rw [if_neg q, if_pos rfl, if_neg (fun y => q (io.1.mp y))]
      · obtain ⟨f', l', q', g1, g2, g3, g4⟩ := hd.1 v3
        rw [hk, hA, hP] at g1 g2 g3
        rw [hA] at g4
        rw [h_fp_u g1 hf, h_lp_u g3 hb, h_lp_u g2 hl] at g4
        rw [g4, el, eb]
        by_cases q : fo = -1
        · rw [if_pos q, if_pos (il.1.mpr (both.mp q))]
        · rw [if_neg q, if_neg (by decide), if_neg (fun y => q (both.mpr (il.1.mp y)))]
    induction t with
    | zero => intro r xo xl xb fo lo bo u14 ht r0 r1 hb hf hl eo el eb; exact fin r xo xl xb fo lo bo _ (by omega) hb hf hl eo el eb
    | succ t ih =>
      intro r xo xl xb fo lo bo u14 ht r0 r1 hb hf hl eo el eb
      by_cases er : r = P 0 k
      · exact fin r xo xl xb fo lo bo _ er hb hf hl eo el eb
      have rr := hd0 r r0 (by omega)
      refine w222_98 hu.1 ⟨⟨by omega, by omega⟩, fun _ => ⟨fun _ => ⟨⟨by omega, by omega⟩, ⟨by omega, by omega⟩, ⟨by omega, by omega⟩, ⟨by omega, by omega⟩, ?_⟩, fun y => absurd v3 y⟩, fun y => absurd (show r < g_bf P 0 k + (P 0 k - g_bf P 0 k) by omega) y⟩
      rw [k_a15, rr.1.1]
      have m65 := (hx.2.2.1.2.1 (6 * v + p_ri A r) (by omega) (by omega)).1
      refine ⟨⟨by omega, by omega⟩, L190 hu.1 ⟨by omega, by omega⟩ m65 (fun y1 g1 y2 g2 y3 g3 => ⟨⟨by omega, by omega⟩, ?_⟩)⟩
      by_cases hd : h_hd A r
      · have nz : ¬ M 65 0 (6 * v + p_ri A r) / 32 % 2 = 0 := fun y => (rr.2.mp y) hd
        rw [if_neg nz] at g1 g2 g3
        by_cases lt : r < g_bf P 0 k
        · rw [if_pos lt] at g1 g2 g3
          rw [if_pos lt] at hb hf hl
          have nb := (h_lp_s hb).1 hd r0
          refine ih (r + 1) y1 y2 y3 fo lo r _ (by omega) (by omega) (by omega) ?_ ?_ ?_ (by rw [g1]; exact eo) (by rw [g2]; exact el) ?_
          · by_cases q : r + 1 < g_bf P 0 k
            · rw [if_pos q]; exact nb
            · rw [if_neg q, show g_bf P 0 k = r + 1 by omega]; exact nb
          · by_cases q : r + 1 < g_bf P 0 k
            · rw [if_pos q]; exact hf
            · rw [if_neg q, show r + 1 = g_bf P 0 k by omega]; exact hf
          · by_cases q : r + 1 < g_bf P 0 k
            · rw [if_pos q]; exact hl
            · rw [if_neg q, show r + 1 = g_bf P 0 k by omega]; exact hl
          · rw [g3]; unfold h_it; rw [if_neg (by omega)]
        · rw [if_neg lt] at g1 g2 g3
          rw [if_neg lt] at hb hf hl
          have io := h_it_p (x := fo) ok ⟨bb.1, show r ≤ p_SR A (B 0 v) by omega⟩ (Or.inr hf)
          have nl := (h_lp_s hl).1 hd (by omega)
          have sf := h_fp_s bb.1 hf
          have hl1 : h_lp A 0 (if r + 1 < g_bf P 0 k then r + 1 else g_bf P 0 k) bo := by rw [if_neg (by omega)]; exact hb
          have e1 : (if r + 1 < g_bf P 0 k then g_bf P 0 k else r + 1) = r + 1 := if_neg (by omega)
          by_cases q : fo = -1
          · rw [eo, if_pos (io.1.mpr q)] at g1
            refine ih (r + 1) y1 y2 y3 r r bo _ (by omega) (by omega) (by omega) hl1 (by rw [e1]; exact sf.1 hd (by omega) q) (by rw [e1]; exact nl) ?_ ?_ (by rw [g3]; exact eb)
            · rw [g1]; unfold h_it; rw [if_neg (by omega)]
            · rw [g2]; unfold h_it; rw [if_neg (by omega)]
          · rw [eo, if_neg (fun y => q (io.1.mp y))] at g1
            refine ih (r + 1) y1 y2 y3 fo r bo _ (by omega) (by omega) (by omega) hl1 (by rw [e1]; exact sf.2.1 hd q) (by rw [e1]; exact nl) g1 ?_ (by rw [g3]; exact eb)
            rw [g2]; unfold h_it; rw [if_neg (by omega)]
      · rw [if_pos (rr.2.mpr hd)] at g1 g2 g3
        rw [g1, g2, g3]
        by_cases lt : r < g_bf P 0 k
        · rw [if_pos lt] at hb hf hl
          have nb := (h_lp_s hb).2 hd
          refine ih (r + 1) xo xl xb fo lo bo _ (by omega) (by omega) (by omega) ?_ ?_ ?_ eo el eb
          · by_cases q : r + 1 < g_bf P 0 k
            · rw [if_pos q]; exact nb
            · rw [if_neg q, show g_bf P 0 k = r + 1 by omega]; exact nb
          · by_cases q : r + 1 < g_bf P 0 k
            · rw [if_pos q]; exact hf
            · rw [if_neg q, show r + 1 = g_bf P 0 k by omega]; exact hf
          · by_cases q : r + 1 < g_bf P 0 k
            · rw [if_pos q]; exact hl
            · rw [if_neg q, show r + 1 = g_bf P 0 k by omega]; exact hl
        · rw [if_neg lt] at hb hf hl
          have e1 : (if r + 1 < g_bf P 0 k then g_bf P 0 k else r + 1) = r + 1 := if_neg (by omega)
          exact ih (r + 1) xo xl xb fo lo bo _ (by omega) (by omega) (by omega) (by rw [if_neg (by omega)]; exact hb) (by rw [e1]; exact (h_fp_s bb.1 hf).2.2 hd) (by rw [e1]; exact (h_lp_s hl).2 hd) eo el eb
  have i1 : h_it A (-1) = -1 := if_pos rfl
  refine step (P 0 k).toNat 0 (-1) (-1) (-1) (-1) (-1) (-1) u14 (by omega) (Int.le_refl _) (by omega) (Or.inl ⟨rfl, fun r a b => by split at b <;> omega⟩) (Or.inl ⟨rfl, fun r a b => by split at b <;> omega⟩) (Or.inl ⟨rfl, fun r a b => by split at b <;> omega⟩) i1.symm i1.symm i1.symm
theorem L222 {u : Nat} {h : qH} {M : qM} (hu : k_h u h) (hx : k_as B en W R L M) (ha : k_all B R L M) (hex : ∀ p, ∃ v, z_kd B R p v) (H : ∀ h', k_h (u + 130) h' → f 1 h' M) : e222 (d + 5) h M f := by
  have cx := hx.1.1
  have hm := hx.1.2
  have p61 := ha.1.2
  have z := cx.2.2 hm
  obtain ⟨ob, B1, R1, out⟩ := z.2.2.1
  have tb := c_tot_b cx.1.1.1 out z.2.1
  have pb := c_p0_b cx.1.1.1
  refine w222 (M := M) hu.1 ?_
  refine q_upto (P := fun p => 1 ≤ p → ∀ (h1 : qH) (u7 u8 u9 u10 u11 u12 u13 u14 : qV), k_h (u + 2 * (p - 1).toNat) h1 → b222_3 d h1 f p u7 u8 u9 u10 u11 u12 u13 u14 M) (a := 1) (b := c_tot B R L + 1) (by omega) (fun _ h1 u7 u8 u9 u10 u11 u12 u13 u14 hu1 => ?_) (fun p p0 p1 ih _ h1 u7 u8 u9 u10 u11 u12 u13 u14 hu1 => ?_) (Int.le_refl _) h _ _ _ _ _ _ _ _ (k_h_up hu (by omega))
  · have hu2 := k_h_bump hu1
    have hu3 := k_h_bump hu2
    have hu4 := k_h_bump hu3
    have hu5 := k_h_bump hu4
    have e6 := ha.1.1
    have no : ¬ z_pg B R L M (c_tot B R L + 1) := fun q => absurd (q.2 hm) (by omega)
    have no0 : ¬ z_pg B R L M 0 := fun q => absurd q.1 (by decide)
    refine w222_3 hu1.1 ⟨fun y => absurd y (by omega), fun _ => ⟨⟨by omega, by omega⟩, ?_⟩⟩
    rw [e6]
    refine A170 hu1.1 cx (fun q => absurd q no) (fun q => absurd q no) (fun _ => ⟨fun _ => ?_, fun y => absurd rfl y⟩)
    refine A170 hu2.1 cx (fun q => absurd q no0) (fun q => absurd q no0) (fun _ => ⟨fun _ => ⟨⟨by omega, by omega⟩, ?_⟩, fun y => absurd rfl y⟩)
    rw [e6]
    refine A173 hu3.1 cx (fun q => absurd q no) (fun q => absurd q no) (fun q => absurd q no) (fun _ => ⟨fun _ => ?_, fun y => absurd rfl y⟩)
    refine A179 hu4.1 cx (fun q => absurd q no0) (fun q => absurd q no0) (fun _ => ⟨fun _ => ?_, fun y => absurd rfl y⟩)
    refine A169 hu5.1 cx (fun _ => ?_) (fun m => absurd m hm)
    rw [e6]
    refine ⟨fun _ => A185 hu5.1 cx (fun _ => ?_) (fun m => absurd m hm), fun y => absurd rfl y⟩
    rw [e6]
    refine ⟨⟨by omega, by omega⟩, by omega, fun x hx' => ?_⟩
    rw [if_pos rfl] at hx'
    rw [hx']
    exact ⟨Or.inr rfl, H _ (k_h_up hu5 (by omega))⟩
  · obtain ⟨v, hv⟩ := hex p
    have hp : 1 ≤ p ∧ p ≤ c_tot B R L := ⟨p0, by omega⟩
    have pg : z_pg B R L M p := ⟨hp.1, fun _ => hp.2⟩
    have b62 : 0 ≤ p ∧ p < 62 := by omega
    have pf := k_pf hx ha hp hv
    have hu2 := k_h_bump hu1
    have hu3 := k_h_bump hu2
    refine w222_3 hu1.1 ⟨fun _ => ⟨b62, b62, L206a hu1.1 ⟨b62, L206n hu1.1 (A170 hu1.1 cx (fun _ _ v' hv' => ?_) (fun _ m => absurd m hm) (fun q => absurd pg q))⟩⟩, fun y => absurd (show p ≤ M 76 0 6 by rw [ha.1.1]; exact hp.2) y⟩
    have ev : v' = v := by rw [← (k_pf hx ha hp hv').2.2.1]; exact pf.2.2.1
    rw [k_a7, pf.2.2.1]
    refine ⟨fun _ => ?_, fun y => absurd ev y⟩
    refine A173 hu1.1 cx (fun _ q => absurd q (by decide)) (fun _ q => absurd q (by decide)) (fun _ _ => ⟨fun _ => ?_, fun y => absurd rfl y⟩) (fun q => absurd pg q)
    refine A173 hu2.1 cx (fun _ q => absurd q (by decide)) (fun _ q => absurd q (by decide)) (fun _ _ => ⟨fun _ => ?_, fun y => absurd rfl y⟩) (fun q => absurd pg q)
    exact k_98h hu3 hx ha hp hv (fun u7 u8 u9 u10 u11 u12 u13 u14 => ih (by omega) _ _ _ _ _ _ _ _ _ (k_h_up hu3 (by omega)))
end
