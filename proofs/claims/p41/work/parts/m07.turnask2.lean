/-! ===== behind a turn, to its end ===== -/
section
variable {d : Nat} {h : qH} {sc : Int × (Int → Int)} {f : Int → qH → qM → Prop} {x25 : Int} {M : qM} {B : pT} {n en L : Int} {W : Int → Int} {R : c_R}
/-- untouched, where nothing was printed -/
theorem A186z {F : Int → qH → qM → Prop} (hS : qSe h) (hx : k_as B en W R L M) (h9 : M 10 0 9 = 0) (H : F 0 h M) : e186 (d + 7) h M F := by
  have hB := hx.1.1.1.1.1
  have zx := hx.1.1.2.2 hx.1.2
  obtain ⟨ob, B1, R1, out⟩ := zx.2.2.1
  have tb := c_tot_b hB out zx.2.1
  have pb := c_p0_b hB
  obtain ⟨e0, h8, he⟩ := hx.1.1.1.2.2.2
  have e8 := zx.1
  refine W186 (t132 hS (C := fun _ => True) (e' := 0) (was := 0) (en := en) (tot := c_tot B R L) e8 (Or.inl h9) (by omega) zx.2.2.2.1.2.2.2.2.2 (fun z => absurd h9 z) ⟨by omega, by omega⟩ (fun z => absurd h9 z) (fun z => absurd h9 z) (fun z => absurd z hx.1.2) (fun _ => ?_))
  rw [if_pos h9]
  exact H
theorem k_1576 {u : Nat} {u26 u27 u28 u29 u30 : qV} (hu : k_h u h) (ha : l_all n B M) (hq : l_ask B en W R L M) (K : ∀ u31 u32 u33 u34, b269_1627 d h sc f x25 u26 u27 u28 u29 u30 u31 u32 u33 u34 M) {u31 u32 u33 u34 : qV} : b269_1576 d h sc f x25 u26 u27 u28 u29 u30 u31 u32 u33 u34 M := by
  have hS := hu.1
  obtain ⟨hx, hall, h40, _⟩ := hq
  have hp := ha.2.2
  have b3 := hx.2.1.1
  refine w269_1576 hS ?_
  rcases hp with ⟨p1, p2⟩ | ⟨p1, Bo, Wo, Ro, Lo, e', N0, p2, p3, p4, p5⟩
  · exact A186z hS hx p1 ⟨fun _ => ⟨fun _ => K _ _ _ _, fun z => absurd rfl z⟩, fun z => absurd p2 z⟩
  · refine A186 hS hx hall p4 p2 ⟨fun z => by omega, fun _ => ?_⟩
    have t61 := hall.1.2
    have w61 := p4.1.2.1.1.2
    have hB := hx.1.1.1.1.1
    have zx := hx.1.1.2.2 hx.1.2
    obtain ⟨ob, B1, R1, out⟩ := zx.2.2.1
    have tb := c_tot_b hB out zx.2.1
    have pb := c_p0_b hB
    have hBo := p2.2.1.1
    have hBo2 := p2.2.1.2
    obtain ⟨ob', B2, R2, out'⟩ := p2.2.2.1
    have tbo := c_tot_b hBo out' p2.2.2.2.1
    have pbo := c_p0_b hBo
    have t0 : 0 ≤ c_tot B R L := by clear tbo pbo; omega
    have w0 : 0 ≤ c_tot Bo Ro Lo := by clear tb pb; omega
    have si := fun p a b c => s_iff hx hall p2 p4 p3 (p := p) a b c
    refine L224 hS hx (tot := c_tot B R L) (was := c_tot Bo Ro Lo) ⟨hall.1.1, t0, t61⟩ ⟨p4.2.1, w0, w61⟩ (fun it a b => by rw [p4.2.2.2.2.2.1 it a (by omega)]; exact k_O_b hBo hBo2 p4.1.1.2.1.1 it a (by omega)) (fun p a b c => (si p a b c).2) ?_
    have eq : u_cnt (c_tot B R L) (c_tot Bo Ro Lo) (u_C M R Ro en e') (((if c_tot B R L < c_tot Bo Ro Lo then c_tot Bo Ro Lo else c_tot B R L) + 3) / 4) = u_cnt (c_tot B R L) (c_tot Bo Ro Lo) (s_pg B R M) (((if c_tot B R L < c_tot Bo Ro Lo then c_tot Bo Ro Lo else c_tot B R L) + 3) / 4) := by
      have nn : 0 ≤ ((if c_tot B R L < c_tot Bo Ro Lo then c_tot Bo Ro Lo else c_tot B R L) + 3) / 4 := by
        clear si tb tbo pb pbo
        by_cases q : c_tot B R L < c_tot Bo Ro Lo
        · rw [if_pos q]; omega
        · rw [if_neg q]; omega
      exact s_cnt nn (fun p a b c => (si p a b c).1)
    exact ⟨fun _ => K _ _ _ _, fun z => absurd eq z⟩
theorem k_1382 {u : Nat} {u26 u27 u28 u29 u30 : qV} (hu : k_h u h) (ha : l_all n B M) (hq : l_ask B en W R L M) (K : ∀ h' N, k_h (u + 270) h' → l_all n B N → ∀ u31 u32 u33 u34, b269_1627 (d + 8) h' sc f x25 u26 u27 u28 u29 u30 u31 u32 u33 u34 N) {u32 u33 u34 : qV} : b269_1382 (d + 8) h sc f x25 u26 u27 u28 u29 u30 0 u32 u33 u34 M := by
  refine q_upto (P := fun c => 0 ≤ c → ∀ (h1 : qH) (N : qM) (u32 u33 u34 : qV), k_h (u + 90 * c.toNat) h1 → k_sx M N → b269_1382 (d + 8) h1 sc f x25 u26 u27 u28 u29 u30 c u32 u33 u34 N) (a := 0) (b := 3) (by decide) (fun _ h1 N u32 u33 u34 hu1 sx => ?_) (fun c c0 c1 ih _ h1 N u32 u33 u34 hu1 sx => ?_) (Int.le_refl _) h M _ _ _ hu (fun _ _ _ _ _ _ _ => rfl)
  · refine w269_1382 hu1.1 ⟨fun z => absurd z (by decide), fun _ => ?_⟩
    exact k_1576 hu1 (l_scr ha sx) (l_ask_sx hq sx) (fun u31 u32 u33 u34 => K h1 N hu1 (l_scr ha sx) _ _ _ _)
  · have hc : 0 ≤ c ∧ c < 3 := ⟨c0, c1⟩
    have hxN := (l_ask_sx hq sx).1
    refine w269_1382 hu1.1 ⟨fun _ => L221 hu1 hxN hc (fun h2 N2 hu2 sx2 => ⟨fun z => absurd z (by decide), fun _ => ?_⟩), fun z => absurd c1 z⟩
    have hx2 := k_as_fr hxN sx2
    have hB := hx2.1.1.1.1.1
    have zx := hx2.1.1.2.2 hx2.1.2
    obtain ⟨ob, B1, R1, out⟩ := zx.2.2.1
    refine L220 hu2 hB hx2.1.1.1.1.2 hx2.2.1.1 hx2.2.2.1 out hx2.2.2.2.2.2.1 hc (fun q => hx2.2.2.2.2.2.2 c c0 c1 q) (fun h3 N3 hu3 f98 i w i0 i1 w0 w1 F HF => ?_) (fun h3 N3 hu3 f98 => ⟨fun z => absurd z (by decide), fun _ => ?_⟩)
    · have hx3 := k_as_fr hx2 (k_sx_98 f98)
      have it : c_it B c i := ⟨hc, i0, i1⟩
      exact A180 hu3.1 hx3.1.1 (fun _ _ => HF) (fun _ z => absurd z hx3.1.2) (fun z => absurd ⟨it, w0, w1⟩ z)
    · have sx3 : k_sx M N3 := k_sx_t (k_sx_t sx sx2) (k_sx_98 f98)
      refine k_1436 hu3 (k_as_fr hx2 (k_sx_98 f98)) hc (fun h4 N4 hu4 sx4 u32 u33 u34 => w269_1570 hu4.1 ⟨⟨by omega, by omega⟩, ih (by omega) h4 N4 _ _ _ (k_h_up hu4 (by omega)) (k_sx_t sx3 sx4)⟩)
theorem k_1318 {u : Nat} {u26 u27 u28 u29 u30 : qV} (hu : k_h u h) (ha : l_all n B M) (hq : l_ask B en W R L M) (K : ∀ h' N, k_h (u + 430) h' → l_all n B N → ∀ u31 u32 u33 u34, b269_1627 (d + 8) h' sc f x25 u26 u27 u28 u29 u30 u31 u32 u33 u34 N) {u31 u32 u33 u34 : qV} : b269_1318 (d + 8) h sc f x25 u26 u27 u28 u29 u30 u31 u32 u33 u34 M := by
  obtain ⟨hx, hall, h40, a28, a9, a8⟩ := id hq
  have m := hx.1.2
  have e2 : M 76 0 2 = B 8 1 := hx.2.2.1.2.2.2.2.1
  refine w269_1318 hu.1 (A168 hu.1 (fun _ => ⟨fun _ => A176 hu.1 hx.1.1 (fun _ => ⟨fun _ => ?_, fun z => absurd a8.symm z⟩) (fun z => absurd z m), fun z => absurd a9.symm z⟩) (fun z => absurd z m))
  refine L222 hu hx hall (fun p => z_kd_ex) (fun h1 hu1 => ⟨fun z => absurd z (by decide), fun _ => ?_⟩)
  rw [e2]
  refine L223 hu1 hx h40 ha.1.2.2.2.2.1 a28 (fun h2 hu2 => ⟨fun z => absurd z (by decide), fun _ => ?_⟩)
  exact k_1382 hu2 ha hq (fun h3 N hu3 haN u31 u32 u33 u34 => K h3 N (k_h_up hu3 (by omega)) haN _ _ _ _)
theorem k_1234 {u : Nat} {x30 : Int} (hu : k_h u h) (ha : l_all n B M) (hq : x30 = 0 ∨ (x30 = 1 ∧ ∃ en W R L, l_ask B en W R L M)) (K : ∀ h' N, k_h (u + 470) h' → l_all n B N → ∀ u26 u27 u28 u29 u30 u31 u32 u33 u34, b269_1627 (d + 8) h' sc f x25 u26 u27 u28 u29 u30 u31 u32 u33 u34 N) {u26 u27 u28 u31 u32 u33 u34 : qV} : b269_1234 (d + 8) h sc f x25 u26 u27 u28 1 x30 u31 u32 u33 u34 M := by
  have hS := hu.1
  have zc := ha.1.1
  have bk := ha.1.2.1.1
  have m13 : M 10 0 13 = (if M 76 0 4 = 1 then 1 else 0) ∧ (M 76 0 4 = 0 → M 10 0 13 = 0) := by
    rcases ha.2.1 with ⟨m1, m2⟩ | ⟨m1, m2, _⟩
    · rw [m1, m2]; exact ⟨rfl, fun _ => rfl⟩
    · rw [m1, m2]; exact ⟨rfl, fun z => absurd z (by decide)⟩
  have go : ∀ (h1 : qH) (u29 u31 u32 u33 u34 : qV), k_h (u + 40) h1 → b269_1279 (d + 8) h1 sc f x25 u26 u27 u28 u29 x30 u31 u32 u33 u34 M := fun h1 u29 u31 u32 u33 u34 hu1 => by
    refine w269_1279 hu1.1 ?_
    refine q_upto (P := fun c => 0 ≤ c → b269_1282 (d + 8) h1 sc f x25 u26 u27 u28 u29 x30 c u32 u33 u34 M) (a := 0) (b := 3) (by decide) (fun _ => w269_1282 hu1.1 ⟨fun z => absurd z (by decide), fun _ => ?_⟩) (fun c c0 c1 ih _ => w269_1282 hu1.1 ⟨fun _ => A161 hu1.1 zc.2.1 (fun _ => ⟨⟨c0, c1⟩, fun _ => ⟨⟨by omega, by omega⟩, ih (by omega)⟩, fun z => absurd (bk.1 c c0 c1).symm z⟩) (fun z => absurd ⟨c0, c1⟩ z), fun z => absurd c1 z⟩) (Int.le_refl _)
    rcases hq with q | ⟨q, en, W, R, L, q2⟩
    · exact w269_1310 hu1.1 ⟨fun _ => K h1 M (k_h_up hu1 (by omega)) ha _ _ _ _ _ _ _ _ _, fun z => absurd q z⟩
    · exact w269_1310 hu1.1 ⟨fun z => by omega, fun _ => k_1318 hu1 ha q2 (fun h2 N hu2 haN u31 u32 u33 u34 => K h2 N (k_h_up hu2 (by omega)) haN _ _ _ _ _ _ _ _ _)⟩
  refine w269_1234 hS ⟨fun z => absurd z (by decide), fun _ => w106 hS ⟨zc.2.2.2.2.2.2, fun x hx => ⟨fun _ => w269_1261 hS ⟨fun m4 => ?_, fun _ => go h _ _ _ _ _ (k_h_up hu (by omega))⟩, fun z => absurd (by rw [hx]; exact m13.1) z⟩⟩⟩
  have m0 := m13.2 m4
  refine L229 (B := B) (en := 0) (W := fun _ => 0) (R := (default : c_R)) (L := 0) hu ⟨zc.2.1, Or.inl m0, fun z => absurd m0 z⟩ m0 (bk.1 0 (by decide) (by decide)) (fun h1 hu1 => ⟨fun z => absurd z (by decide), fun _ => go h1 _ _ _ _ _ hu1⟩)
end
