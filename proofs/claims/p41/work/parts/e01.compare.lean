/-! ===== pages of two editions, compared ===== -/
theorem t36 {d : Nat} {h : qH} (hS : qSe h) {e e' c x y : Int} {M : qM} {F : Int → qM → Prop} (hc : 0 ≤ c ∧ c < 3) (hx : x = y → 0 ≤ x ∧ x < 800) (H1 : x = y ∧ M 23 e (c * 10 + x / 4 / 20) = M 23 e' (c * 10 + x / 4 / 20) → F 1 M) (H0 : ¬ (x = y ∧ M 23 e (c * 10 + x / 4 / 20) = M 23 e' (c * 10 + x / 4 / 20)) → F 0 M) : e36 (d + 2) h e e' c x y M F := by
  refine w36 hS ⟨fun q => ⟨(hx q).1, by have := hx q; omega, t29 hS hc (by have := hx q; omega) (fun z hz => ?_)⟩, fun q => H0 (fun z => q z.1)⟩
  by_cases q2 : M 23 e (c * 10 + x / 4 / 20) = M 23 e' (c * 10 + x / 4 / 20)
  · rw [if_pos q2, if_neg (by decide)] at hz
    rw [hz]; exact ⟨Or.inr rfl, H1 ⟨q, q2⟩⟩
  · rw [if_neg q2, if_pos rfl] at hz
    rw [hz]; exact ⟨Or.inl rfl, H0 (fun z => q2 z.2)⟩
def u_txt (M : qM) (e e' c r : Int) : Prop := ∀ w, M 49 (1 + 3 * e + c) r ≤ w → w < M 50 (1 + 3 * e + c) r → M 25 e (200 * c + 20 * M 48 (1 + 3 * e + c) r + w) = M 25 e' (200 * c + 20 * M 48 (1 + 3 * e + c) r + w) ∧ M 26 e (200 * c + 20 * M 48 (1 + 3 * e + c) r + w) = M 26 e' (200 * c + 20 * M 48 (1 + 3 * e + c) r + w)
theorem t33 {d : Nat} {h : qH} (hS : qSe h) {e e' c r : Int} {M : qM} {F : Int → qM → Prop} (hc : 0 ≤ c ∧ c < 3) (hr : 0 ≤ r ∧ r < 70) (hi : 0 ≤ M 48 (1 + 3 * e + c) r ∧ M 48 (1 + 3 * e + c) r < 10) (hw : 0 ≤ M 49 (1 + 3 * e + c) r ∧ M 49 (1 + 3 * e + c) r ≤ M 50 (1 + 3 * e + c) r ∧ M 50 (1 + 3 * e + c) r ≤ 20) (H1 : u_txt M e e' c r → F 1 M) (H0 : ¬ u_txt M e e' c r → F 0 M) : e33 (d + 2) h e e' c r M F := by
  refine w33 hS ⟨hc, hr, ?_⟩
  refine q_upto (P := fun w => M 49 (1 + 3 * e + c) r ≤ w → (∀ z, M 49 (1 + 3 * e + c) r ≤ z → z < w → M 25 e (200 * c + 20 * M 48 (1 + 3 * e + c) r + z) = M 25 e' (200 * c + 20 * M 48 (1 + 3 * e + c) r + z) ∧ M 26 e (200 * c + 20 * M 48 (1 + 3 * e + c) r + z) = M 26 e' (200 * c + 20 * M 48 (1 + 3 * e + c) r + z)) → ∀ u, b33_17 d h F e e' c r (1 + 3 * e + c) w u M) (a := M 49 (1 + 3 * e + c) r) (b := M 50 (1 + 3 * e + c) r) hw.2.1 (fun _ al u => w33_17 hS ⟨hr, fun q => by omega, fun _ => H1 al⟩) (fun w w0 w1 ih _ al u => ?_) (Int.le_refl _) (fun z a b => by omega) _
  refine w33_17 hS ⟨hr, fun _ => ⟨hr, w147 hS ⟨⟨by omega, by omega⟩, ⟨by omega, by omega⟩, ⟨by omega, by omega⟩, ⟨by omega, by omega⟩, ?_⟩⟩, fun q => by omega⟩
  rw [show (c * 10 + M 48 (1 + 3 * e + c) r) * 20 + w = 200 * c + 20 * M 48 (1 + 3 * e + c) r + w by omega]
  refine ⟨⟨by omega, by omega⟩, ⟨by omega, by omega⟩, fun q1 => ⟨⟨by omega, by omega⟩, ⟨by omega, by omega⟩, fun q2 => ⟨⟨by omega, by omega⟩, ih (by omega) (fun z a b => ?_) _⟩, fun q2 => H0 (fun al => q2 (al w w0 w1).2)⟩, fun q1 => H0 (fun al => q1 (al w w0 w1).1)⟩
  by_cases ez : z = w
  · rw [ez]; exact ⟨q1, q2⟩
  · exact al z a (by omega)
/-- what a chapter is in edition e, for comparing -/
def u_ed (P : pT) (ct e c : Int) (M : qM) : Prop := g_cP P ct (0 + 3 * e + c) M ∧ (0 ≤ ct ∧ ct ≤ 86) ∧ (∀ k, 0 ≤ k → k < ct → (0 ≤ g_bf P 0 k ∧ g_bf P 0 k ≤ P 0 k ∧ P 0 k ≤ M 9 (1 + 3 * e + c) 0) ∧ (0 ≤ g_bf P 1 k ∧ g_bf P 1 k ≤ P 1 k ∧ P 1 k ≤ 4) ∧ (0 ≤ g_bf P 2 k ∧ g_bf P 2 k ≤ P 2 k ∧ P 2 k ≤ 12) ∧ ∀ f, 0 ≤ f → f < P 1 k → 0 ≤ M 59 (1 + 3 * e + c) f ∧ M 59 (1 + 3 * e + c) f < 800) ∧ (∀ k, 0 ≤ k → k < ct → ∀ l, 0 ≤ l → l < P 2 k → 0 ≤ M 60 (1 + 3 * e + c) l ∧ M 60 (1 + 3 * e + c) l < 800) ∧ M 9 (1 + 3 * e + c) 0 ≤ 70 ∧ ∀ r, 0 ≤ r → r < M 9 (1 + 3 * e + c) 0 → (0 ≤ M 48 (1 + 3 * e + c) r ∧ M 48 (1 + 3 * e + c) r < 10) ∧ 0 ≤ M 49 (1 + 3 * e + c) r ∧ M 49 (1 + 3 * e + c) r ≤ M 50 (1 + 3 * e + c) r ∧ M 50 (1 + 3 * e + c) r ≤ 20
def u_rows (M : qM) (P P' : pT) (e e' c k j : Int) : Prop := P 0 k - g_bf P 0 k = P' 0 j - g_bf P' 0 j ∧ ∀ r, 0 ≤ r → r < P 0 k - g_bf P 0 k → p_srow M e e' c (g_bf P 0 k + r) (g_bf P' 0 j + r) ∧ u_txt M e e' c (g_bf P 0 k + r)
theorem t32 {d : Nat} {h : qH} (hS : qSe h) {P P' : pT} {ct ct' e e' c k j : Int} {M : qM} {F : Int → qM → Prop} (hc : 0 ≤ c ∧ c < 3) (hu : u_ed P ct e c M) (hu' : u_ed P' ct' e' c M) (hk : 0 ≤ k ∧ k < ct) (hj : 0 ≤ j ∧ j < ct') (H1 : u_rows M P P' e e' c k j → F 1 M) (H0 : ¬ u_rows M P P' e e' c k j → F 0 M) : e32 (d + 3) h e e' c k j M F := by
  obtain ⟨a1, a2, a3, a4, a5, a6⟩ := hu
  obtain ⟨b1, b2, b3, b4, b5, b6⟩ := hu'
  have pk := a3 k hk.1 hk.2
  have pj := b3 j hj.1 hj.2
  have ek := a1.2 k hk.1 hk.2
  have ej := b1.2 j hj.1 hj.2
  refine w32 hS ⟨hc, t82 hS ⟨by omega, by omega⟩ ?_⟩
  rw [(g_bf_at a1 (k := k) ⟨hk.1, by omega⟩).1]
  refine ⟨hc, t82 hS ⟨by omega, by omega⟩ ?_⟩
  rw [(g_bf_at b1 (k := j) ⟨hj.1, by omega⟩).1, ek.1, ej.1]
  refine ⟨hc, ⟨hk.1, by omega⟩, ⟨by omega, by omega⟩, hc, ⟨hj.1, by omega⟩, ⟨by omega, by omega⟩, fun q => ?_, fun q => H0 (fun z => q z.1)⟩
  refine q_upto (P := fun r => 0 ≤ r → (∀ z, 0 ≤ z → z < r → p_srow M e e' c (g_bf P 0 k + z) (g_bf P' 0 j + z) ∧ u_txt M e e' c (g_bf P 0 k + z)) → ∀ u3 u4, b32_66 d h F e e' c u3 u4 (g_bf P 0 k) (g_bf P' 0 j) (P 0 k - g_bf P 0 k) r M) (a := 0) (b := P 0 k - g_bf P 0 k) (by omega) (fun _ al u3 u4 => w32_66 hS ⟨fun q => by omega, fun _ => H1 ⟨q, al⟩⟩) (fun r r0 r1 ih _ al u3 u4 => ?_) (Int.le_refl _) (fun z a b => by omega) _ _
  have rw' := a6 (g_bf P 0 k + r) (by omega) (by omega)
  refine w32_66 hS ⟨fun _ => ⟨⟨by omega, by omega⟩, ⟨by omega, by omega⟩, t30 hS hc ⟨by omega, by omega⟩ ⟨by omega, by omega⟩ (fun _ => rw'.1) (fun sr => ⟨fun q => absurd q (by decide), fun _ => ⟨⟨by omega, by omega⟩, t33 hS hc ⟨by omega, by omega⟩ rw'.1 rw'.2 (fun tx => ⟨fun q => absurd q (by decide), fun _ => ⟨⟨by omega, by omega⟩, ih (by omega) (fun z a b => ?_) _ _⟩⟩) (fun tx => ⟨fun _ => H0 (fun z => tx (z.2 r r0 r1).2), fun q => absurd rfl q⟩)⟩⟩) (fun sr => ⟨fun _ => H0 (fun z => sr (z.2 r r0 r1).1), fun q => absurd rfl q⟩)⟩, fun q => absurd r1 q⟩
  by_cases ez : z = r
  · rw [ez]; exact ⟨sr, tx⟩
  · exact al z a (by omega)
/-- pieces of kind kd (59 floats, 60 notes) from f and from f' on, n of them -/
def u_pcs (M : qM) (kd : Nat) (e e' c f f' n : Int) : Prop := ∀ z, 0 ≤ z → z < n → M kd (1 + 3 * e + c) (f + z) = M kd (1 + 3 * e' + c) (f' + z) ∧ M 23 e (c * 10 + M kd (1 + 3 * e + c) (f + z) / 4 / 20) = M 23 e' (c * 10 + M kd (1 + 3 * e + c) (f + z) / 4 / 20)
theorem t34 {d : Nat} {h : qH} (hS : qSe h) {P P' : pT} {ct ct' e e' c k j : Int} {M : qM} {F : Int → qM → Prop} (hc : 0 ≤ c ∧ c < 3) (hu : u_ed P ct e c M) (hu' : u_ed P' ct' e' c M) (hk : 0 ≤ k ∧ k < ct) (hj : 0 ≤ j ∧ j < ct') (H1 : P 1 k - g_bf P 1 k = P' 1 j - g_bf P' 1 j ∧ u_pcs M 59 e e' c (g_bf P 1 k) (g_bf P' 1 j) (P 1 k - g_bf P 1 k) → F 1 M) (H0 : ¬ (P 1 k - g_bf P 1 k = P' 1 j - g_bf P' 1 j ∧ u_pcs M 59 e e' c (g_bf P 1 k) (g_bf P' 1 j) (P 1 k - g_bf P 1 k)) → F 0 M) : e34 (d + 3) h e e' c k j M F := by
  obtain ⟨a1, a2, a3, a4, a5, a6⟩ := hu
  obtain ⟨b1, b2, b3, b4, b5, b6⟩ := hu'
  have pk := (a3 k hk.1 hk.2).2.1
  have pj := (b3 j hj.1 hj.2).2.1
  have ek := (a1.2 k hk.1 hk.2).2.1
  have ej := (b1.2 j hj.1 hj.2).2.1
  have vp := (a3 k hk.1 hk.2).2.2.2
  refine w34 hS ⟨hc, t83 hS ⟨by omega, by omega⟩ ?_⟩
  rw [(g_bf_at a1 (k := k) ⟨hk.1, by omega⟩).2.1]
  refine ⟨hc, t83 hS ⟨by omega, by omega⟩ ?_⟩
  rw [(g_bf_at b1 (k := j) ⟨hj.1, by omega⟩).2.1, ek, ej]
  refine ⟨hc, ⟨hk.1, by omega⟩, ⟨by omega, by omega⟩, hc, ⟨hj.1, by omega⟩, ⟨by omega, by omega⟩, fun y hy => ?_⟩
  by_cases q : P 1 k - g_bf P 1 k = P' 1 j - g_bf P' 1 j
  · rw [if_pos q] at hy
    rw [hy]
    refine q_upto (P := fun z => 0 ≤ z → (∀ i, 0 ≤ i → i < z → M 59 (1 + 3 * e + c) (g_bf P 1 k + i) = M 59 (1 + 3 * e' + c) (g_bf P' 1 j + i) ∧ M 23 e (c * 10 + M 59 (1 + 3 * e + c) (g_bf P 1 k + i) / 4 / 20) = M 23 e' (c * 10 + M 59 (1 + 3 * e + c) (g_bf P 1 k + i) / 4 / 20)) → ∀ u3 u4, b34_71 d h F e e' c u3 u4 (g_bf P 1 k) (g_bf P' 1 j) (P 1 k - g_bf P 1 k) 1 z M) (a := 0) (b := P 1 k - g_bf P 1 k) (by omega) (fun _ al u3 u4 => w34_71 hS ⟨fun z => by omega, fun _ => ⟨Or.inr rfl, H1 ⟨q, al⟩⟩⟩) (fun z z0 z1 ih _ al u3 u4 => ?_) (Int.le_refl _) (fun i a b => by omega) _ _
    have v := vp (g_bf P 1 k + z) (by omega) (by omega)
    refine w34_71 hS ⟨fun _ => ⟨fun y => absurd y (by decide), fun _ => ⟨hc, ⟨by omega, by omega⟩, ⟨by omega, by omega⟩, hc, ⟨by omega, by omega⟩, ⟨by omega, by omega⟩, t36 hS hc (fun _ => v) (fun s => ⟨⟨by omega, by omega⟩, ih (by omega) (fun i a b => ?_) _ _⟩) (fun s => ⟨⟨by omega, by omega⟩, ?_⟩)⟩⟩, fun y => absurd z1 y⟩
    · by_cases ei : i = z
      · rw [ei]; exact s
      · exact al i a (by omega)
    · have no : F 0 M := H0 (fun al => s (al.2 z z0 z1))
      exact w34_71 hS ⟨fun _ => ⟨fun _ => ⟨Or.inl rfl, no⟩, fun y => absurd rfl y⟩, fun _ => ⟨Or.inl rfl, no⟩⟩
  · rw [if_neg q] at hy
    rw [hy]
    have no : F 0 M := H0 (fun al => q al.1)
    exact w34_71 hS ⟨fun _ => ⟨fun _ => ⟨Or.inl rfl, no⟩, fun y => absurd rfl y⟩, fun _ => ⟨Or.inl rfl, no⟩⟩
theorem t35 {d : Nat} {h : qH} (hS : qSe h) {P P' : pT} {ct ct' e e' c k j : Int} {M : qM} {F : Int → qM → Prop} (hc : 0 ≤ c ∧ c < 3) (hu : u_ed P ct e c M) (hu' : u_ed P' ct' e' c M) (hk : 0 ≤ k ∧ k < ct) (hj : 0 ≤ j ∧ j < ct') (H1 : P 2 k - g_bf P 2 k = P' 2 j - g_bf P' 2 j ∧ u_pcs M 60 e e' c (g_bf P 2 k) (g_bf P' 2 j) (P 2 k - g_bf P 2 k) → F 1 M) (H0 : ¬ (P 2 k - g_bf P 2 k = P' 2 j - g_bf P' 2 j ∧ u_pcs M 60 e e' c (g_bf P 2 k) (g_bf P' 2 j) (P 2 k - g_bf P 2 k)) → F 0 M) : e35 (d + 3) h e e' c k j M F := by
  obtain ⟨a1, a2, a3, a4, a5, a6⟩ := hu
  obtain ⟨b1, b2, b3, b4, b5, b6⟩ := hu'
  have pk := (a3 k hk.1 hk.2).2.2.1
  have pj := (b3 j hj.1 hj.2).2.2.1
  have ek := (a1.2 k hk.1 hk.2).2.2.1
  have ej := (b1.2 j hj.1 hj.2).2.2.1
  have vp := a4 k hk.1 hk.2
  refine w35 hS ⟨hc, w84 hS ⟨fun _ => ⟨⟨by omega, by omega⟩, by omega, by omega⟩, fun x hx => ?_⟩⟩
  rw [hx, (g_bf_at a1 (k := k) ⟨hk.1, by omega⟩).2.2]
  refine ⟨hc, w84 hS ⟨fun _ => ⟨⟨by omega, by omega⟩, by omega, by omega⟩, fun x' hx' => ?_⟩⟩
  rw [hx', (g_bf_at b1 (k := j) ⟨hj.1, by omega⟩).2.2, ek, ej]
  refine ⟨hc, ⟨hk.1, by omega⟩, ⟨by omega, by omega⟩, hc, ⟨hj.1, by omega⟩, ⟨by omega, by omega⟩, fun y hy => ?_⟩
  by_cases q : P 2 k - g_bf P 2 k = P' 2 j - g_bf P' 2 j
  · rw [if_pos q] at hy
    rw [hy]
    refine q_upto (P := fun z => 0 ≤ z → (∀ i, 0 ≤ i → i < z → M 60 (1 + 3 * e + c) (g_bf P 2 k + i) = M 60 (1 + 3 * e' + c) (g_bf P' 2 j + i) ∧ M 23 e (c * 10 + M 60 (1 + 3 * e + c) (g_bf P 2 k + i) / 4 / 20) = M 23 e' (c * 10 + M 60 (1 + 3 * e + c) (g_bf P 2 k + i) / 4 / 20)) → ∀ u3 u4, b35_71 d h F e e' c u3 u4 (g_bf P 2 k) (g_bf P' 2 j) (P 2 k - g_bf P 2 k) 1 z M) (a := 0) (b := P 2 k - g_bf P 2 k) (by omega) (fun _ al u3 u4 => w35_71 hS ⟨fun z => by omega, fun _ => ⟨Or.inr rfl, H1 ⟨q, al⟩⟩⟩) (fun z z0 z1 ih _ al u3 u4 => ?_) (Int.le_refl _) (fun i a b => by omega) _ _
    have v := vp (g_bf P 2 k + z) (by omega) (by omega)
    refine w35_71 hS ⟨fun _ => ⟨fun y => absurd y (by decide), fun _ => ⟨hc, ⟨by omega, by omega⟩, ⟨by omega, by omega⟩, hc, ⟨by omega, by omega⟩, ⟨by omega, by omega⟩, t36 hS hc (fun _ => v) (fun s => ⟨⟨by omega, by omega⟩, ih (by omega) (fun i a b => ?_) _ _⟩) (fun s => ⟨⟨by omega, by omega⟩, ?_⟩)⟩⟩, fun y => absurd z1 y⟩
    · by_cases ei : i = z
      · rw [ei]; exact s
      · exact al i a (by omega)
    · have no : F 0 M := H0 (fun al => s (al.2 z z0 z1))
      exact w35_71 hS ⟨fun _ => ⟨fun _ => ⟨Or.inl rfl, no⟩, fun y => absurd rfl y⟩, fun _ => ⟨Or.inl rfl, no⟩⟩
  · rw [if_neg q] at hy
    rw [hy]
    have no : F 0 M := H0 (fun al => q al.1)
    exact w35_71 hS ⟨fun _ => ⟨fun _ => ⟨Or.inl rfl, no⟩, fun y => absurd rfl y⟩, fun _ => ⟨Or.inl rfl, no⟩⟩
/-- the page is the same in both editions: u its kind in e, u' in e' -/
def u_pg (M : qM) (P P' : Int → pT) (fi fi' : Int → Int) (e e' p u u' : Int) : Prop := u = u' ∧ (u < 3 → P u 3 (p - fi u) = P' u 3 (p - fi' u) ∧ u_rows M (P u) (P' u) e e' u (p - fi u) (p - fi' u) ∧ (P u 1 (p - fi u) - g_bf (P u) 1 (p - fi u) = P' u 1 (p - fi' u) - g_bf (P' u) 1 (p - fi' u) ∧ u_pcs M 59 e e' u (g_bf (P u) 1 (p - fi u)) (g_bf (P' u) 1 (p - fi' u)) (P u 1 (p - fi u) - g_bf (P u) 1 (p - fi u))) ∧ P u 2 (p - fi u) - g_bf (P u) 2 (p - fi u) = P' u 2 (p - fi' u) - g_bf (P' u) 2 (p - fi' u) ∧ u_pcs M 60 e e' u (g_bf (P u) 2 (p - fi u)) (g_bf (P' u) 2 (p - fi' u)) (P u 2 (p - fi u) - g_bf (P u) 2 (p - fi u)))
def u_kd (M : qM) (e : Int) (fi ct : Int → Int) (p v : Int) : Prop := (p ≤ M 3 e 3 ∧ v = 3) ∨ (M 3 e 3 < p ∧ (0 ≤ v ∧ v < 3) ∧ (fi v ≤ p ∧ p < fi v + ct v)) ∨ (M 3 e 3 < p ∧ (∀ c, 0 ≤ c → c < 3 → ¬ (fi c ≤ p ∧ p < fi c + ct c)) ∧ v = if p ≤ M 3 e 4 then 4 else 5)
theorem t31 {d : Nat} {h : qH} (hS : qSe h) {P P' : Int → pT} {fi fi' ct ct' : Int → Int} {e e' p : Int} {M : qM} {F : Int → qM → Prop} (h8 : ∀ c, 0 ≤ c → c < 3 → (M 8 (0 + 3 * e + c) 0 = fi c ∧ M 8 (0 + 3 * e + c) 1 = ct c ∧ (0 ≤ fi c ∧ fi c ≤ 1000) ∧ 0 ≤ ct c ∧ ct c ≤ 86) ∧ (M 8 (0 + 3 * e' + c) 0 = fi' c ∧ M 8 (0 + 3 * e' + c) 1 = ct' c ∧ (0 ≤ fi' c ∧ fi' c ≤ 1000) ∧ 0 ≤ ct' c ∧ ct' c ≤ 86)) (hu : ∀ c, 0 ≤ c → c < 3 → u_ed (P c) (ct c) e c M ∧ u_ed (P' c) (ct' c) e' c M) (hp : 0 ≤ p ∧ p ≤ 1000)
    (H1 : ∀ u u', u_kd M e fi ct p u → u_kd M e' fi' ct' p u' → u_pg M P P' fi fi' e e' p u u' → F 1 M) (H0 : ∀ u u', u_kd M e fi ct p u → u_kd M e' fi' ct' p u' → ¬ u_pg M P P' fi fi' e e' p u u' → F 0 M) : e31 (d + 4) h e e' p M F := by
  refine w31 hS (t27 hS (fi := fi) (ct := ct) (fun c a b => by have := (h8 c a b).1; exact ⟨this.1, this.2.1, this.2.2.1, this.2.2.2.1, by omega⟩) (fun u hu1 => t27 hS (fi := fi') (ct := ct') (fun c a b => by have := (h8 c a b).2; exact ⟨this.1, this.2.1, this.2.2.1, this.2.2.2.1, by omega⟩) (fun u' hu2 => ?_)))
  have K1 : u_kd M e fi ct p u := hu1
  have K2 : u_kd M e' fi' ct' p u' := hu2
  refine ⟨fun eu => ⟨fun lt => ?_, fun ge => H1 u u' K1 K2 ⟨eu, fun z => absurd z ge⟩⟩, fun ne => H0 u u' K1 K2 (fun z => ne z.1)⟩
  have r1 : (0 ≤ u ∧ u < 3) ∧ (fi u ≤ p ∧ p < fi u + ct u) := by
    rcases hu1 with z | z | z
    · omega
    · exact ⟨z.2.1, z.2.2⟩
    · have := z.2.2; split at this <;> omega
  have r2 : fi' u ≤ p ∧ p < fi' u + ct' u := by
    rcases hu2 with z | z | z
    · omega
    · rw [eu]; exact z.2.2
    · have := z.2.2; split at this <;> omega
  have hc := r1.1
  have b := h8 u hc.1 hc.2
  have ue := hu u hc.1 hc.2
  have ek := (ue.1.1.2 (p - fi u) (by omega) (by omega)).2.2.2.1
  have ej := (ue.2.1.2 (p - fi' u) (by omega) (by omega)).2.2.2.1
  rw [b.1.1, b.2.1, ek, ej]
  refine ⟨hc, ⟨by omega, by omega⟩, hc, ⟨by omega, by omega⟩, hc, ⟨by omega, by omega⟩, hc, ⟨by omega, by omega⟩, fun gr => ?_, fun gr => H0 u u' K1 K2 (fun z => gr (z.2 lt).1)⟩
  refine t32 hS hc ue.1 ue.2 ⟨by omega, by omega⟩ ⟨by omega, by omega⟩ (fun a => ⟨fun q => absurd q (by decide), fun _ => t34 hS hc ue.1 ue.2 ⟨by omega, by omega⟩ ⟨by omega, by omega⟩ (fun a2 => ⟨fun q => absurd q (by decide), fun _ => t35 hS hc ue.1 ue.2 ⟨by omega, by omega⟩ ⟨by omega, by omega⟩ (fun a3 y hy => ?_) (fun a3 y hy => ?_)⟩) (fun a2 => ⟨fun _ => H0 u u' K1 K2 (fun z => a2 (z.2 lt).2.2.1), fun q => absurd rfl q⟩)⟩) (fun a => ⟨fun _ => H0 u u' K1 K2 (fun z => a (z.2 lt).2.1), fun q => absurd rfl q⟩)
  · rw [if_neg (by decide)] at hy
    rw [hy]
    exact ⟨Or.inr rfl, H1 u u' K1 K2 ⟨eu, fun _ => ⟨gr, a, a2, a3⟩⟩⟩
  · rw [if_pos rfl] at hy
    rw [hy]
    exact ⟨Or.inl rfl, H0 u u' K1 K2 (fun z => a3 (z.2 lt).2.2.2)⟩
