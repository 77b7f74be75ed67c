/-! ===== PageMaker: fillBare, barePages, mostFloats, costBehind, aheadOfNext, placeAt, floatsAt, notesAt, aheadOf ===== -/
def fr65 (M M' : qM) : Prop := ∀ (k : Nat) (m s : Int), ¬ (k = 7 ∧ m = 0 ∧ 10 ≤ s ∧ s ≤ 12) → M' k m s = M k m s
theorem t65 {d : Nat} {h : qH} (hS : qSe h) {T : pT} {r f n : Int} {M : qM} {F : qM → Prop} (hT : g_tab T) (hM : g_cM T r M) (hf : 0 ≤ f ∧ f ≤ T 8 2) (hn : 0 ≤ n ∧ n ≤ T 8 3)
    (H : ∀ M', fr65 M M' → M' 7 0 10 = g_bF T f → M' 7 0 11 = g_bL T f n → M' 7 0 12 = g_bZ T f n → F M') : e65 (d + 1) h f n M F := by
  have hF := hT.2.2.1
  have hN := hT.2.2.2.1
  have hD := hT.2.1
  have hm := hT.2.2.2.2.2.2.2.2.1
  have h4 := hm 0 f (Int.le_refl _) hf.1 hf.2
  have h40 := hT.2.2.2.2.1.2.2.2.2
  have behind : ∀ (g : Int) (u3 u4 u5 : qV) (M1 : qM), fr65 M M1 → M1 7 0 10 = g → g = g_bF T f → b65_63 d h F f n u3 u4 u5 M1 := by
    intro g u3 u4 u5 M1 O1 e1 eg
    obtain ⟨m3, m4, r0, c1, c2, c3, c4, c5, c6, c7⟩ := g_cM_fr hM (M' := M1) (fun k m s q => O1 k m s (by omega))
    have q1 : M1 7 0 3 - 1 = r := by omega
    have gp := (g_bF_p hT hf).1
    have go := g_b_go hT hf hn
    have h4g := hm f (g_bF T f) hf.1 gp.1 gp.2
    refine w65_63 hS ⟨fun q => by omega, fun _ => ?_, fun q => by omega⟩
    rw [q1, e1, eg, c5 (g_bF T f) (by omega) gp.2, c5 f hf.1 hf.2, c3, m4]
    refine ⟨⟨by omega, by omega⟩, fun q => by omega, fun _ => ⟨⟨by omega, by omega⟩, ⟨by omega, by omega⟩, fun q => by omega, fun _ => ⟨⟨by omega, by omega⟩, ⟨by omega, by omega⟩, ⟨by omega, by omega⟩, fun x hx M2 f2 => ?_⟩, fun q => by omega⟩, fun q => by omega⟩
    have hx2 : x = g_bL T f n := hx
    rw [hx2] at f2
    have l2 : M2 7 0 11 = g_bL T f n := by rw [f2, qU_s]
    rw [l2]
    refine ⟨fun _ => ⟨by omega, by omega⟩, fun y hy => ?_⟩
    have hy2 : T 4 (g_bF T f) - T 4 f + y = g_bZ T f n := by rw [hy]; rfl
    rw [hy2]
    refine ⟨⟨by omega, by omega⟩, fun M3 f3 => H M3 (fun k m s q => ?_) ?_ ?_ (by rw [f3, qU_s])⟩
    · rw [f3, f2, ← O1 k m s q]; unfold qU; rw [if_neg (by omega), if_neg (by omega)]
    · rw [f3, qU_l (by decide), f2, qU_l (by decide), e1, eg]
    · rw [f3, qU_l (by decide), l2]
  have loop : ∀ (t : Nat) (g : Int) (u3 u4 u5 : qV) (M1 : qM), g + t = T 8 2 → f ≤ g → T 4 g - T 4 f ≤ T 8 1 → fr65 M M1 → M1 7 0 10 = g → b65_5 d h F f n u3 u4 u5 M1 := by
    intro t
    induction t with
    | zero =>
      intro g u3 u4 u5 M1 e0 e1 e2 O1 e3
      obtain ⟨m3, m4, r0, c1, c2, c3, c4, c5, c6, c7⟩ := g_cM_fr hM (M' := M1) (fun k m s q => O1 k m s (by omega))
      have q1 : M1 7 0 3 - 1 = r := by omega
      refine w65_5 hS ⟨fun q => by omega, fun _ => ⟨fun q => by rw [q1, c2] at q; omega, fun _ => behind g _ _ _ M1 O1 e3 (g_bF_u hT hf ⟨e1, by omega⟩ e2 (Or.inl (by omega)))⟩, fun q => by omega⟩
    | succ t ih =>
      intro g u3 u4 u5 M1 e0 e1 e2 O1 e3
      obtain ⟨m3, m4, r0, c1, c2, c3, c4, c5, c6, c7⟩ := g_cM_fr hM (M' := M1) (fun k m s q => O1 k m s (by omega))
      have q1 : M1 7 0 3 - 1 = r := by omega
      have h4g := hm f (g + 1) hf.1 (by omega) (by omega)
      refine w65_5 hS ⟨fun q => by omega, fun _ => ⟨fun _ => ⟨fun q => by omega, fun _ => ⟨⟨by omega, by omega⟩, ⟨by omega, by omega⟩, fun q => by omega, fun _ => ?_, fun q => by omega⟩, fun q => by omega⟩, fun q => by rw [q1, c2] at q; omega⟩, fun q => by omega⟩
      rw [q1, e3, c5 (g + 1) (by omega) (by omega), c5 f hf.1 hf.2, m4]
      refine ⟨⟨by omega, by omega⟩, ⟨by omega, by omega⟩, fun k => ⟨⟨by omega, by omega⟩, fun M2 f2 => ih (g + 1) _ _ _ M2 (by omega) (by omega) k (fun k m s q => ?_) (by rw [f2, qU_s])⟩, fun k => behind g _ _ _ M1 O1 e3 (g_bF_u hT hf ⟨e1, by omega⟩ e2 (Or.inr (by omega)))⟩
      rw [f2, ← O1 k m s q]; unfold qU; rw [if_neg (by omega)]
  refine w65 hS (fun M1 f1 => loop (T 8 2 - f).toNat f _ _ _ M1 (by omega) (Int.le_refl _) (by omega) (fun k m s q => by rw [f1]; unfold qU; rw [if_neg (by omega)]) (by rw [f1, qU_s]))
theorem t66 {d : Nat} {h : qH} (hS : qSe h) {T : pT} {r f n : Int} {M : qM} {F : Int → qM → Prop} (hT : g_tab T) (hM : g_cM T r M) (hf : 0 ≤ f ∧ f ≤ T 8 2) (hn : 0 ≤ n ∧ n ≤ T 8 3)
    (H : ∀ M', fr65 M M' → F (g_bN T f n) M') : e66 (d + 2) h f n M F := by
  have hF := hT.2.2.1
  have hN := hT.2.2.2.1
  refine w66 hS ?_
  have loop : ∀ (t : Nat) (f' n' p : Int) (M1 : qM), T 8 2 + T 8 3 - f' - n' ≤ t → (0 ≤ f' ∧ f' ≤ T 8 2) → (0 ≤ n' ∧ n' ≤ T 8 3) → 0 ≤ p → p + (T 8 2 + T 8 3 - f' - n') ≤ 16 → p + g_bN T f' n' = g_bN T f n → fr65 M M1 → b66_2 d h F f' n' p M1 := by
    intro t
    induction t with
    | zero =>
      intro f' n' p M1 e0 e1 e2 p0 p1 e3 O1
      obtain ⟨m3, m4, r0, c1, c2, c3, c4, c5, c6, c7⟩ := g_cM_fr hM (M' := M1) (fun k m s q => O1 k m s (by omega))
      have q1 : M1 7 0 3 - 1 = r := by omega
      have s := (g_bN_s hT e1 e2).2.2 (by omega)
      have e : p = g_bN T f n := by omega
      refine w66_2 hS ⟨fun _ => ⟨fun q => by omega, fun _ => ⟨fun q => by rw [q1, c2] at q; omega, fun _ => ⟨fun q => by omega, fun _ => ⟨fun q => by rw [q1, c3] at q; omega, fun _ => ?_⟩, fun q => by omega⟩⟩, fun q => by omega⟩, fun _ => ?_⟩
      · rw [e]; exact H M1 O1
      · rw [e]; exact H M1 O1
    | succ t ih =>
      intro f' n' p M1 e0 e1 e2 p0 p1 e3 O1
      have hM1 := g_cM_fr hM (M' := M1) (fun k m s q => O1 k m s (by omega))
      obtain ⟨m3, m4, r0, c1, c2, c3, c4, c5, c6, c7⟩ := id hM1
      have q1 : M1 7 0 3 - 1 = r := by omega
      by_cases hmore : f' < T 8 2 ∨ n' < T 8 3
      · have s := (g_bN_s hT e1 e2).2.1 hmore
        have go := g_b_go hT e1 e2
        have gp := (g_bF_p hT e1).1
        have g3 := go.2.2 hmore
        have step : b66_30 d h F f' n' p M1 := by
          refine w66_30 hS (t65 hS hT hM1 e1 e2 (fun M2 O2 x1 x2 x3 => ?_))
          rw [x1, x2]
          exact ⟨⟨by omega, by omega⟩, ⟨by omega, by omega⟩, ih _ _ _ M2 (by omega) ⟨by omega, gp.2⟩ ⟨by omega, go.1.2⟩ (by omega) (by omega) (by omega) (fun k m s q => by rw [O2 k m s q, O1 k m s q])⟩
        refine w66_2 hS ⟨fun _ => ⟨fun q => by omega, fun _ => ⟨fun _ => step, fun k => ⟨fun q => by omega, fun _ => ⟨fun _ => step, fun k2 => ?_⟩, fun q => by omega⟩⟩, fun q => by omega⟩, fun q => by omega⟩
        exfalso
        rw [q1, c2] at k
        rw [q1, c3] at k2
        omega
      · have s := (g_bN_s hT e1 e2).2.2 hmore
        have e : p = g_bN T f n := by omega
        refine w66_2 hS ⟨fun _ => ⟨fun q => by omega, fun _ => ⟨fun q => by rw [q1, c2] at q; omega, fun _ => ⟨fun q => by omega, fun _ => ⟨fun q => by rw [q1, c3] at q; omega, fun _ => ?_⟩, fun q => by omega⟩⟩, fun q => by omega⟩, fun _ => ?_⟩
        · rw [e]; exact H M1 O1
        · rw [e]; exact H M1 O1
  exact loop (T 8 2 + T 8 3 - f - n).toNat f n 0 M (by omega) hf hn (Int.le_refl _) (by omega) (by omega) (fun _ _ _ _ => rfl)
theorem t59 {d : Nat} {h : qH} (hS : qSe h) {T : pT} {r b f : Int} {M : qM} {F : Int → qM → Prop} (hT : g_tab T) (hM : g_cM T r M) (hb : 0 ≤ b ∧ b ≤ T 8 0) (hf : 0 ≤ f ∧ f ≤ 4)
    (H : F (if T 1 b - f < 2 then T 1 b - f else 2) M) : e59 (d + 1) h b f M F := by
  obtain ⟨m3, m4, r0, c1, c2, c3, c4, c5, c6, c7⟩ := id hM
  have q1 : M 7 0 3 - 1 = r := by omega
  have tb := g_tab_at hT hb
  have h70 := hT.1
  have hF := hT.2.2.1
  refine w59 hS ⟨fun q => by omega, fun _ => ?_, fun q => by omega⟩
  rw [q1, (c4 b hb.1 hb.2).2.1]
  exact ⟨⟨by omega, by omega⟩, ⟨by omega, by omega⟩, fun x hx => by rw [hx]; exact H⟩
theorem t60 {d : Nat} {h : qH} (hS : qSe h) {T : pT} {a b f m n x : Int} {M : qM} {F : Int → qM → Prop} (h7 : M 7 0 7 = g_fill T a b f m n) (h9 : M 7 0 9 = g_last T a b f m n) (hb : 1 ≤ g_fill T a b f m n ∧ g_fill T a b f m n ≤ 14) (hx : 0 ≤ x ∧ x ≤ 15)
    (H : F (g_far T a b f m n x) M) : e60 (d + 1) h x M F := by
  refine w60 hS ?_
  rw [h7, h9]
  unfold g_far at H
  refine ⟨fun k => by rw [if_pos k] at H; exact H, fun k => ⟨fun k2 => by rw [if_neg k, if_pos k2] at H; exact H, fun k2 => ?_⟩⟩
  rw [if_neg k, if_neg k2] at H
  refine ⟨fun k3 => ⟨⟨fun _ => ⟨by omega, by omega⟩, fun _ => ⟨by omega, by omega⟩⟩, fun y hy => ?_⟩, fun k3 => by rw [if_neg k3] at H; exact H⟩
  rw [if_pos k3] at H
  rw [hy]
  exact H
theorem t61 {d : Nat} {h : qH} (hS : qSe h) {x : Int} {M : qM} {F : Int → qM → Prop} (H : F (if x = 0 then M 7 0 7 else 0) M) : e61 (d + 1) h x M F :=
  w61 hS (fun y hy => by rw [hy]; exact H)
/-- a place's number -/
def g_place (T : pT) (b f n : Int) : Int := b * 20 + (T 1 b - f) * 4 + (T 2 b - n)
theorem t62 {d : Nat} {h : qH} (hS : qSe h) {T : pT} {r b f n : Int} {M : qM} {F : Int → qM → Prop} (hT : g_tab T) (hM : g_cM T r M) (hs : g_at T b f n)
    (H : F (g_place T b f n) M) : e62 (d + 1) h b f n M F := by
  obtain ⟨m3, m4, r0, c1, c2, c3, c4, c5, c6, c7⟩ := id hM
  have q1 : M 7 0 3 - 1 = r := by omega
  have tb := g_tab_at hT hs.1
  have h70 := hT.1
  have hF := hT.2.2.1
  have hN := hT.2.2.2.1
  obtain ⟨s1, s2, s3⟩ := hs
  have x := c4 b s1.1 s1.2
  refine w62 hS ⟨fun q => by omega, fun _ => ?_, fun q => by omega⟩
  rw [q1, x.2.1, x.2.2.1]
  exact ⟨⟨by omega, by omega⟩, ⟨by omega, by omega⟩, fun q => by omega, fun _ => ⟨⟨by omega, by omega⟩, ⟨by omega, by omega⟩, ⟨by omega, by omega⟩, ⟨by omega, by omega⟩, ⟨by omega, by omega⟩, ⟨by omega, by omega⟩, H⟩, fun q => by omega⟩
theorem t63 {d : Nat} {h : qH} (hS : qSe h) {T : pT} {r p : Int} {M : qM} {F : Int → qM → Prop} (hT : g_tab T) (hM : g_cM T r M) (hp : 0 ≤ p ∧ p / 20 ≤ T 8 0)
    (H : F (T 1 (p / 20) - p % 20 / 4) M) : e63 (d + 1) h p M F := by
  obtain ⟨m3, m4, r0, c1, c2, c3, c4, c5, c6, c7⟩ := id hM
  have q1 : M 7 0 3 - 1 = r := by omega
  have h70 := hT.1
  have hF := hT.2.2.1
  have tb := g_tab_at hT (a := p / 20) ⟨by omega, hp.2⟩
  have x := c4 (p / 20) (by omega) hp.2
  refine w63 hS ⟨fun q => by omega, fun _ => ?_, fun q => by omega⟩
  rw [q1, x.2.1]
  exact ⟨by omega, ⟨by omega, by omega⟩, by omega, by omega, ⟨by omega, by omega⟩, H⟩
theorem t64 {d : Nat} {h : qH} (hS : qSe h) {T : pT} {r p : Int} {M : qM} {F : Int → qM → Prop} (hT : g_tab T) (hM : g_cM T r M) (hp : 0 ≤ p ∧ p / 20 ≤ T 8 0)
    (H : F (T 2 (p / 20) - p % 4) M) : e64 (d + 1) h p M F := by
  obtain ⟨m3, m4, r0, c1, c2, c3, c4, c5, c6, c7⟩ := id hM
  have q1 : M 7 0 3 - 1 = r := by omega
  have h70 := hT.1
  have hN := hT.2.2.2.1
  have tb := g_tab_at hT (a := p / 20) ⟨by omega, hp.2⟩
  have x := c4 (p / 20) (by omega) hp.2
  refine w64 hS ⟨fun q => by omega, fun _ => ?_, fun q => by omega⟩
  rw [q1, x.2.2.1]
  exact ⟨by omega, ⟨by omega, by omega⟩, by omega, ⟨by omega, by omega⟩, H⟩
theorem g_place_p {T : pT} (hT : g_tab T) {b f n : Int} (hs : g_at T b f n) : (0 ≤ g_place T b f n ∧ g_place T b f n < 1420) ∧ g_place T b f n / 20 = b ∧ T 1 b - g_place T b f n % 20 / 4 = f ∧ T 2 b - g_place T b f n % 4 = n := by
  have tb := g_tab_at hT hs.1
  have h70 := hT.1
  have hF := hT.2.2.1
  obtain ⟨s1, s2, s3⟩ := hs
  unfold g_place
  omega
/-- pages, one by one: P 0 rows, 1 floats, 2 lines of notes up to the end; 3 grown, 4 filled -/
def g_bf (P : pT) (j k : Int) : Int := if k ≤ 0 then 0 else P j.toNat (k - 1)
def g_x (P : pT) (k : Int) : Int := if k = 0 then 15 else if k % 2 = 0 then P 4 (k - 1) else 0
/-- the pages in the memory of the class -/
def g_cP (P : pT) (cnt n : Int) (M : qM) : Prop := M 8 n 1 = cnt ∧ ∀ k, 0 ≤ k → k < cnt → M 43 n k = P 0 k ∧ M 44 n k = P 1 k ∧ M 45 n k = P 2 k ∧ M 46 n k = P 3 k ∧ M 47 n k = P 4 k
theorem t82 {d : Nat} {h : qH} (hS : qSe h) {n k : Int} {M : qM} {F : Int → qM → Prop} (hk : -1000 ≤ k ∧ k ≤ 86) (H : F (if k ≤ 0 then 0 else M 43 n (k - 1)) M) : e82 (d + 1) h n k M F :=
  w82 hS ⟨fun _ => ⟨⟨by omega, by omega⟩, by omega, by omega⟩, fun y hy => by rw [hy]; exact H⟩
theorem t83 {d : Nat} {h : qH} (hS : qSe h) {n k : Int} {M : qM} {F : Int → qM → Prop} (hk : -1000 ≤ k ∧ k ≤ 86) (H : F (if k ≤ 0 then 0 else M 44 n (k - 1)) M) : e83 (d + 1) h n k M F :=
  w83 hS ⟨fun _ => ⟨⟨by omega, by omega⟩, by omega, by omega⟩, fun y hy => by rw [hy]; exact H⟩
theorem t84 {d : Nat} {h : qH} (hS : qSe h) {n k : Int} {M : qM} {F : Int → qM → Prop} (hk : -1000 ≤ k ∧ k ≤ 86) (H : F (if k ≤ 0 then 0 else M 45 n (k - 1)) M) : e84 (d + 1) h n k M F :=
  w84 hS ⟨fun _ => ⟨⟨by omega, by omega⟩, by omega, by omega⟩, fun y hy => by rw [hy]; exact H⟩
theorem t68 {d : Nat} {h : qH} (hS : qSe h) {P : pT} {cnt n : Int} {M : qM} {F : Int → qM → Prop} (hP : g_cP P cnt n M) (hc : 0 ≤ cnt ∧ cnt ≤ 86) (H : F (g_x P cnt) M) : e68 (d + 1) h n M F := by
  refine w68 hS ?_
  rw [hP.1]
  unfold g_x at H
  refine ⟨fun k => by rw [if_pos k] at H; exact H, fun k => ⟨by omega, fun _ => ⟨⟨by omega, by omega⟩, by omega, by omega⟩, fun y hy => ?_⟩⟩
  rw [if_neg k] at H
  rw [(hP.2 (cnt - 1) (by omega) (by omega)).2.2.2.2] at hy
  rw [hy]
  exact H
