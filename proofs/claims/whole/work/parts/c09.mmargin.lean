/-! ===== margins in the model ===== -/
theorem m_fl {B : pT} {A : pA} {c : Int} {M : qM} (hA : p_okB A (B 0 c)) (hc : 0 ≤ c ∧ c < 3) (hN : 0 < B 0 c) (hbk : m_bk B M) (hD : 8 ≤ B 8 1 ∧ B 8 1 ≤ 14) (h81 : ∀ k, 0 ≤ M 81 0 k ∧ M 81 0 k ≤ 1000) (hrep : ∀ i, 0 ≤ i → i < B 0 c → p_mrep A M c i) (hR : p_mR A c (p_SR A (B 0 c)) M) (hw : p_mw A c (B 0 c) 0 M) : ∀ f, 0 ≤ f → f < p_T A (B 0 c) (B 8 1) 8 2 → (0 ≤ M 95 0 (4 * c + f) ∧ M 95 0 (4 * c + f) < 600) ∧ p_T A (B 0 c) (B 8 1) 4 (f + 1) = p_T A (B 0 c) (B 8 1) 4 f + M 71 0 (M 95 0 (4 * c + f)) := by
  let N : qM := fun k m s => if k = 99 then p_bl A s else if k = 100 then p_fl A s else if k = 101 then p_nl A s else if k = 102 then p_ls A s - 1 else M k m s
  have O : ∀ (k : Nat) (m s : Int), ¬ (99 ≤ k ∧ k ≤ 102) → N k m s = M k m s := fun k m s q => by
    show (if k = 99 then p_bl A s else if k = 100 then p_fl A s else if k = 101 then p_nl A s else if k = 102 then p_ls A s - 1 else M k m s) = _
    rw [if_neg (by omega), if_neg (by omega), if_neg (by omega), if_neg (by omega)]
  have hT : g_mT (p_T A (B 0 c) (B 8 1)) c N := p_T_m hA hc ⟨by rw [O _ _ _ (by omega)]; exact hR.1, fun q a b => by
      have := hR.2 q a b
      rw [O _ _ _ (by omega), O _ _ _ (by omega), O _ _ _ (by omega), O _ _ _ (by omega)]
      exact ⟨this.1, this.2.1, this.2.2.1, this.2.2.2.1, fun w x y => by rw [O _ _ _ (by omega)]; exact this.2.2.2.2 w x y⟩⟩ (fun q _ _ => ⟨rfl, rfl, rfl, rfl⟩) ⟨by rw [O _ _ _ (by omega)]; exact hw.1, by rw [O _ _ _ (by omega)]; exact hw.2.1, fun i w a b c d => ⟨fun q => by rw [O _ _ _ (by omega)]; exact (hw.2.2 i w a b c d).1 q, fun q k k0 k1 => by rw [O _ _ _ (by omega), O _ _ _ (by omega)]; exact (hw.2.2 i w a b c d).2 q k k0 k1⟩⟩ (fun i a b => by
      obtain ⟨r1, r2, r3, r4, r5, r6⟩ := hrep i a b
      exact ⟨by rw [O _ _ _ (by omega)]; exact r1, by rw [O _ _ _ (by omega)]; exact r2, fun k => by rw [O _ _ _ (by omega)]; exact r3 k, by rw [O _ _ _ (by omega)]; exact r4, fun s a b k => by rw [O _ _ _ (by omega)]; exact r5 s a b k, fun w a b => by rw [O _ _ _ (by omega), O _ _ _ (by omega)]; exact r6 w a b⟩) (fun k => by rw [O _ _ _ (by omega)]; exact h81 k) (by rw [O _ _ _ (by omega)]; exact hbk.2.2.2.2.1)
  intro f f0 f1
  have t := hT.2.2.2.2.2.2.1 f f0 f1
  rw [O _ _ _ (by omega), O _ _ _ (by omega)] at t
  exact t
def mg_M (q : Int) (s : c_Mg) (M : qM) : Prop := M 11 0 99 = mg_e s ∧ M 11 0 96 = mg_n s ∧ (∀ i, 0 ≤ i → i < mg_n s → M 137 0 i = mg_o s i) ∧ M 11 0 100 = q ∧ M 11 0 101 = mg_p s q
theorem t248s {d : Nat} {h : qH} (hS : qSe h) {B : pT} {c pg q x w N : Int} {s : c_Mg} {M : qM} {F : qM → Prop} (hB : c_ok B) (hbk : m_bk B M) (hx : 0 ≤ x ∧ x < 600) (hw : 0 ≤ w ∧ w ≤ 1000) (hs : mg_M q s M) (hok : mg_ok B c N s) (hn : mg_n s < 60) (hpg : 0 ≤ pg ∧ pg ≤ 1000)
    (H : ∀ M', (∀ (k : Nat) (m z : Int), ¬ (m = 0 ∧ ((k = 11 ∧ (z = 96 ∨ z = 99 ∨ z = 101)) ∨ (k = 137 ∧ z = mg_n s))) → M' k m z = M k m z) → mg_M q (mg_step (B 8 1) pg x (B 5 x) w s) M' → F M') : e248 (d + 1) h pg x w M F := by
  obtain ⟨s1, s2, s3, s4, s5⟩ := hs
  have h1 := hok.1
  have h2 := hok.2.1
  have hD := hB.2.2.2.2.2.2.2.1
  have b5 := hB.2.2.2.1 x
  have e71 := (hbk.2.2.1 x hx.1 hx.2).2.1
  have e2 := hbk.2.2.2.2.1
  refine w248 hS ⟨hx, fun y hy => ?_⟩
  rw [s1] at hy
  rw [e71, e2, s1, s2]
  have yb : 0 ≤ y ∧ y ≤ 1000 := by rw [hy]; split <;> omega
  refine ⟨⟨by omega, by omega⟩, fun _ => ⟨by omega, by omega⟩, fun z hz => ?_⟩
  have ez : z = b_at w (mg_e s) (B 8 1) (B 5 x) := by
    have ey : y = (if w < mg_e s then mg_e s else w) := by rw [hy]; split <;> split <;> omega
    rw [hz]
    unfold b_at
    rw [← ey]
    split <;> split <;> omega
  have zb : -100 ≤ z ∧ z ≤ 1000 := by rw [hz]; split <;> omega
  refine ⟨fun lt => ⟨⟨h2.1, hn⟩, fun M1 f1 => ?_⟩, fun ge => ⟨⟨by omega, by omega⟩, fun M1 f1 => ⟨fun _ => ⟨⟨by omega, by omega⟩, ⟨by omega, by omega⟩⟩, fun v hv M2 f2 => ?_⟩⟩⟩
  · have e96 : M1 11 0 96 = mg_n s := by rw [f1, qU_k (by decide)]; exact s2
    rw [e96]
    refine ⟨⟨by omega, by omega⟩, fun M2 f2 => ?_⟩
    have O2 : ∀ (k : Nat) (m z : Int), ¬ (m = 0 ∧ ((k = 11 ∧ z = 96) ∨ (k = 137 ∧ z = mg_n s))) → M2 k m z = M k m z := fun k m z q => by rw [f2, f1]; unfold qU; rw [if_neg (by omega), if_neg (by omega)]
    refine H M2 (fun k m z q => O2 k m z (by omega)) ?_
    unfold mg_step
    rw [if_neg (by omega)]
    refine ⟨by rw [O2 _ _ _ (by omega)]; exact s1, by rw [f2, qU_s]; rfl, fun i a b => ?_, by rw [O2 _ _ _ (by omega)]; exact s4, by rw [O2 _ _ _ (by omega)]; exact s5⟩
    have b' : i < mg_n s + 1 := b
    show M2 137 0 i = if i = mg_n s then x else mg_o s i
    by_cases e : i = mg_n s
    · rw [if_pos e, e, f2, qU_k (by decide), f1, qU_s]
    · rw [if_neg e, O2 _ _ _ (by omega)]; exact s3 i a (by omega)
  · have O2 : ∀ (k : Nat) (m z : Int), ¬ (m = 0 ∧ (k = 11 ∧ (z = 99 ∨ z = 101))) → M2 k m z = M k m z := fun k m z q => by rw [f2, f1]; unfold qU; rw [if_neg (by omega), if_neg (by omega)]
    have e100 : M1 11 0 100 = q := by rw [f1, qU_l (by decide)]; exact s4
    have e101 : M1 11 0 101 = mg_p s q := by rw [f1, qU_l (by decide)]; exact s5
    refine H M2 (fun k m z q => O2 k m z (by omega)) ?_
    unfold mg_step
    rw [if_pos (by omega)]
    refine ⟨?_, by rw [O2 _ _ _ (by omega)]; exact s2, fun i a b => by rw [O2 _ _ _ (by omega)]; exact s3 i a b, by rw [O2 _ _ _ (by omega)]; exact s4, ?_⟩
    · rw [f2, qU_l (by decide), f1, qU_s, ez]; rfl
    · show M2 11 0 101 = if q = x then 100 * pg + b_at w (mg_e s) (B 8 1) (B 5 x) else mg_p s q
      rw [f2, qU_s, hv, e100, e101, ez]
      by_cases e : x = q
      · rw [if_pos e, if_pos e.symm]
      · rw [if_neg e, if_neg (fun z => e z.symm)]
theorem t247 {d : Nat} {h : qH} (hS : qSe h) {T P : pT} {A : pA} {c p k r cnt wr : Int} {M : qM} {F : Int → qM → Prop} (hA : p_okA A cnt) (hc : 0 ≤ c ∧ c < 3) (hp : 0 ≤ p ∧ p < 400) (hT0 : ∀ x, T 0 x = p_bl A x) (hr : g_bf P 0 k ≤ r ∧ r < P 0 k) (ha : 0 ≤ g_bf P 0 k) (hR : p_mR A c (p_SR A cnt) M) (hP0 : P 0 k ≤ p_SR A cnt) (h67 : p_SR A cnt ≤ 67) (h3 : 0 ≤ P 3 k ∧ P 3 k ≤ 14) (hf : g_bf P 1 k < P 1 k → (0 ≤ g_bf P 1 k ∧ g_bf P 1 k < 4) ∧ (0 ≤ M 95 0 (4 * c + g_bf P 1 k) ∧ M 95 0 (4 * c + g_bf P 1 k) < 600) ∧ T 4 (g_bf P 1 k + 1) = T 4 (g_bf P 1 k) + M 71 0 (M 95 0 (4 * c + g_bf P 1 k))) (hb : 0 ≤ mg_base T P k ∧ mg_base T P k ≤ 100)
    (e105 : M 105 0 p = c) (e106 : M 106 0 p = g_bf P 0 k) (e108 : M 108 0 p = g_bf P 1 k) (e109 : M 109 0 p = P 1 k - g_bf P 1 k) (e112 : M 112 0 p = P 3 k) (H : F (mg_pl T P k r) M) : e247 (d + 2) h p r M F := by
  refine w247 hS ⟨hp, hp, ?_⟩
  rw [e105, e106, e108, e109]
  refine ⟨fun q => ?_, fun y hy => ⟨hp, ⟨by omega, by omega⟩, ?_⟩⟩
  · obtain ⟨f1, f2, f3⟩ := hf (by omega)
    exact ⟨⟨by omega, by omega⟩, hp, ⟨by omega, by omega⟩, ⟨by omega, by omega⟩, f2⟩
  · have ey : y = mg_base T P k := by
      rw [hy]
      unfold mg_base
      by_cases q : P 1 k ≤ g_bf P 1 k
      · rw [if_pos (by omega), if_pos q]
      · have := (hf (by omega)).2.2
        rw [if_neg (by omega), if_neg q]; omega
    rw [ey]
    have mono : ∀ x, g_bf P 0 k + 1 ≤ x → 0 ≤ T 0 x - T 0 (g_bf P 0 k + 1) ∧ T 0 x ≤ x ∧ 0 ≤ T 0 (g_bf P 0 k + 1) := fun x hx => by
      have m : p_bl A (g_bf P 0 k + 1) ≤ p_bl A x := p_sum_mono (fun y _ _ => by unfold p_ib; split <;> (try split) <;> omega) (by omega) hx
      have b1 := p_bl_bd (A := A) (r := x) (by omega)
      have b2 := p_bl_bd (A := A) (r := g_bf P 0 k + 1) (by omega)
      rw [hT0, hT0]; omega
    have main : ∀ u7, b247_55 d h F p r c (mg_base T P k) (T 0 (g_bf P 0 k + 1) - T 0 (g_bf P 0 k + 1)) (g_bf P 0 k + 1) u7 M := by
      refine q_upto (P := fun x => g_bf P 0 k + 1 ≤ x → ∀ u7, b247_55 d h F p r c (mg_base T P k) (T 0 x - T 0 (g_bf P 0 k + 1)) x u7 M) (a := g_bf P 0 k + 1) (b := r + 1) (by omega) (fun _ u7 => ?_) (fun x x0 x1 ih _ u7 => ?_) (Int.le_refl _)
      · have m := mono (r + 1) (by omega)
        refine w247_55 hS ⟨fun q => by omega, fun _ => ?_⟩
        rw [e106, e112]
        refine ⟨⟨by omega, by omega⟩, hp, ⟨by omega, by omega⟩, ⟨by omega, by omega⟩, hp, w153 hS (fun z hz => ?_)⟩
        have ez : z = mg_min (T 0 (r + 1) - T 0 (g_bf P 0 k + 1)) (P 3 k) := hz
        have zb : 0 ≤ z ∧ z ≤ 14 := by rw [ez]; unfold mg_min; split <;> omega
        have epl : mg_base T P k + r - g_bf P 0 k + (T 0 (r + 1) - T 0 (g_bf P 0 k + 1)) + z = mg_pl T P k r := by unfold mg_pl; rw [← ez]; omega
        rw [epl]
        exact ⟨⟨by omega, by omega⟩, H⟩
      · have row := hR.2 x (by omega) (by omega)
        have s : p_bl A (x + 1) = p_bl A x + p_ib A x := p_sum_s (by omega)
        have ib : 0 ≤ p_ib A x ∧ p_ib A x ≤ 1 := by unfold p_ib; split <;> (try split) <;> omega
        have m := mono x (by omega)
        refine w247_55 hS ⟨fun _ => ⟨⟨by omega, by omega⟩, ⟨by omega, by omega⟩, ⟨by omega, by omega⟩, fun _ => ⟨by omega, by omega⟩, fun z hz => ?_⟩, fun q => by omega⟩
        rw [row.1, row.2.1] at hz
        have ez : z = p_ib A x := hz
        have en : T 0 x - T 0 (g_bf P 0 k + 1) + z = T 0 (x + 1) - T 0 (g_bf P 0 k + 1) := by rw [ez, hT0 (x + 1), hT0 x, s]; omega
        rw [en]
        have m2 := mono (x + 1) (by omega)
        exact ⟨⟨by omega, by omega⟩, ⟨by omega, by omega⟩, ih (by omega) _⟩
    have m := main q_u
    rw [Int.sub_self] at m
    exact m
