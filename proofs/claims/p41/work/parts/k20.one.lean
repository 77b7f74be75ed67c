/-! ===== a chapter of the law's round ===== -/
def k_fc (c la : Int) (M M' : qM) : Prop := ∀ (k : Nat) (o s : Int), ¬ (87 ≤ k ∧ k ≤ 97) → ¬ (o = 0 ∧ ((k = 76 ∧ (s = 6 ∨ s = 10 + c ∨ s = 13 + c ∨ s = 16 + c ∨ s = 19 + c ∨ s = 22 + c ∨ s = 25 + c ∨ (29 ≤ s ∧ s ≤ 32))) ∨ ((k = 74 ∨ k = 75) ∧ la < s) ∨ (k = 71 ∧ 20 * c ≤ s ∧ s < 20 * c + 20) ∨ (k = 72 ∧ 4 * c ≤ s ∧ s < 4 * c + 4) ∨ (k = 73 ∧ 12 * c ≤ s ∧ s < 12 * c + 12))) → M' k o s = M k o s
theorem k_fc_t {c la : Int} {M M1 M2 : qM} (h : k_fc c la M M1) (h' : k_fc c la M1 M2) : k_fc c la M M2 := fun k o s a b => by rw [h' k o s a b, h k o s a b]
theorem k_bk_fc {B : pT} {c la : Int} {M M' : qM} (hc : 0 ≤ c ∧ c < 3) (h : k_bk B M) (f : k_fc c la M M') : k_bk B M' := k_bk_fr h (fun s => f _ _ _ (by omega) (by omega)) (fun it a b => by rw [f _ _ _ (by omega) (by omega)]; exact ⟨rfl, (h.2.1 it a b).1⟩) (fun s => f _ _ _ (by omega) (by omega)) (f _ _ _ (by omega) (by omega)) (f _ _ _ (by omega) (by omega)) (f _ _ _ (by omega) (by omega))
theorem k_om_fr {B Bo : pT} {Ro : c_R} {M M' : qM} (hl : k_lim B) (h : k_om B Bo Ro M) (f : ∀ (k : Nat) (s : Int), (80 ≤ k ∧ k ≤ 82) ∨ (k = 76 ∧ 33 ≤ s ∧ s ≤ 41) → M' k 0 s = M k 0 s) (f65 : ∀ it, 0 ≤ it → it < 18 → M' 65 0 it / 256 % 256 = M 65 0 it / 256 % 256) : k_om B Bo Ro M' := by
  obtain ⟨⟨a1, a2⟩, a3, a4⟩ := h
  refine ⟨⟨by rw [f _ _ (by omega)]; exact a1, by rw [f _ _ (by omega)]; exact a2⟩, fun c c0 c1 => ⟨fun q => ?_, fun q => by rw [f _ _ (by omega)]; exact (a3 c c0 c1).2 q⟩, fun c i c0 c1 i0 i1 i2 => ?_⟩
  · obtain ⟨⟨o1, o2, o3, o4, o5, o6, o7, o8⟩, p⟩ := (a3 c c0 c1).1 q
    exact ⟨⟨by rw [f _ _ (by omega)]; exact o1, o2, by rw [f _ _ (by omega)]; exact o3, fun k a b => by rw [f _ _ (by omega)]; exact o4 k a b, by rw [f _ _ (by omega), f _ _ (by omega)]; exact o5, o6, by rw [f _ _ (by omega)]; exact o7, by rw [f _ _ (by omega)]; exact o8⟩, fun r a b => by rw [f _ _ (by omega)]; exact p r a b⟩
  · have := (hl.1 c c0 c1).1
    rw [f65 _ (by omega) (by omega), f _ _ (by omega)]; exact a4 c i c0 c1 i0 i1 i2
/-- the pages of a chapter, as they lie -/
def k_Pg (P : pT) (cnt p0 c : Int) (M : qM) : Prop := ∀ k, 0 ≤ k → k < cnt → (M 74 0 (p0 + 1 + k) = k_pk c (g_bf P 0 k) (P 0 k - g_bf P 0 k) (g_bf P 1 k) (P 1 k - g_bf P 1 k) (g_bf P 2 k) (P 2 k - g_bf P 2 k) (P 3 k) ∧ M 75 0 (p0 + 1 + k) = P 4 k) ∧ ∀ r, g_bf P 0 k ≤ r → r < P 0 k → M 71 0 (20 * c + r) / 16384 = p0 + 1 + k
section
variable {d : Nat} {f : Int → qH → qM → Prop} {B Bo : pT} {L C W : Int → Int} {E : Int → Int → Int} {ob : Prop} {Ro : c_R} {c la kp : Int}
/-- the items of a chapter -/
theorem k_197 {u2 u16 u17 : qV} (hB : c_ok B) (hB2 : c_ok2 B) (hl : k_lim B) (hL : c_lines B W L C E) (hc : 0 ≤ c ∧ c < 3) (hW : k_W B W) {M0 : qM} (hbk : k_bk B M0) (ho : k_off B M0) (he : k_e 68 B W M0) {u0 : Nat}
    (H : ∀ h' M', k_h (u0 + 2 * (B 0 c).toNat) h' → k_fc c la M0 M' → M' 76 0 6 = M0 76 0 6 → (∀ s, (10 ≤ s ∧ s ≤ 27 ∧ s ≠ 19 + c) → M' 76 0 s = M0 76 0 s) → (∀ k s, (k = 74 ∨ k = 75) → M' k 0 s = M0 k 0 s) → M' 76 0 (19 + c) = p_SR (c_A B L E c) (B 0 c) → k_rw (c_A B L E c) c (p_SR (c_A B L E c) (B 0 c)) M' → b208_197 d h' f u2 kp u16 u17 c (B 0 c) M') :
    ∀ (t : Nat) (i : Int) (h : qH) (M : qM), B 0 c - i ≤ t → (0 ≤ i ∧ i ≤ B 0 c) → k_h (u0 + 2 * i.toNat) h → k_fc c la M0 M → M 76 0 6 = M0 76 0 6 → (∀ s, (10 ≤ s ∧ s ≤ 27 ∧ s ≠ 19 + c) → M 76 0 s = M0 76 0 s) → (∀ k s, (k = 74 ∨ k = 75) → M k 0 s = M0 k 0 s) → M 76 0 (19 + c) = p_SR (c_A B L E c) i → k_rw (c_A B L E c) c (p_SR (c_A B L E c) i) M → b208_197 d h f u2 kp u16 u17 c i M := by
  intro t
  induction t with
  | zero =>
    intro i h M ht hi hu fc e6 e10 e74 e19 rw
    have : i = B 0 c := by omega
    subst this
    exact H h M hu fc e6 e10 e74 e19 rw
  | succ t ih =>
    intro i h M ht hi hu fc e6 e10 e74 e19 rws
    by_cases e : i = B 0 c
    · subst e
      exact H h M hu fc e6 e10 e74 e19 rws
    have szA := k_szA hB hl hL hc
    have sz := szA.1
    have l6 := sz.2.1
    have ok := sz.2.2.2.1
    have i6 : 0 ≤ i ∧ i < 6 := ⟨hi.1, by omega⟩
    have room := szA.2.2 i hi.1 (by omega)
    have bk := k_bk_fc hc hbk fc
    have kx : k_x (6 * c + i) = 10 * c + i := k_x_c hc i6
    have bt := bk.2.1 (6 * c + i) (by omega) (by omega)
    rw [kx] at bt
    have W8 := hB.2.2.2.2.2.2.1
    have ho1 : k_off B M := fun it a b => by rw [fc _ _ _ (by omega) (by omega)]; exact ho it a b
    have he1 : k_e 68 B W M := fun it w a b e g => by rw [fc _ _ _ (by omega) (by omega)]; exact he it w a b e g
    have n3 := hB.2.1 (10 * c + i)
    have n15 := hl.2.1 (10 * c + i) (by omega) (by omega)
    have real : (10 * c + i) % 10 < B 0 ((10 * c + i) / 10) := by rw [show (10 * c + i) / 10 = c by omega, show (10 * c + i) % 10 = i by omega]; omega
    have kind := hB.2.2.1 (10 * c + i) (by omega) (by omega) real
    have a0 := (k_A (B := B) (L := L) (E := E) (c := c) (k := 0) (i := i) (w := 0) ⟨i6.1, by omega⟩).1 rfl
    have a2 := (k_A (B := B) (L := L) (E := E) (c := c) (k := 2) (i := i) (w := 0) ⟨i6.1, by omega⟩).2.2.1 rfl
    have a3 : ∀ s, c_A B L E c 3 i s = E (10 * c + i) s := fun s => (k_A (B := B) (L := L) (E := E) (c := c) (k := 3) (i := i) (w := s) ⟨i6.1, by omega⟩).2.2.2.1 rfl
    have srs := p_SR_s (A := c_A B L E c) i6.1
    have sr0 : 0 ≤ p_SR (c_A B L E c) i := p_sum_mono (g := fun x => c_A B L E c 2 x 0) (a := 0) (fun x x0 x1 => by have := p_okA_6 ok.1 (i := x) ⟨x0, by omega⟩; show 0 ≤ c_A B L E c 2 x 0; omega) (Int.le_refl _) i6.1
    have sle := p_SR_le ok.1 (i := i + 1) ⟨by omega, by omega⟩
    have s16 := sz.2.2.2.2
    have l16 : p_SR (c_A B L E c) i + L (10 * c + i) ≤ 16 := by rw [srs, a2] at sle; omega
    have lin := hL (10 * c + i) (by omega) (by omega) real
    -- the rows of the item
    have next : ∀ (h' : qH) (M' : qM), k_h (u0 + 2 * i.toNat + 2) h' → (∀ (k : Nat) (o s : Int), ¬ (k = 87 ∨ k = 88) → ¬ (k = 71 ∧ o = 0 ∧ 20 * c + p_SR (c_A B L E c) i ≤ s ∧ s < 20 * c + p_SR (c_A B L E c) i + L (10 * c + i)) → ¬ (k = 76 ∧ o = 0 ∧ s = 19 + c) → M' k o s = M k o s) → M' 76 0 (19 + c) = p_SR (c_A B L E c) i + L (10 * c + i) → (∀ s, 0 ≤ s → s < L (10 * c + i) → (0 ≤ M' 71 0 (20 * c + p_SR (c_A B L E c) i + s) ∧ M' 71 0 (20 * c + p_SR (c_A B L E c) i + s) ≤ 2147483647) ∧ M' 71 0 (20 * c + p_SR (c_A B L E c) i + s) % 16384 = i + 16 * p_fr (c_A B L E c) (p_SR (c_A B L E c) i + s) + 512 * p_to (c_A B L E c) (p_SR (c_A B L E c) i + s)) → b208_197 d h' f u2 kp u16 u17 c (i + 1) M' := by
      intro h' M' hu' O' e19' rows'
      refine ih (i + 1) h' M' (by omega) ⟨by omega, by omega⟩ (k_h_up hu' (by omega)) (fun k o s z1 z2 => ?_) ?_ (fun s hs => ?_) (fun k s hs => ?_) (by rw [e19', srs, a2]) (fun q q0 q1 => ?_)
      · rw [O' k o s (fun y => z1 (by omega)) (fun y => z2 (by omega)) (fun y => z2 (by omega))]
        exact fc k o s z1 z2
      · rw [O' _ _ _ (by omega) (by omega) (by omega)]; exact e6
      · rw [O' _ _ _ (by omega) (by omega) (by omega)]; exact e10 s hs
      · rw [O' _ _ _ (by omega) (by omega) (by omega)]; exact e74 k s hs
      · rw [srs, a2] at q1
        by_cases z : q < p_SR (c_A B L E c) i
        · rw [O' _ _ _ (by omega) (by omega) (by omega)]; exact rws q q0 z
        · have rc := p_rc_at ok.1 i (q - p_SR (c_A B L E c) i) i6.1 (by omega) (by omega) (by rw [a2]; omega)
          rw [show p_SR (c_A B L E c) i + (q - p_SR (c_A B L E c) i) = q by omega] at rc
          have er : p_ri (c_A B L E c) q = i := by unfold p_ri; rw [rc.1]
          have := rows' (q - p_SR (c_A B L E c) i) (by omega) (by omega)
          rw [show 20 * c + p_SR (c_A B L E c) i + (q - p_SR (c_A B L E c) i) = 20 * c + q by omega, show p_SR (c_A B L E c) i + (q - p_SR (c_A B L E c) i) = q by omega] at this
          rw [er]
          exact this
    have e77 : M 77 0 c = B 0 c := bk.1 c hc.1 hc.2
    refine w208_197 hu.1 ⟨hc, ?_⟩
    rw [e77]
    refine ⟨fun _ => ?_, fun z => absurd (show i < B 0 c by omega) z⟩
    refine L193 (u := u0 + 2 * i.toNat) (ro := 0) (w := fun j => if 0 ≤ j ∧ j < B 3 (10 * c + i) then B 6 (k_y (6 * c + i) j) + W (k_y (6 * c + i) j) else 0) hu hc i6 bt.2.1 n15 bt.1 W8 bk.2.2.2.1 e19 sr0 (fun j => ?_) (fun j j0 j1 => ?_) (fun hd => ⟨?_, fun M' O' r1 r2 => ?_⟩) (fun hp => ⟨?_, fun h' M' Ln Cc En hu' O' pl r1 r2 => ?_⟩)
    · show 0 ≤ (if 0 ≤ j ∧ j < B 3 (10 * c + i) then B 6 (k_y (6 * c + i) j) + W (k_y (6 * c + i) j) else 0) ∧ (if 0 ≤ j ∧ j < B 3 (10 * c + i) then B 6 (k_y (6 * c + i) j) + W (k_y (6 * c + i) j) else 0) ≤ 16
      by_cases z : 0 ≤ j ∧ j < B 3 (10 * c + i)
      · rw [if_pos z]
        have := (k_wide hB hB2 hl bk ho1 he1 hW (it := 6 * c + i) (j := j) ⟨by omega, by omega⟩ (by rw [kx]; exact z)).1
        omega
      · rw [if_neg z]; omega
    · have := (k_wide hB hB2 hl bk ho1 he1 hW (it := 6 * c + i) (j := j) ⟨by omega, by omega⟩ (by rw [kx]; exact ⟨j0, j1⟩)).2
      show _ = (if 0 ≤ j ∧ j < B 3 (10 * c + i) then B 6 (k_y (6 * c + i) j) + W (k_y (6 * c + i) j) else 0) ∧ _
      rw [if_pos ⟨j0, j1⟩]
      exact this
    · rw [bt.2.2.1] at hd
      rw [if_neg hd] at room
      omega
    · rw [bt.2.2.1] at hd
      have l1 := lin.2 hd
      refine ⟨⟨by omega, by omega⟩, next h M' (k_h_up hu (by omega)) (fun k o s z1 z2 z3 => O' k o s (fun y => z2 ⟨y.1, y.2.1, by omega, by omega⟩) z3) (by rw [l1.1]; exact r2) (fun s s0 s1 => ?_)⟩
      rw [l1.1] at s1
      have es : s = 0 := by omega
      subst es
      have rc := p_rc_at ok.1 i 0 i6.1 (by omega) (Int.le_refl _) (by rw [a2, l1.1]; decide)
      have er : p_ri (c_A B L E c) (p_SR (c_A B L E c) i + 0) = i := by unfold p_ri; rw [rc.1]
      have f0 : p_fr (c_A B L E c) (p_SR (c_A B L E c) i + 0) = 0 := by unfold p_fr; rw [er, a0, if_neg hd]
      have t0 : p_to (c_A B L E c) (p_SR (c_A B L E c) i + 0) = 0 := by unfold p_to; rw [er, a0, if_neg hd]
      rw [f0, t0, Int.add_zero, r1]
      omega
    · rw [bt.2.2.1] at hp
      rw [if_pos hp] at room
      rcases kind with q | q
      · omega
      · omega
    · rw [bt.2.2.1] at hp
      have l1 := lin.1 hp
      have pl2 : p_lined (fun j => B 6 (20 * (10 * c + i) + j) + W (20 * (10 * c + i) + j)) (B 3 (10 * c + i)) (B 8 0) Ln Cc En := p_lined_w (fun j j0 j1 => by
        show _ = (if 0 ≤ j ∧ j < B 3 (10 * c + i) then B 6 (k_y (6 * c + i) j) + W (k_y (6 * c + i) j) else 0)
        rw [if_pos ⟨j0, j1⟩]
        unfold k_y
        rw [kx]) pl
      obtain ⟨u1, u2', u3⟩ := p_lined_u n3.1 l1 pl2
      subst u1
      refine ⟨⟨by omega, by omega⟩, next h' M' hu' O' r1 (fun s s0 s1 => ?_)⟩
      have rc := p_rc_at ok.1 i s i6.1 (by omega) s0 (by rw [a2]; exact s1)
      have er : p_ri (c_A B L E c) (p_SR (c_A B L E c) i + s) = i := by unfold p_ri; rw [rc.1]
      have el : p_rl (c_A B L E c) (p_SR (c_A B L E c) i + s) = s := by unfold p_rl; rw [rc.1]
      have f0 : p_fr (c_A B L E c) (p_SR (c_A B L E c) i + s) = if s = 0 then 0 else E (10 * c + i) (s - 1) := by unfold p_fr; rw [er, el, a0, if_pos hp, a3]
      have t0 : p_to (c_A B L E c) (p_SR (c_A B L E c) i + s) = E (10 * c + i) s := by unfold p_to; rw [er, el, a0, if_pos hp, a3]
      have rin := p_row_in ok.1 (r := p_SR (c_A B L E c) i + s) ⟨by omega, by omega⟩
      rw [er] at rin
      have a6 := (k_A (B := B) (L := L) (E := E) (c := c) (k := 6) (i := i) (w := 0) ⟨i6.1, by omega⟩).2.2.2.2.2.2 rfl
      rw [a6] at rin
      have e1 : En s = E (10 * c + i) s := u3 s s0 s1
      have e2 : (if s = 0 then 0 else En (s - 1)) = (if s = 0 then 0 else E (10 * c + i) (s - 1)) := by
        by_cases z : s = 0
        · rw [if_pos z, if_pos z]
        · rw [if_neg z, if_neg z, u3 (s - 1) (by omega) (by omega)]
      have := r2 s s0 s1
      rw [e1, e2, ← f0, ← t0] at this
      rw [this]
      omega
/-- a chapter -/
theorem k_one {h : qH} {u0 : Nat} (hB : c_ok B) (hB2 : c_ok2 B) (hl : k_lim B) (hL : c_lines B W L C E) (hc : 0 ≤ c ∧ c < 3) (hW : k_W B W) {M0 : qM} (hu : k_h u0 h) (hbk : k_bk B M0) (ho : k_off B M0) (he : k_e 68 B W M0) (hN : 0 < B 0 c) (hla : M0 76 0 6 = la) (hla2 : 0 ≤ la ∧ la + la % 2 ≤ 42)
    (hold : (¬ ob ∧ kp = 0) ∨ (ob ∧ kp ≠ 0 ∧ k_om B Bo Ro M0 ∧ c_oldok B L E Bo Ro))
    (H1 : ∀ h' M' P' ct, k_h (u0 + 22) h' → k_fc c la M0 M' → M' 76 0 6 = la + la % 2 + ct → g_made (p_T (c_A B L E c) (B 0 c) (B 8 1)) (c_keep B (c_A B L E c) ob Bo Ro c (la + la % 2 + 1)) P' ct (M' 76 0 (16 + c)) → k_Pg P' ct (la + la % 2) c M' → M' 76 0 (10 + c) = la + la % 2 + 1 → M' 76 0 (13 + c) = la + la % 2 + ct → M' 76 0 (19 + c) = p_SR (c_A B L E c) (B 0 c) → k_rw (c_A B L E c) c (p_SR (c_A B L E c) (B 0 c)) M' → k_fz (c_A B L E c) (B 0 c) c (p_SF (c_A B L E c) (B 0 c)) (p_SN (c_A B L E c) (B 0 c)) M' → (la % 2 = 1 → M' 74 0 (la + 1) = 4 ∧ M' 75 0 (la + 1) = 0) → ct ≤ 19 ∧ ct ≤ p_SR (c_A B L E c) (B 0 c) + 4 → ∀ u2 u16 u17 u19 : qV, b208_140 d h' f u2 kp u16 u17 (c + 1) u19 M')
    (H0 : g_none (p_T (c_A B L E c) (B 0 c) (B 8 1)) (c_keep B (c_A B L E c) ob Bo Ro c (la + la % 2 + 1)) → ∀ h' M', k_h (u0 + 22) h' → k_fc c la M0 M' → (0 ≤ M' 76 0 6 ∧ M' 76 0 6 ≤ 58) → f 0 h' M') (u2 u16 u17 u19 : qV) : b208_140 d h f u2 kp u16 u17 c u19 M0 := by
  have szA := k_szA hB hl hL hc
  have sz := szA.1
  have l6 := sz.2.1
  have ok := sz.2.2.2.1
  have s16 := sz.2.2.2.2
  have hD := hB.2.2.2.2.2.2.2.1
  have set : ∀ (q v : Int) (M : qM) (u2 u16 u17 : qV), (q = 10 ∨ q = 13 ∨ q = 16 ∨ q = 19 ∨ q = 22 ∨ q = 25) → (∀ M', M' = qU M 76 0 (q + c) (if q < 16 then -1 else 0) → b208_150 d h f u2 kp u16 u17 c (q + 3) M') → b208_150 d h f u2 kp u16 u17 c q M := fun q v M u2 u16 u17 hq H => w208_150 hu.1 ⟨fun _ => ⟨⟨by omega, by omega⟩, fun x hx => ⟨⟨by omega, by omega⟩, fun M' f' => ⟨⟨by omega, by omega⟩, H M' (by rw [f', hx])⟩⟩⟩, fun z => absurd (show q < 28 by omega) z⟩
  refine w208_140 hu.1 ⟨fun _ => set 10 0 _ _ _ _ (by decide) (fun M1 f1 => set 13 0 _ _ _ _ (by decide) (fun M2 f2 => set 16 0 _ _ _ _ (by decide) (fun M3 f3 => set 19 0 _ _ _ _ (by decide) (fun M4 f4 => set 22 0 _ _ _ _ (by decide) (fun M5 f5 => set 25 0 _ _ _ _ (by decide) (fun M6 f6 => ?_)))))), fun z => absurd hc.2 z⟩
  have O6 : ∀ (k : Nat) (o s : Int), ¬ (k = 76 ∧ o = 0 ∧ (s = 10 + c ∨ s = 13 + c ∨ s = 16 + c ∨ s = 19 + c ∨ s = 22 + c ∨ s = 25 + c)) → M6 k o s = M0 k o s := fun k o s z => by
    rw [f6]; unfold qU; rw [if_neg (fun y => z ⟨y.1, y.2.1, by omega⟩), f5]; unfold qU; rw [if_neg (fun y => z ⟨y.1, y.2.1, by omega⟩), f4]; unfold qU; rw [if_neg (fun y => z ⟨y.1, y.2.1, by omega⟩), f3]; unfold qU; rw [if_neg (fun y => z ⟨y.1, y.2.1, by omega⟩), f2]; unfold qU; rw [if_neg (fun y => z ⟨y.1, y.2.1, by omega⟩), f1]; unfold qU; rw [if_neg (fun y => z ⟨y.1, y.2.1, by omega⟩)]
  have v19 : M6 76 0 (19 + c) = 0 := by rw [f6, qU_l (by omega), f5, qU_l (by omega), f4, qU_s]; rfl
  have fc6 : k_fc c la M0 M6 := fun k o s _ z2 => O6 k o s (fun y => z2 (by omega))
  have bk6 := k_bk_fc hc hbk fc6
  have ho6 : k_off B M6 := fun it a b => by rw [O6 _ _ _ (by omega)]; exact ho it a b
  have he6 : k_e 68 B W M6 := fun it w a b e g => by rw [O6 _ _ _ (by omega)]; exact he it w a b e g
  have e66 : M6 76 0 6 = la := by rw [O6 _ _ _ (by omega)]; exact hla
  refine w208_150 hu.1 ⟨fun z => absurd z (by decide), fun _ => ⟨hc, ?_⟩⟩
  rw [bk6.1 c hc.1 hc.2]
  refine ⟨fun z => absurd z (by omega), fun _ => ?_⟩
  refine k_197 (la := la) (u0 := u0) hB hB2 hl hL hc hW bk6 ho6 he6 (fun h7 M7 hu7 fc7 e7 e10 e74 v19' rws => ?_) (B 0 c).toNat 0 h M6 (by omega) ⟨Int.le_refl _, by omega⟩ (by simpa using hu) (fun _ _ _ _ _ => rfl) rfl (fun _ _ => rfl) (fun _ _ _ => rfl) (by rw [v19]; rfl) (fun q a b => by have : p_SR (c_A B L E c) 0 = 0 := rfl; omega)
  have hu7 : k_h (u0 + 12) h7 := k_h_up hu7 (by omega)
  have fc07 := k_fc_t fc6 fc7
  have bk7 := k_bk_fc hc hbk fc07
  refine w208_197 hu7.1 ⟨hc, ?_⟩
  rw [bk7.1 c hc.1 hc.2, e7, e66]
  refine ⟨fun z => absurd z (Int.lt_irrefl _), fun _ => ⟨hla2.1, ?_⟩⟩
  have hR0 : 0 < p_SR (c_A B L E c) (B 0 c) := by
    have h6 := p_okA_6 ok.1 (i := 0) ⟨by omega, hN⟩
    have s := p_SR_s (A := c_A B L E c) (i := 0) (by omega)
    have l := p_SR_le ok.1 (i := 0 + 1) ⟨by omega, by omega⟩
    have z : p_SR (c_A B L E c) 0 = 0 := rfl
    omega
  -- behind the blank page
  have make : ∀ (M8 : qM) (u2 u16 u17 u19 : qV), (∀ (k : Nat) (o s : Int), ¬ (k = 76 ∧ o = 0 ∧ s = 6) → ¬ ((k = 74 ∨ k = 75) ∧ o = 0 ∧ s = la + 1) → M8 k o s = M7 k o s) → M8 76 0 6 = la + la % 2 → (la % 2 = 1 → M8 74 0 (la + 1) = 4 ∧ M8 75 0 (la + 1) = 0) → b208_259 d h7 f u2 kp u16 u17 c u19 M8 := by
    intro M8 u2 u16 u17 u19 O8 e8 bl
    have fc8 : k_fc c la M0 M8 := k_fc_t fc07 (fun k o s z1 z2 => O8 k o s (fun y => z2 (by omega)) (fun y => z2 (by omega)))
    have bk8 := k_bk_fc hc hbk fc8
    have rw8 : k_rw (c_A B L E c) c (p_SR (c_A B L E c) (B 0 c)) M8 := fun q a b => by rw [O8 _ _ _ (by omega) (by omega)]; exact rws q a b
    have v198 : M8 76 0 (19 + c) = p_SR (c_A B L E c) (B 0 c) := by rw [O8 _ _ _ (by omega) (by omega)]; exact v19'
    have ch8 := k_chA hB hB2 hl hL hc bk8 v198 rw8
    have fin : ∀ M9, k_fk c (la + la % 2) M8 M9 → k_fc c la M0 M9 := fun M9 f9 => k_fc_t fc8 (fun k o s z1 z2 => f9.1 k o s (fun y => z1 (by omega)) (fun y => z2 (by omega)))
    have core : ∀ (O : pT) (wo co : Int), (kp ≠ 0 ∧ M8 76 0 34 = M8 76 0 1 ∧ M8 76 0 35 = M8 76 0 2 ∧ M8 76 0 (36 + c) = la + la % 2 + 1 → (k_old M8 c O wo co (la + la % 2) ∧ g_old O wo) ∧ ∀ k, 0 ≤ k → k < wo - 1 → (∀ r, 0 ≤ r → r < O 0 k → k_srow (c_A B L E c) (B 0 c) c M8 r) → O 1 k ≤ p_fl (c_A B L E c) (O 0 k) ∧ O 1 k ≤ g_bf O 1 k + 2 ∧ O 0 k < p_SR (c_A B L E c) (B 0 c)) → (∀ Q n, g_keepP (p_T (c_A B L E c) (B 0 c) (B 8 1)) O (k_srow (c_A B L E c) (B 0 c) c M8) wo (kp ≠ 0 ∧ M8 76 0 34 = M8 76 0 1 ∧ M8 76 0 35 = M8 76 0 2 ∧ M8 76 0 (36 + c) = la + la % 2 + 1) Q n → c_keep B (c_A B L E c) ob Bo Ro c (la + la % 2 + 1) Q n) → b208_259 d h7 f u2 kp u16 u17 c u19 M8 := by
      intro O wo co hold8 conv
      refine w208_259 hu7.1 (L205 (u := u0 + 12) (O := O) (wo := wo) (co := co) hu7 szA.2.1 ch8 e8 ⟨by omega, hla2.2⟩ hR0 hold8 (fun h9 M9 P9 ct hu9 f9 hP9 made9 l1 l2 l3 fz9 => ⟨fun z => absurd z (by decide), fun _ => ⟨⟨by omega, by omega⟩, ?_⟩⟩) (fun none9 h9 M9 hu9 f9 e9 => ⟨fun _ => H0 (k_none_cg conv none9) h9 M9 (k_h_up hu9 (by omega)) (fin M9 f9) e9, fun z => absurd rfl z⟩))
      refine H1 h9 M9 P9 ct (k_h_up hu9 (by omega)) (fin M9 f9) hP9.1 (k_made_cg conv made9) hP9.2 l1 l2 (by rw [f9.1 _ _ _ (by omega) (by omega)]; exact v198) (fun q a b => ?_) fz9 (fun z => ?_) l3 _ _ _ _
      · have g := f9.2 (20 * c + q) (by omega) (by omega)
        have r := rw8 q a b
        exact ⟨g.2 r.1, by rw [g.1]; exact r.2⟩
      · have := bl z
        rw [f9.1 _ _ _ (by omega) (by omega), f9.1 _ _ _ (by omega) (by omega)]
        exact this
    rcases hold with ⟨nob, kp0⟩ | ⟨hob, kp1, hom, hok⟩
    · refine core (fun _ _ => 0) 0 0 (fun z => absurd kp0 z.1) (fun Q n z => Or.inl ⟨nob, ?_⟩)
      rcases z with z | z
      · exact absurd kp0 z.1.1
      · exact z.2
    · have hom8 : k_om B Bo Ro M8 := k_om_fr hl hom (fun k s q => fc8 _ _ _ (by omega) (by omega)) (fun it a b => by rw [fc8 _ _ _ (by omega) (by omega)])
      have was := hok c hc.1 hc.2
      have wold := c_was_old was
      have e1 : M8 76 0 1 = B 8 0 := bk8.2.2.2.1
      have e2 : M8 76 0 2 = B 8 1 := bk8.2.2.2.2.1
      by_cases n0 : 0 < Bo 0 c
      · have ch := (hom8.2.1 c hc.1 hc.2).1 n0
        have pg := was.2.2.2.2.2 n0
        have eR : ∀ k, 0 ≤ k → k < w_wr (r_W Ro c) → w_P (r_W Ro c) 0 k ≤ p_SR (r_A Bo Ro c) (Bo 0 c) := fun k a b => (g_pages_up pg k a (by have := wold.2; omega)).2.1
        have sm : ∀ r, 0 ≤ r → r < p_SR (r_A Bo Ro c) (Bo 0 c) → (k_srow (c_A B L E c) (B 0 c) c M8 r ↔ c_same (c_A B L E c) (r_A Bo Ro c) (B 0 c) (Bo 0 c) (c_ss B Bo c) r) := fun r a b => k_same hB hl hL hc rw8 hom8 was.1.1 n0 a b
        have e36 := ch.1.2.2.1
        refine core (w_P (r_W Ro c)) (w_wr (r_W Ro c)) (w_ct (r_W Ro c)) (fun on => ⟨⟨?_, wold.1⟩, fun k a b hs => c_was_page ok.1 was ⟨a, b⟩ (fun r r0 r1 => (sm r r0 (by have := eR k a (by omega); omega)).mp (hs r r0 r1))⟩) (fun Q n z => Or.inr ⟨hob, k_keepP_cg wold.1 eR sm ?_ z⟩)
        · rw [show la + la % 2 = w_fi (r_W Ro c) - 1 by omega]; exact ch.1
        · rw [hom8.1.1, hom8.1.2, e1, e2, e36]
          exact ⟨fun z => ⟨z.2.1, z.2.2.1, by omega⟩, fun z => ⟨kp1, z.1, z.2.1, by omega⟩⟩
      · have ch := (hom8.2.1 c hc.1 hc.2).2 (by omega)
        have w0 := was.2.2.2.2.1 (by omega)
        refine core (w_P (r_W Ro c)) 0 0 (fun on => absurd on.2.2.2 (by omega)) (fun Q n z => Or.inr ⟨hob, ?_⟩)
        rcases z with z | z
        · exact absurd z.1.2.2.2 (by omega)
        · exact Or.inr ⟨fun y => by omega, z.2⟩
  refine ⟨fun odd => ?_, fun even => ?_⟩
  · refine L203 hu7.1 ⟨by decide, by decide⟩ ⟨by decide, by decide⟩ ⟨by decide, by decide⟩ ⟨by decide, by decide⟩ ⟨by decide, by decide⟩ ⟨by decide, by decide⟩ ⟨by decide, by decide⟩ ⟨by decide, by decide⟩ (by rw [e7, e66]; omega) (fun M8 O8 x6 x74 x75 => ?_)
    rw [e7, e66] at O8 x6 x74 x75
    exact make M8 _ _ _ _ O8 (by rw [x6]; omega) (fun _ => ⟨x74, x75⟩)
  · exact make M7 _ _ _ _ (fun _ _ _ _ _ => rfl) (by rw [e7, e66]; omega) (fun z => absurd z even)
end
