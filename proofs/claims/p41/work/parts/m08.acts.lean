/-! ===== the acts that change measures, the index and the order ===== -/
section
variable {d : Nat} {h : qH} {sc : Int × (Int → Int)} {f : Int → qH → qM → Prop} {x25 x26 x27 x28 x30 : Int} {u34 : qV} {M N : qM} {B : pT} {n : Int}
/-- other measures, the same book -/
theorem l_un {Z : Int → Int} (h : l_all n B M) (hz : z_cl n (c_s8 Z B) N) (h13 : N 10 0 13 = 0) (ed : ∀ (k : Nat) (o s : Int), (k = 3 ∨ k = 8 ∨ k = 9 ∨ (23 ≤ k ∧ k ≤ 26) ∨ (43 ≤ k ∧ k ≤ 61)) → N k o s = M k o s) (h9 : N 10 0 9 = M 10 0 9) (h14 : M 10 0 14 ≤ N 10 0 14) (law : ∀ (k : Nat) (o s : Int), 64 ≤ k → ¬ (k = 76 ∧ o = 0 ∧ 1 ≤ s ∧ s ≤ 4) → ¬ (k = 78 ∧ o = 0) → N k o s = M k o s) (hm : N 76 0 1 = Z 0 ∧ N 76 0 2 = Z 1 ∧ N 76 0 3 = Z 2) (h4 : N 76 0 4 = 0) (hal : l_al N) (h5 : ∀ x s, N 5 x s = M 5 x s) (h3 : ∀ (k : Nat) (w : Int), 32 ≤ k → k ≤ 36 → ∀ o, N k o w = M k o w) : l_all n (c_s8 Z B) N := by
  obtain ⟨⟨b1, ⟨b2, b3, b4⟩, ⟨b5, b6⟩, b7, b8, b9⟩, hm', hp⟩ := h
  have e : ∀ (k : Nat) (s : Int), 64 ≤ k → k ≠ 76 → k ≠ 78 → N k 0 s = M k 0 s := fun k s a b c => law k 0 s a (by omega) (by omega)
  obtain ⟨k1, k2, k3, k4, k5, k6⟩ := b2
  have e36 : N 36 = M 36 := funext fun x => funext fun s => h3 36 s (by decide) (by decide) x
  have bk : k_bk (c_s8 Z B) N := by
    refine ⟨fun c a b => ?_, fun it a b => ?_, fun it w a b c g => ?_, hm.1, hm.2.1, hm.2.2⟩
    · rw [e 77 _ (by decide) (by decide) (by decide)]; exact k1 c a b
    · rw [e 65 _ (by decide) (by decide) (by decide)]; exact k2 it a b
    · have := k3 it w a b c g
      unfold k_cd at this ⊢
      rw [show N 64 = M 64 from funext fun o => funext fun s => law 64 o s (by decide) (by omega) (by omega)]
      exact this
  refine ⟨⟨hz, ⟨bk, b3, b4⟩, ⟨fun it a b => by rw [e 66 _ (by decide) (by decide) (by decide)]; exact b5 it a b, fun it a b r q => ?_⟩, ⟨?_, fun w a b => ?_⟩, hal, ⟨fun it a b => by rw [e 65 _ (by decide) (by decide) (by decide)]; exact b9.1 it a b, fun x a b r q => by rw [h5]; exact b9.2 x a b r q⟩⟩, Or.inl ⟨h13, h4⟩, ?_⟩
  · have t := b6 it a b r q
    show N 65 0 it / 65536 = N 5 (1 + k_x it) 8 ∧ (N 5 (1 + k_x it) 8 ≠ 0 → kU (N 66 0 it) = kP 4 (fun j => (N 36 (1 + k_y it j / 20) (k_y it j % 20)).toNat) (B 3 (k_x it)).toNat ∧ ∀ j, 0 ≤ j → j < B 3 (k_x it) → 0 ≤ N 36 (1 + k_y it j / 20) (k_y it j % 20) ∧ N 36 (1 + k_y it j / 20) (k_y it j % 20) ≤ 15)
    rw [e 65 _ (by decide) (by decide) (by decide), e 66 _ (by decide) (by decide) (by decide), h5, e36]
    exact t
  · rw [law 76 0 0 (by decide) (by omega) (by omega), h5]; exact b7.1
  · rw [h5] at b
    rw [e 79 _ (by decide) (by decide) (by decide), h3 32 _ (by decide) (by decide), h3 33 _ (by decide) (by decide), h3 34 _ (by decide) (by decide)]
    exact b7.2 w a b
  · rcases hp with ⟨p1, p2⟩ | ⟨p1, Bo, Wo, Ro, Lo, e', N0, p2, p3, p4, p5⟩
    · exact Or.inl ⟨by rw [h9]; exact p1, by rw [law 76 0 5 (by decide) (by omega) (by omega)]; exact p2⟩
    · refine Or.inr ⟨by rw [law 76 0 5 (by decide) (by omega) (by omega)]; exact p1, Bo, Wo, Ro, Lo, e', N0, ?_, ?_, l_cp_fr p4 (fun k s q => law k 0 s (by omega) (by omega) (by omega)), fun c i a b c' d => by rw [e 65 _ (by decide) (by decide) (by decide), e 82 _ (by decide) (by decide) (by decide)]; exact p5 c i a b c' d⟩
      · obtain ⟨q1, q2, q3, q4, q5, q6, q7⟩ := p2
        refine ⟨⟨by rw [h9]; exact q1.1, q1.2⟩, q2, q3, q4, ?_, q6, fun x a b c => by have := q7 x a b c; omega⟩
        rw [← z_edn_Y, z_Y_eq ed, z_edn_Y]; exact q5
      · have om : k_om B Bo Ro N := k_om_fr b3 p3 (fun k s q => law k 0 s (by omega) (by omega) (by omega)) (fun it a b => by rw [e 65 _ (by decide) (by decide) (by decide)])
        exact om
/-- setMeasures -/
theorem k_msr {u : Nat} {w dp : Int} (hu : k_h u h) (ha : l_all n B M) (hw : 8 ≤ w ∧ w ≤ 30) (hd : 8 ≤ dp ∧ dp ≤ 14) (K : ∀ h' N, k_h (u + 5) h' → (∃ B, l_all n B N) → ∀ u26 u27 u28 u31 u32 u33 u34, b269_1234 d h' sc f x25 u26 u27 u28 1 x30 u31 u32 u33 u34 N) :
 e152 (d + 2) h 7 8 M (fun v120 z123 M121 =>
 ((v120 = (-7200) →
 e152 (d + 2) z123 31 8 M121 (fun v127 z130 M128 =>
 ((v127 = (-7200) →
 e152 (d + 2) z130 8 7 M128 (fun v134 z137 M135 =>
 ((v134 = (-7200) →
 e152 (d + 2) z137 8 15 M135 (fun v141 z144 M142 =>
 ((v141 = (-7200) →
 (∀ M148, M148 = qU M142 76 0 1 w → (∀ M149, M149 = qU M148 76 0 2 dp → (∀ M150, M150 = qU M149 76 0 4 0 → e152 (d + 2) z144 w dp M150 (fun v151 z154 M152 =>
 (∀ x155 : Int, x155 = (if v151 = (M142 76 0 1) then 1 else 0) → b269_1234 d z154 sc f x25 (.inl x26) (.inl x27) (.inl x28) x155 x30 (.inl w) (.inl dp) (.inl (M142 76 0 1)) (u34) M152)))))) ∧
 (¬ (v141 = (-7200)) →
 f 0 z144 M142)))) ∧
 (¬ (v134 = (-7200)) →
 f 0 z137 M135)))) ∧
 (¬ (v127 = (-7200)) →
 f 0 z130 M128)))) ∧
 (¬ (v120 = (-7200)) →
 f 0 z123 M121))) := by
  have zc := ha.1.1
  have hu1 := k_h_bump hu
  have hu2 := k_h_bump hu1
  have hu3 := k_h_bump hu2
  have hu4 := k_h_bump hu3
  refine C152 hu.1 zc (fun z => by omega) (fun _ => ⟨fun _ => ?_, fun z => absurd rfl z⟩)
  refine C152 hu1.1 zc (fun z => by omega) (fun _ => ⟨fun _ => ?_, fun z => absurd rfl z⟩)
  refine C152 hu2.1 zc (fun z => by omega) (fun _ => ⟨fun _ => ?_, fun z => absurd rfl z⟩)
  refine C152 hu3.1 zc (fun z => by omega) (fun _ => ⟨fun _ M1 f1 M2 f2 M3 f3 => ?_, fun z => absurd rfl z⟩)
  have O3 : ∀ (k : Nat) (o s : Int), ¬ (k = 76 ∧ o = 0 ∧ (s = 1 ∨ s = 2 ∨ s = 4)) → M3 k o s = M k o s := fun k o s q => by rw [f3, f2, f1]; unfold qU; rw [if_neg (by omega), if_neg (by omega), if_neg (by omega)]
  have zc3 : z_cl n B M3 := z_cl_fr (fun k o s a b => O3 k o s (by omega)) zc
  refine C152 hu4.1 zc3 (fun _ N zN lw n13 n63 n5 n36 nx x hx => ?_) (fun z => absurd ⟨hw, hd⟩ z)
  have bk := ha.1.2.1.1
  rw [if_pos bk.2.2.2.1.symm] at hx
  rw [hx]
  refine K _ N (k_h_up hu4 (by omega)) ⟨_, l_un ha zN n13 (fun k o s q => by rw [lw.2.1 k o s q]; exact O3 k o s (by omega)) (by rw [lw.2.2.1]; exact O3 _ _ _ (by omega)) (by have := lw.2.2.2; rw [O3 10 0 14 (by omega)] at this; exact this) (fun k o s a b c => by rw [lw.1 k o s a]; exact O3 k o s (by omega)) ⟨?_, ?_, ?_⟩ ?_ (fun t a b => ?_) (fun x s => by rw [nx]; exact O3 _ _ _ (by omega)) (fun k w a b o => by rw [n36 k w a b o]; exact O3 _ _ _ (by omega))⟩ _ _ _ _ _ _ _
  · rw [lw.1 _ _ _ (by decide), f3, qU_l (by decide), f2, qU_l (by decide), f1, qU_s]; rfl
  · rw [lw.1 _ _ _ (by decide), f3, qU_l (by decide), f2, qU_s]; rfl
  · rw [lw.1 _ _ _ (by decide), O3 _ _ _ (by omega)]; exact bk.2.2.2.2.2
  · rw [lw.1 _ _ _ (by decide), f3, qU_s]
  · rw [lw.1 _ _ _ (by decide), n63, O3 _ _ _ (by omega), O3 _ _ _ (by omega)]; exact ha.1.2.2.2.2.1 t a b
theorem k_482 {u : Nat} (hu : k_h u h) (ha : l_all n B M) (K : ∀ h' N, k_h (u + 5) h' → (∃ B, l_all n B N) → ∀ u26 u27 u28 u31 u32 u33 u34, b269_1234 d h' sc f x25 u26 u27 u28 1 x30 u31 u32 u33 u34 N) (K2 : ¬ x26 = 18 → ∀ u28 u31 u32 u33 u34, b269_658 d h sc f x25 x26 x27 u28 1 x30 u31 u32 u33 u34 M) {u31 u32 u33 u34 : qV} : b269_482 d h sc f x25 x26 x27 x28 1 x30 u31 u32 u33 u34 M := by
  have hS := hu.1
  refine w269_482 hS ⟨fun _ => ⟨fun _ => L151 hS (by decide) ⟨⟨by omega, by omega⟩, fun _ => L151 hS (by decide) ⟨⟨by omega, by omega⟩, k_msr hu ha ⟨by omega, by omega⟩ ⟨by omega, by omega⟩ K⟩, fun _ => L151 hS (by decide) ⟨⟨by omega, by omega⟩, k_msr hu ha ⟨by omega, by omega⟩ ⟨by omega, by omega⟩ K⟩⟩, fun _ => L151 hS (by decide) ⟨⟨by omega, by omega⟩, fun _ => L151 hS (by decide) ⟨⟨by omega, by omega⟩, k_msr hu ha ⟨by omega, by omega⟩ ⟨by omega, by omega⟩ K⟩, fun _ => L151 hS (by decide) ⟨⟨by omega, by omega⟩, k_msr hu ha ⟨by omega, by omega⟩ ⟨by omega, by omega⟩ K⟩⟩⟩, fun z => K2 z _ _ _ _ _⟩
theorem k_406 {u : Nat} (hu : k_h u h) (ha : l_all n B M) (K : ∀ h' N, k_h (u + 5) h' → (∃ B, l_all n B N) → ∀ u26 u27 u28 u31 u32 u33 u34, b269_1234 d h' sc f x25 u26 u27 u28 1 x30 u31 u32 u33 u34 N) (K2 : ¬ x26 = 17 → ∀ u31 u32 u33 u34, b269_482 d h sc f x25 x26 x27 x28 1 x30 u31 u32 u33 u34 M) {u31 u32 u33 u34 : qV} : b269_406 d h sc f x25 x26 x27 x28 1 x30 u31 u32 u33 u34 M := by
  have hS := hu.1
  have bk := ha.1.2.1.1
  have hB := ha.1.1.2.1.1.1
  have b2 := hB.2.2.2.2.2.2.2.2
  refine w269_406 hS ⟨fun _ y1 hy1 y2 hy2 M1 f1 M2 f2 y3 hy3 => ?_, fun z => K2 z _ _ _ _⟩
  have y2b : y2 = 0 ∨ y2 = 1 := by
    rw [hy2]
    split
    · exact Or.inr rfl
    · exact Or.inl rfl
  have O2 : ∀ (k : Nat) (o s : Int), ¬ (k = 76 ∧ o = 0 ∧ (s = 3 ∨ s = 4)) → M2 k o s = M k o s := fun k o s q => by rw [f2, f1]; unfold qU; rw [if_neg (by omega), if_neg (by omega)]
  have v3 : M2 76 0 3 = y2 := by rw [f2, qU_l (by decide), f1, qU_s]
  have e3 : y3 = y2 := by
    rw [hy3, v3]
    rcases y2b with z | z
    · rw [z]; rfl
    · rw [z]; rfl
  rw [e3]
  have zc2 : z_cl n B M2 := z_cl_fr (fun k o s a b => O2 k o s (by omega)) ha.1.1
  have e1 : y1 = B 8 2 := by
    rw [hy1, bk.2.2.2.2.2]
    rcases b2 with z | z
    · rw [if_neg (by omega)]; omega
    · rw [if_pos z]; omega
  refine C96 hS zc2 y2b (fun N zN lw n13 n63 n5 n36 nx x hx => ?_)
  rw [if_pos e1.symm] at hx
  rw [hx]
  refine K _ N (k_h_up hu (by omega)) ⟨_, l_un ha zN n13 (fun k o s q => by rw [lw.2.1 k o s q]; exact O2 k o s (by omega)) (by rw [lw.2.2.1]; exact O2 _ _ _ (by omega)) (by have := lw.2.2.2; rw [O2 10 0 14 (by omega)] at this; exact this) (fun k o s a b c => by rw [lw.1 k o s a]; exact O2 k o s (by omega)) ⟨?_, ?_, ?_⟩ ?_ (fun t a b => ?_) (fun x s => by rw [nx]; exact O2 _ _ _ (by omega)) (fun k w a b o => by rw [n36 k w a b o]; exact O2 _ _ _ (by omega))⟩ _ _ _ _ _ _ _
  · rw [lw.1 _ _ _ (by decide), O2 _ _ _ (by omega)]; exact bk.2.2.2.1
  · rw [lw.1 _ _ _ (by decide), O2 _ _ _ (by omega)]; exact bk.2.2.2.2.1
  · rw [lw.1 _ _ _ (by decide), v3]; rfl
  · rw [lw.1 _ _ _ (by decide), f2, qU_s]
  · rw [lw.1 _ _ _ (by decide), n63, O2 _ _ _ (by omega), O2 _ _ _ (by omega)]; exact ha.1.2.2.2.2.1 t a b
theorem k_see {u : Nat} (hu : k_h u h) (ha : l_all n B M) (K : ∀ h' N, k_h (u + 5) h' → (∃ B, l_all n B N) → ∀ u26 u27 u28 u31 u32 u33 u34, b269_1234 d h' sc f x25 u26 u27 u28 1 x30 u31 u32 u33 u34 N) (K2 : ¬ x26 = 16 → ∀ u31 u32 u33 u34, b269_406 d h sc f x25 x26 x27 x28 1 x30 u31 u32 u33 u34 M) {u31 u32 u33 u34 : qV} : b269_283 d h sc f x25 x26 x27 x28 1 x30 u31 u32 u33 u34 M := by
  have hS := hu.1
  have zc := ha.1.1
  have bk := ha.1.2.1.1
  have al := ha.1.2.2.2.2.1
  have al2 := zc.2.2.2.1
  have hu1 := k_h_bump hu
  have hu2 := k_h_bump hu1
  have hu3 := k_h_bump hu2
  refine w269_283 hS ⟨fun _ => L151 hS (by decide) (L151 hS (by decide) ?_), fun z => K2 z _ _ _ _⟩
  generalize ht : x27 % 4294967296 / 2 % 10 = t
  generalize ho : x28 % 4294967296 / 2 % 11 = o
  have tb : 0 ≤ t ∧ t < 10 := by omega
  have ob : 0 ≤ o ∧ o < 11 := by omega
  refine ⟨⟨by omega, by omega⟩, C158 hS zc (fun z => by omega) (fun z => by omega) (fun _ => ⟨fun _ => ?_, fun z => absurd rfl z⟩)⟩
  refine C158 hu1.1 zc (fun _ z => by omega) (fun _ _ => ⟨fun _ => ?_, fun z => absurd rfl z⟩) (fun z => absurd tb z)
  refine C158 hu2.1 zc (fun _ z => absurd rfl z.2) (fun _ _ => ⟨fun _ => ?_, fun z => absurd rfl z⟩) (fun z => absurd tb z)
  refine ⟨fun _ => K _ M (k_h_up hu3 (by omega)) ⟨B, ha⟩ _ _ _ _ _ _ _, fun ne => ⟨tb, ?_⟩⟩
  have at' := al t tb.1 tb.2
  have a2 := al2 t tb.1 tb.2
  refine ⟨⟨by omega, by omega⟩, ⟨by omega, by omega⟩, tb, fun M1 f1 M2 f2 => ?_⟩
  have O2 : ∀ (k : Nat) (m s : Int), ¬ (k = 76 ∧ m = 0 ∧ s = 4) → ¬ (k = 78 ∧ m = 0 ∧ s = t) → M2 k m s = M k m s := fun k m s q q2 => by rw [f2, f1]; unfold qU; rw [if_neg (by omega), if_neg (by omega)]
  have zc2 : z_cl n B M2 := z_cl_fr (fun k o s a b => O2 k o s (by omega) (by omega)) zc
  refine C158 hu3.1 zc2 (fun _ _ N zN lw n13 n63 n5 n36 nx x hx => ?_) (fun _ z => absurd ⟨⟨by omega, by omega⟩, ne⟩ z) (fun z => absurd tb z)
  rw [if_pos (by rw [O2 63 _ _ (by omega) (by omega)]; omega)] at hx
  rw [hx]
  refine K _ N (k_h_up hu3 (by omega)) ⟨_, l_un ha zN n13 (fun k o s q => by rw [lw.2.1 k o s q]; exact O2 k o s (by omega) (by omega)) (by rw [lw.2.2.1]; exact O2 _ _ _ (by omega) (by omega)) (by have := lw.2.2.2; rw [O2 10 0 14 (by omega) (by omega)] at this; exact this) (fun k o s a b c => by rw [lw.1 k o s a]; exact O2 k o s (by omega) (by omega)) ⟨?_, ?_, ?_⟩ ?_ (fun s a b => ?_) (fun x s => by rw [nx]; exact O2 _ _ _ (by omega) (by omega)) (fun k w a b o => by rw [n36 k w a b o]; exact O2 _ _ _ (by omega) (by omega))⟩ _ _ _ _ _ _ _
  · rw [lw.1 _ _ _ (by decide), O2 _ _ _ (by omega) (by omega)]; exact bk.2.2.2.1
  · rw [lw.1 _ _ _ (by decide), O2 _ _ _ (by omega) (by omega)]; exact bk.2.2.2.2.1
  · rw [lw.1 _ _ _ (by decide), O2 _ _ _ (by omega) (by omega)]; exact bk.2.2.2.2.2
  · rw [lw.1 _ _ _ (by decide), f2, qU_s]
  · rw [lw.1 _ _ _ (by decide), n63]
    by_cases e : s = t
    · rw [if_pos e, e, f2, qU_k (by decide), f1, qU_s]
    · rw [if_neg e, O2 78 _ _ (by omega) (by omega), O2 63 _ _ (by omega) (by omega)]; exact al s a b
end
