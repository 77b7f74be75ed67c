/-! ===== word, refer, clear ===== -/
def c_sc4 (k : Nat) (s : Int) : Prop := k = 5 ∨ (32 ≤ k ∧ k ≤ 34) ∨ (72 ≤ k ∧ k ≤ 74) ∨ (k = 11 ∧ s = 12)
def c_scb4 (k : Nat) (s : Int) : Bool := c_scb k s || (Nat.beq k 5 || (Nat.ble 32 k && Nat.ble k 34) || (Nat.ble 72 k && Nat.ble k 74) || (Nat.beq k 11 && decide (s = 12)))
def c_X4 (M : qM) : qM := fun k m s => bif c_scb4 k s then 0 else M k m s
def c_fr4 (M M' : qM) : Prop := ∀ (k : Nat) (m s : Int), ¬ c_scr k s → ¬ c_sc4 k s → M' k m s = M k m s
theorem c_fr4_X {M M' : qM} (h : c_fr4 M M') : c_X4 M' = c_X4 M := by
  funext k m s
  unfold c_X4
  by_cases q : c_scr k s
  · have e : c_scb4 k s = true := by unfold c_scb4; rw [c_scb_of q]; rfl
    rw [e]; rfl
  · by_cases q2 : c_sc4 k s
    · have e : c_scb4 k s = true := by
        unfold c_scb4
        rcases q2 with q2 | q2 | q2 | q2
        · subst q2
          cases c_scb 5 s <;> rfl
        · rw [Nat.ble_eq_true_of_le q2.1, Nat.ble_eq_true_of_le q2.2]
          cases c_scb k s <;> cases Nat.beq k 5 <;> rfl
        · rw [Nat.ble_eq_true_of_le q2.1, Nat.ble_eq_true_of_le q2.2]
          cases c_scb k s <;> cases Nat.beq k 5 <;> cases (Nat.ble 32 k && Nat.ble k 34) <;> rfl
        · obtain ⟨q2, q3⟩ := q2
          subst q2
          rw [decide_eq_true q3]
          cases c_scb 11 s <;> rfl
      rw [e]; rfl
    · rw [h k m s q q2]
theorem c_cg4 {P : qM → Prop} (hP : ∀ M, P (c_X4 M) = P M) {M M' : qM} (h : c_fr4 M M') (p : P M) : P M' := by
  rw [← hP M', c_fr4_X h, hP M]; exact p
/-- the draft has changed -/
theorem c_rl_dr {n : Int} {B : pT} {M N : qM} (h : c_rl n B M) (f : ∀ (k : Nat) (m s : Int), ¬ c_scr k s → ¬ (k = 5 ∧ m = 0 ∧ s = 2) → ¬ (32 ≤ k ∧ k ≤ 34 ∧ m = 0) → ¬ (72 ≤ k ∧ k ≤ 74) → ¬ (k = 11 ∧ s = 12) → N k m s = M k m s) (hd : c_dr N) (hl : ((∀ it i, 0 ≤ N 32 it i ∧ N 32 it i ≤ 8) ∧ ∀ it, 0 ≤ N 5 it 2 ∧ N 5 it 2 ≤ 20)) : c_rl n B N := by
  obtain ⟨h0, ⟨a1, a2, a3⟩, ⟨b1, b2, b3, b4⟩, h4, ⟨s1, s2, s3, s4, s5, s6, s7⟩, h6, h7⟩ := h
  have f4 : c_fr4 M N := fun k m s q q2 => f k m s q (fun z => q2 (Or.inl z.1)) (fun z => q2 (Or.inr (Or.inl ⟨z.1, z.2.1⟩))) (fun z => q2 (Or.inr (Or.inr (Or.inl z)))) (fun z => q2 (Or.inr (Or.inr (Or.inr z))))
  have f5 : ∀ x s : Int, 0 ≤ x → N 5 (1 + x) s = M 5 (1 + x) s := fun x s x0 => f 5 _ _ (by unfold c_scr; omega) (by omega) (by omega) (by omega) (by omega)
  have f3 : ∀ (k : Nat) (x s : Int), 32 ≤ k → k ≤ 34 → 0 ≤ x → N k (1 + x) s = M k (1 + x) s := fun k x s k0 k1 x0 => f k _ _ (by unfold c_scr; omega) (by omega) (by omega) (by omega) (by omega)
  have o36 : ∀ x, N 36 x = M 36 x := fun x => by funext s; exact f 36 _ _ (by unfold c_scr; omega) (by omega) (by omega) (by omega) (by omega)
  have o37 : ∀ x, N 37 x = M 37 x := fun x => by funext s; exact f 37 _ _ (by unfold c_scr; omega) (by omega) (by omega) (by omega) (by omega)
  refine ⟨h0, ⟨⟨c_cg4 (P := fun M => ∀ c, 0 ≤ c → c < 3 → M 1 c 1 = B 0 c) (fun _ => rfl) f4 a1.1, fun x x0 x1 => ?_, fun y y0 y1 => ?_⟩, c_cg4 (P := m_bk B) (fun _ => rfl) f4 a2, c_cg4 (P := c_ms B) (fun _ => rfl) f4 a3⟩, ⟨hd, c_cg4 (P := c_al) (fun _ => rfl) f4 b2, ⟨hl, c_cg4 (P := fun M => (∀ x, 0 ≤ M 67 0 x ∧ M 67 0 x ≤ 20) ∧ ∀ i, 0 ≤ M 69 0 i ∧ M 69 0 i ≤ 8) (fun _ => rfl) f4 b3.2⟩, c_cg4 (P := c_ed) (fun _ => rfl) f4 b4⟩, c_cg4 (P := c_ser n B) (fun _ => rfl) f4 h4, ⟨c_cg4 (P := fun M => c_z 0 M ∧ c_z 1 M) (fun _ => rfl) f4 s1, c_cg4 (P := c_bd) (fun _ => rfl) f4 s2, ⟨fun x x0 x1 r => ?_, fun x x0 x1 r => ?_⟩, c_cg4 (P := c_35 B) (fun _ => rfl) f4 s4, c_cg4 (P := m_inv B) (fun _ => rfl) f4 s5, c_cg4 (P := m_lim) (fun _ => rfl) f4 s6, fun x x0 x1 r q => ?_⟩, ?_, ?_⟩
  · rw [f5 x 0 x0, f5 x 1 x0, f5 x 2 x0, f5 x 3 x0]; exact a1.2.1 x x0 x1
  · rw [f3 33 _ _ (by decide) (by decide) (by omega), f3 34 _ _ (by decide) (by decide) (by omega), f3 32 _ _ (by decide) (by decide) (by omega)]; exact a1.2.2 y y0 y1
  · rw [f5 x 8 x0, f5 x 10 x0, f5 x 11 x0, o36, o37]; exact s3.1 x x0 x1 r
  · rw [f5 x 11 x0, o37]; exact s3.2 x x0 x1 r
  · rw [f5 x 8 x0]
    have := s7 x x0 x1 r q
    have e := c_cg4 (P := fun M => ∀ v : Int, M 79 0 x = v ↔ M 79 0 x = v) (fun _ => rfl) f4 (fun _ => Iff.rfl)
    rw [f 79 0 x (by unfold c_scr; omega) (by omega) (by omega) (by omega) (by omega), o36]
    exact ⟨this.1, fun z j j0 j1 => by rw [f 80 _ _ (by unfold c_scr; omega) (by omega) (by omega) (by omega) (by omega)]; exact this.2 z j j0 j1⟩
  · rcases h6 with h6 | ⟨Bo, Wo, Ro, Lo, e', N0, q1, q2, q3, q4⟩
    · exact Or.inl (c_cg4 (P := fun M => M 10 0 9 = 0 ∧ M 11 0 73 = 0) (fun _ => rfl) f4 h6)
    · obtain ⟨r1, r2, r3, r4, r5, r6, r7, r8⟩ := q3
      exact Or.inr ⟨Bo, Wo, Ro, Lo, e', N0, c_cg4 (P := fun M => M 10 0 9 = e' + 1) (fun _ => rfl) f4 q1, q2, ⟨r1, r2, r3, c_cg4 (P := c_edn Bo Ro (c_tot Bo Ro Lo) e') (fun _ => rfl) f4 r4, c_cpy_fr3 (fun k s q => f4 k 0 s (by unfold c_scr; omega) (by unfold c_sc4; omega)) r5, r6, r7, c_cg4 (P := fun M => ∀ x, 0 ≤ x → x < 30 → x % 10 < Bo 0 (x / 10) → (M 68 0 x = M 120 0 x ↔ B 7 x = Bo 7 x)) (fun _ => rfl) f4 r8⟩, c_cg4 (P := fun M => ∀ x, 0 ≤ x → x < 30 → x % 10 < Bo 0 (x / 10) → M 120 0 x ≤ M 68 0 x ∧ Bo 7 x ≤ M 10 0 14) (fun _ => rfl) f4 q4⟩
  · rcases h7 with h7 | ⟨q1, q2, en, W, R, L, p1, p2, p3, p4, p5, p6, p7⟩
    · exact Or.inl (c_cg4 (P := fun M => M 10 0 13 = 0 ∧ M 11 0 22 = 0) (fun _ => rfl) f4 h7)
    · have z := c_cg4 (P := fun M => M 10 0 13 = 1 ∧ M 11 0 22 = 1) (fun _ => rfl) f4 ⟨q1, q2⟩
      refine Or.inr ⟨z.1, z.2, en, W, R, L, c_cg4 (P := fun M => M 10 0 8 = en + 1) (fun _ => rfl) f4 p1, p2, p3, c_cg4 (P := c_edn B R (c_tot B R L) en) (fun _ => rfl) f4 p4, ⟨fun x x0 x1 => ?_, c_cg4 (P := fun M => (∀ y, 0 ≤ y → y < 600 → c_there B y → M 35 (1 + y / 20) (y % 20) = W y) ∧ (∀ c, 0 ≤ c → c < 3 → ∀ y, 200 * c ≤ y → y < 200 * c + 200 → M 38 0 y = mg_p (c_mgn B R c (w_wr (r_W R c)).toNat) y) ∧ (∀ t, 0 ≤ t → t < 10 → x_idx (c_K B) (B 5) (c_G B R) t 600 M) ∧ M 4 0 3 = L ∧ M 4 0 4 = (L + 2 * B 8 1 - 1) / (2 * B 8 1) ∧ M 4 0 5 = B 8 1 ∧ L = x_L (M 27 0) (M 63 0)) (fun _ => rfl) f4 p5.2⟩, c_cg4 (P := m_now B W R L) (fun _ => rfl) f4 p6, c_cg4 (P := fun M => M 2 0 9 = M 11 0 23 ∧ M 2 0 10 = M 11 0 21 ∧ (M 2 0 10 = 0 ∨ M 2 0 10 = 1)) (fun _ => rfl) f4 p7⟩
      rw [f5 x 10 x0, f5 x 11 x0, o37]
      exact p5.1 x x0 x1
theorem t146 {d : Nat} {h : qH} {k v : Int} {M : qM} {f : Int → qM → Prop} (H1 : qVal k v → f 1 M) (H0 : ¬ qVal k v → f 0 M) : e146 (d + 2) h k v M f :=
  s_isValue.imp (fun r σ hr => by
    obtain ⟨hr, rfl⟩ := hr
    rcases hr with ⟨q, rfl⟩ | ⟨q, rfl⟩
    · exact ⟨1, M, rfl, rfl, H1 q⟩
    · exact ⟨0, M, rfl, rfl, H0 q⟩)
theorem t44 {d : Nat} {h : qH} (hS : qSe h) {it w k v c : Int} {M : qM} {f : qM → Prop} (hc : M 5 it 2 = c) (hb : 0 ≤ c ∧ c < 20) (H : ∀ M', (∀ (kk : Nat) (m s : Int), ¬ (kk = 5 ∧ m = it ∧ s = 2) → ¬ (32 ≤ kk ∧ kk ≤ 34 ∧ m = it ∧ s = c) → M' kk m s = M kk m s) → M' 5 it 2 = c + 1 → M' 32 it c = w → M' 33 it c = k → M' 34 it c = v → f M') : e44 (d + 1) h it w k v M f := by
  refine w44 hS ⟨fun _ => ?_, fun q => by omega⟩
  rw [hc]
  refine ⟨hb, fun M1 f1 => ?_⟩
  have e1 : M1 5 it 2 = c := by rw [f1, qU_k (by decide)]; exact hc
  rw [e1]
  refine ⟨hb, fun M2 f2 => ?_⟩
  have e2 : M2 5 it 2 = c := by rw [f2, qU_k (by decide)]; exact e1
  rw [e2]
  refine ⟨hb, fun M3 f3 => ?_⟩
  have e3 : M3 5 it 2 = c := by rw [f3, qU_k (by decide)]; exact e2
  rw [e3]
  refine ⟨⟨by omega, by omega⟩, fun M4 f4 => H M4 (fun kk m s q q2 => by rw [f4, f3, f2, f1]; unfold qU; rw [if_neg (by omega), if_neg (by omega), if_neg (by omega), if_neg (by omega)]) (by rw [f4, qU_s]) (by rw [f4, qU_k (by decide), f3, qU_k (by decide), f2, qU_k (by decide), f1, qU_s]) (by rw [f4, qU_k (by decide), f3, qU_k (by decide), f2, qU_s]) (by rw [f4, qU_k (by decide), f3, qU_s])⟩
