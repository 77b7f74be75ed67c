/-! ===== what stands between two calls ===== -/
/-- places that no answer stands on -/
def c_scb (k : Nat) (s : Int) : Bool := Nat.beq k 138 || (Nat.beq k 7 || (Nat.ble 99 k && Nat.ble k 104)) || (Nat.beq k 117 || Nat.beq k 136 || Nat.beq k 137) || (Nat.beq k 11 && (decide (s = 0) || decide (51 ≤ s ∧ s ≤ 57) || decide (95 ≤ s)))
def c_scr (k : Nat) (s : Int) : Prop := k = 138 ∨ k = 7 ∨ (99 ≤ k ∧ k ≤ 104) ∨ k = 117 ∨ k = 136 ∨ k = 137 ∨ (k = 11 ∧ (s = 0 ∨ (51 ≤ s ∧ s ≤ 57) ∨ 95 ≤ s))
theorem c_scb_of {k : Nat} {s : Int} (h : c_scr k s) : c_scb k s = true := by
  unfold c_scb
  rcases h with h | h | h | h | h | h | h
  · subst h; rfl
  · subst h; rfl
  · have a : Nat.ble 99 k = true := Nat.ble_eq_true_of_le h.1
    have b : Nat.ble k 104 = true := Nat.ble_eq_true_of_le h.2
    simp [a, b]
  · subst h; rfl
  · subst h; rfl
  · subst h; rfl
  · obtain ⟨h1, h2⟩ := h
    subst h1
    have : (decide (s = 0) || decide (51 ≤ s ∧ s ≤ 57) || decide (95 ≤ s)) = true := by
      rcases h2 with h2 | h2 | h2 <;> simp [h2]
    rw [this]; rfl
def c_X (M : qM) : qM := fun k m s => bif c_scb k s then 0 else M k m s
def c_fr (M M' : qM) : Prop := ∀ (k : Nat) (m s : Int), ¬ c_scr k s → M' k m s = M k m s
theorem c_fr_X {M M' : qM} (h : c_fr M M') : c_X M' = c_X M := by
  funext k m s
  unfold c_X
  by_cases q : c_scr k s
  · rw [c_scb_of q]; rfl
  · rw [h k m s q]
theorem c_fr_t {M M1 M2 : qM} (h : c_fr M M1) (h' : c_fr M1 M2) : c_fr M M2 := fun k m s q => by rw [h' k m s q, h k m s q]
theorem c_X_k {M : qM} {k : Nat} {m s : Int} (h1 : k < 138) (h2 : 118 ≤ k) (h3 : k < 136) : c_X M k m s = M k m s := by
  unfold c_X
  have e : c_scb k s = false := by
    unfold c_scb
    have a1 : Nat.beq k 138 = false := by cases e : Nat.beq k 138 with | false => rfl | true => have := Nat.eq_of_beq_eq_true e; omega
    have a2 : Nat.beq k 7 = false := by cases e : Nat.beq k 7 with | false => rfl | true => have := Nat.eq_of_beq_eq_true e; omega
    have a3 : Nat.ble k 104 = false := by cases e : Nat.ble k 104 with | false => rfl | true => have := Nat.le_of_ble_eq_true e; omega
    have a4 : Nat.beq k 117 = false := by cases e : Nat.beq k 117 with | false => rfl | true => have := Nat.eq_of_beq_eq_true e; omega
    have a5 : Nat.beq k 136 = false := by cases e : Nat.beq k 136 with | false => rfl | true => have := Nat.eq_of_beq_eq_true e; omega
    have a6 : Nat.beq k 137 = false := by cases e : Nat.beq k 137 with | false => rfl | true => have := Nat.eq_of_beq_eq_true e; omega
    have a7 : Nat.beq k 11 = false := by cases e : Nat.beq k 11 with | false => rfl | true => have := Nat.eq_of_beq_eq_true e; omega
    rw [a1, a2, a3, a4, a5, a6, a7]
    simp
  rw [e]; rfl
def c_word (w k v : Int) : Prop := (0 ≤ w ∧ w ≤ 8) ∧ (0 ≤ k ∧ k ≤ 6) ∧ (0 ≤ v ∧ v ≤ 9) ∧ (k = 3 → 2 ≤ v ∧ v ≤ 5) ∧ (k = 2 → 1 ≤ v ∧ v ≤ 4) ∧ (k = 5 → 1 ≤ v ∧ v ≤ 3)
def c_dr (M : qM) : Prop := (0 ≤ M 5 0 2 ∧ M 5 0 2 ≤ 20) ∧ M 11 0 12 = M 5 0 2 ∧ ∀ w, 0 ≤ w → w < M 5 0 2 → M 72 0 w = M 32 0 w ∧ M 73 0 w = M 33 0 w ∧ M 74 0 w = M 34 0 w ∧ c_word (M 32 0 w) (M 33 0 w) (M 34 0 w)
def c_al (M : qM) : Prop := ∀ t, 0 ≤ t → t < 10 → M 63 0 t = M 75 0 t ∧ -1 ≤ M 75 0 t ∧ M 75 0 t ≤ 9
def c_ms (B : pT) (M : qM) : Prop := M 10 0 10 = B 8 0 ∧ M 10 0 11 = B 8 1 ∧ M 10 0 12 = B 8 2
def c_lm (M : qM) : Prop := ((∀ it i, 0 ≤ M 32 it i ∧ M 32 it i ≤ 8) ∧ ∀ it, 0 ≤ M 5 it 2 ∧ M 5 it 2 ≤ 20) ∧ (∀ x, 0 ≤ M 67 0 x ∧ M 67 0 x ≤ 20) ∧ ∀ i, 0 ≤ M 69 0 i ∧ M 69 0 i ≤ 8
/-- both sides broke by the same -/
def c_agr (B : pT) (M : qM) : Prop := ∀ x, 0 ≤ x → x < 30 → x % 10 < B 0 (x / 10) → B 1 x = 0 → M 5 (1 + x) 8 = M 79 0 x ∧ (M 79 0 x ≠ 0 → ∀ j, 0 ≤ j → j < B 3 x → M 36 (1 + x) j = M 80 0 (20 * x + j))
def c_ser (n : Int) (B : pT) (M : qM) : Prop := (0 ≤ M 10 0 14 ∧ M 10 0 14 ≤ n) ∧ (∀ x, 0 ≤ x → x < 30 → 0 ≤ B 7 x ∧ B 7 x ≤ M 10 0 14) ∧ ∀ x, 0 ≤ x → x < 30 → 0 ≤ M 68 0 x ∧ M 68 0 x ≤ n
def c_bs (B : pT) (M : qM) : Prop := (c_z 0 M ∧ c_z 1 M) ∧ c_bd M ∧ c_brk B M ∧ c_35 B M ∧ m_inv B M ∧ m_lim M ∧ c_agr B M
def c_pp (B Bo : pT) (Wo : Int → Int) (Ro : c_R) (Lo e' : Int) (N M : qM) : Prop := M 10 0 9 = e' + 1 ∧ (e' = 0 ∨ e' = 1) ∧ c_prt B Bo Wo Ro Lo e' N M ∧ ∀ x, 0 ≤ x → x < 30 → x % 10 < Bo 0 (x / 10) → M 120 0 x ≤ M 68 0 x ∧ Bo 7 x ≤ M 10 0 14
def c_pr (B : pT) (M : qM) : Prop := (M 10 0 9 = 0 ∧ M 11 0 73 = 0) ∨ ∃ Bo Wo Ro Lo e' N, c_pp B Bo Wo Ro Lo e' N M
def c_mdx (B : pT) (en : Int) (W : Int → Int) (R : c_R) (L : Int) (M : qM) : Prop := M 10 0 8 = en + 1 ∧ (0 ≤ L ∧ L ≤ 1000) ∧ (∃ ob B1 R1, c_out B W ob B1 R1 (c_p0 B) R) ∧ c_edn B R (c_tot B R L) en M ∧ c_now B W R L M ∧ m_now B W R L M ∧ M 2 0 9 = M 11 0 23 ∧ M 2 0 10 = M 11 0 21 ∧ (M 2 0 10 = 0 ∨ M 2 0 10 = 1)
def c_md (B : pT) (M : qM) : Prop := (M 10 0 13 = 0 ∧ M 11 0 22 = 0) ∨ (M 10 0 13 = 1 ∧ M 11 0 22 = 1 ∧ ∃ en W R L, c_mdx B en W R L M)
def c_ed (M : qM) : Prop := ∃ en, M 10 0 8 = en + 1 ∧ (en = 0 ∨ en = 1)
def c_rl (n : Int) (B : pT) (M : qM) : Prop := ((0 ≤ n ∧ n ≤ 512) ∧ c_ok B ∧ c_ok2 B) ∧ (c_bk B M ∧ m_bk B M ∧ c_ms B M) ∧ (c_dr M ∧ c_al M ∧ c_lm M ∧ c_ed M) ∧ c_ser n B M ∧ c_bs B M ∧ c_pr B M ∧ c_md B M
def c_Rel (n : Int) (M : qM) : Prop := ∃ B, c_rl n B M
/-! the scratch places do not matter -/
theorem x_1 {B : pT} {M : qM} : c_bk B (c_X M) = c_bk B M := rfl
theorem x_2 {B : pT} {M : qM} : m_bk B (c_X M) = m_bk B M := rfl
theorem x_3 {B : pT} {M : qM} : c_ms B (c_X M) = c_ms B M := rfl
theorem x_4 {M : qM} : c_dr (c_X M) = c_dr M := rfl
theorem x_5 {M : qM} : c_al (c_X M) = c_al M := rfl
theorem x_6 {M : qM} : c_lm (c_X M) = c_lm M := rfl
theorem x_7 {M : qM} : c_ed (c_X M) = c_ed M := rfl
theorem x_8 {n : Int} {B : pT} {M : qM} : c_ser n B (c_X M) = c_ser n B M := rfl
theorem x_9 {B : pT} {M : qM} : c_bs B (c_X M) = c_bs B M := rfl
theorem x_10 {B : pT} {R : c_R} {t e : Int} {M : qM} : c_edn B R t e (c_X M) = c_edn B R t e M := rfl
theorem x_11 {B : pT} {W : Int → Int} {R : c_R} {L : Int} {M : qM} : c_now B W R L (c_X M) = c_now B W R L M := rfl
theorem x_12 {B : pT} {W : Int → Int} {R : c_R} {L : Int} {M : qM} : m_now B W R L (c_X M) = m_now B W R L M := rfl
theorem x_13 {B : pT} {R : c_R} {t : Int} {N M : qM} : m_cpy B R t N (c_X M) = m_cpy B R t N M := propext ⟨fun ⟨a, b, c, d, e, f, g, i⟩ => ⟨a, b, c, d, e, f, g, fun j p h1 h2 h3 => by have := i j p h1 h2 h3; rw [c_X_k (by omega) (by omega) (by omega)] at this; exact this⟩, fun ⟨a, b, c, d, e, f, g, i⟩ => ⟨a, b, c, d, e, f, g, fun j p h1 h2 h3 => by have := i j p h1 h2 h3; rw [c_X_k (by omega) (by omega) (by omega)]; exact this⟩⟩
