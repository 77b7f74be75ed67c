/-! ===== the model's comparing ===== -/
def u_mrow (B : pT) (R : c_R) (M : qM) (c s s' : Int) : Prop := (M 88 0 s = M 121 0 s' ∧ M 90 0 s = M 122 0 s' ∧ M 91 0 s = M 123 0 s') ∧ M 68 0 (10 * c + M 88 0 s) = M 120 0 (10 * c + M 88 0 s) ∧ ∀ w, M 90 0 s ≤ w → w < M 91 0 s → c_told B R (200 * c + 20 * M 88 0 s + w) = M 124 0 (200 * c + 20 * M 88 0 s + w)
def u_mfl (M : qM) (s s' : Int) : Prop := M 95 0 s = M 125 0 s' ∧ M 68 0 (M 95 0 s / 20) = M 120 0 (M 95 0 s / 20)
def u_mln (M : qM) (s s' : Int) : Prop := (M 97 0 s = M 126 0 s' ∧ M 98 0 s = M 127 0 s') ∧ M 68 0 (M 97 0 s / 20) = M 120 0 (M 97 0 s / 20)
