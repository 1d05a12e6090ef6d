theorem pure_law (L : Nat) (xs : Nat → Int32) (hL : L ≤ 3072) : ∃ M2, f_L_law_18 L xs FU 1 150 0 M0 = some (1, M2) :=
  law_go hL FU 0 M0 w00 okw_00 ci_00 mi_00 (by omega) (by unfold FU; omega)
