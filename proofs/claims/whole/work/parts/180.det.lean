/-! neighbours: the class's basis has determinant P times P times P, or less that -/
theorem ofc_det {u v : Nat} (hu : u < 3) (hv : v < 3) (huv : u ≠ v) (p x y z : Int) : qf_det (scT p (ofc u v (3 - u - v) x 1 y, ofc u v (3 - u - v) z 0 1, ofc u v (3 - u - v) p 0 0)) = p * p * p ∨ qf_det (scT p (ofc u v (3 - u - v) x 1 y, ofc u v (3 - u - v) z 0 1, ofc u v (3 - u - v) p 0 0)) = -(p * p * p) := by
  have h1 : u = 0 ∨ u = 1 ∨ u = 2 := by omega
  have h2 : v = 0 ∨ v = 1 ∨ v = 2 := by omega
  rcases h1 with e | e | e <;> subst e <;> rcases h2 with e | e | e <;> subst e
  all_goals first
    | exact absurd rfl huv
    | (left; simp [scT, ofc, qf_sc, qf_det]; done)
    | (right; simp [scT, ofc, qf_sc, qf_det]; done)
    | (left; simp [scT, ofc, qf_sc, qf_det]; grind)
    | (right; simp [scT, ofc, qf_sc, qf_det]; grind)
theorem nbC_det {p u v : Nat} (hu : u < 3) (hv : v < 3) (huv : u ≠ v) (rho w : V3) : qf_det (scT p (nbC p u v rho w)) = (p : Int) * p * p ∨ qf_det (scT p (nbC p u v rho w)) = -((p : Int) * p * p) := by
  unfold nbC
  exact ofc_det hu hv huv _ _ _ _
