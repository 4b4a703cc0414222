theorem go_m0 {rs L ta p n : Nat} (h : (if rs = 0 then L - ta + 1 else 0) < n + 1) (hr : rs = 0) (hl : ta < L) (hg : ta < p) : (if (0 : Nat) = 0 then L - p + 1 else 0) < n := by
  rw [if_pos hr] at h; rw [if_pos rfl]; omega
theorem go_m1 {rs L ta n r2 z : Nat} (h : (if rs = 0 then L - ta + 1 else 0) < n + 1) (hr : rs = 0) (hl : ta < L) (hg : ¬ r2 = 0) : (if r2 = 0 then z else 0) < n := by
  rw [if_pos hr] at h; rw [if_neg hg]; omega
