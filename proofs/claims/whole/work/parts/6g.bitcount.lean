/-! ===== how many bits: the JDK's way ===== -/
theorem bc_0 : ∀ S : Nat, S < 1024 → e_J6_bitCount_0f7a4 (nI (0 + S)) = some (nI (pcl 14 (0 + S))) := by decide +kernel
theorem bc_1 : ∀ S : Nat, S < 1024 → e_J6_bitCount_0f7a4 (nI (1024 + S)) = some (nI (pcl 14 (1024 + S))) := by decide +kernel
theorem bc_2 : ∀ S : Nat, S < 1024 → e_J6_bitCount_0f7a4 (nI (2048 + S)) = some (nI (pcl 14 (2048 + S))) := by decide +kernel
theorem bc_3 : ∀ S : Nat, S < 1024 → e_J6_bitCount_0f7a4 (nI (3072 + S)) = some (nI (pcl 14 (3072 + S))) := by decide +kernel
theorem bc_4 : ∀ S : Nat, S < 1024 → e_J6_bitCount_0f7a4 (nI (4096 + S)) = some (nI (pcl 14 (4096 + S))) := by decide +kernel
theorem bc_5 : ∀ S : Nat, S < 1024 → e_J6_bitCount_0f7a4 (nI (5120 + S)) = some (nI (pcl 14 (5120 + S))) := by decide +kernel
theorem bc_6 : ∀ S : Nat, S < 1024 → e_J6_bitCount_0f7a4 (nI (6144 + S)) = some (nI (pcl 14 (6144 + S))) := by decide +kernel
theorem bc_7 : ∀ S : Nat, S < 1024 → e_J6_bitCount_0f7a4 (nI (7168 + S)) = some (nI (pcl 14 (7168 + S))) := by decide +kernel
theorem bc_8 : ∀ S : Nat, S < 1024 → e_J6_bitCount_0f7a4 (nI (8192 + S)) = some (nI (pcl 14 (8192 + S))) := by decide +kernel
theorem bc_9 : ∀ S : Nat, S < 1024 → e_J6_bitCount_0f7a4 (nI (9216 + S)) = some (nI (pcl 14 (9216 + S))) := by decide +kernel
theorem bc_10 : ∀ S : Nat, S < 1024 → e_J6_bitCount_0f7a4 (nI (10240 + S)) = some (nI (pcl 14 (10240 + S))) := by decide +kernel
theorem bc_11 : ∀ S : Nat, S < 1024 → e_J6_bitCount_0f7a4 (nI (11264 + S)) = some (nI (pcl 14 (11264 + S))) := by decide +kernel
theorem bc_12 : ∀ S : Nat, S < 1024 → e_J6_bitCount_0f7a4 (nI (12288 + S)) = some (nI (pcl 14 (12288 + S))) := by decide +kernel
theorem bc_13 : ∀ S : Nat, S < 1024 → e_J6_bitCount_0f7a4 (nI (13312 + S)) = some (nI (pcl 14 (13312 + S))) := by decide +kernel
theorem bc_14 : ∀ S : Nat, S < 1024 → e_J6_bitCount_0f7a4 (nI (14336 + S)) = some (nI (pcl 14 (14336 + S))) := by decide +kernel
theorem bc_15 : ∀ S : Nat, S < 1024 → e_J6_bitCount_0f7a4 (nI (15360 + S)) = some (nI (pcl 14 (15360 + S))) := by decide +kernel
theorem bc_eq {S : Nat} (h : S < 16384) : e_J6_bitCount_0f7a4 (nI S) = some (nI (pcl 14 S)) := by
  by_cases c0 : S < 1024
  · have := bc_0 (S - 0) (by omega)
    rw [show 0 + (S - 0) = S by omega] at this
    exact this
  by_cases c1 : S < 2048
  · have := bc_1 (S - 1024) (by omega)
    rw [show 1024 + (S - 1024) = S by omega] at this
    exact this
  by_cases c2 : S < 3072
  · have := bc_2 (S - 2048) (by omega)
    rw [show 2048 + (S - 2048) = S by omega] at this
    exact this
  by_cases c3 : S < 4096
  · have := bc_3 (S - 3072) (by omega)
    rw [show 3072 + (S - 3072) = S by omega] at this
    exact this
  by_cases c4 : S < 5120
  · have := bc_4 (S - 4096) (by omega)
    rw [show 4096 + (S - 4096) = S by omega] at this
    exact this
  by_cases c5 : S < 6144
  · have := bc_5 (S - 5120) (by omega)
    rw [show 5120 + (S - 5120) = S by omega] at this
    exact this
  by_cases c6 : S < 7168
  · have := bc_6 (S - 6144) (by omega)
    rw [show 6144 + (S - 6144) = S by omega] at this
    exact this
  by_cases c7 : S < 8192
  · have := bc_7 (S - 7168) (by omega)
    rw [show 7168 + (S - 7168) = S by omega] at this
    exact this
  by_cases c8 : S < 9216
  · have := bc_8 (S - 8192) (by omega)
    rw [show 8192 + (S - 8192) = S by omega] at this
    exact this
  by_cases c9 : S < 10240
  · have := bc_9 (S - 9216) (by omega)
    rw [show 9216 + (S - 9216) = S by omega] at this
    exact this
  by_cases c10 : S < 11264
  · have := bc_10 (S - 10240) (by omega)
    rw [show 10240 + (S - 10240) = S by omega] at this
    exact this
  by_cases c11 : S < 12288
  · have := bc_11 (S - 11264) (by omega)
    rw [show 11264 + (S - 11264) = S by omega] at this
    exact this
  by_cases c12 : S < 13312
  · have := bc_12 (S - 12288) (by omega)
    rw [show 12288 + (S - 12288) = S by omega] at this
    exact this
  by_cases c13 : S < 14336
  · have := bc_13 (S - 13312) (by omega)
    rw [show 13312 + (S - 13312) = S by omega] at this
    exact this
  by_cases c14 : S < 15360
  · have := bc_14 (S - 14336) (by omega)
    rw [show 14336 + (S - 14336) = S by omega] at this
    exact this
  have := bc_15 (S - 15360) (by omega)
  rw [show 15360 + (S - 15360) = S by omega] at this
  exact this
