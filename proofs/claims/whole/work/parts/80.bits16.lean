/-! ===== bit counts up to 16 bits ===== -/
def bChk : Nat → Nat → Bool
  | 0, _ => true
  | k + 1, x => (Nat.beq (bcN x) (pop 16 x)) && bChk k (x + 1)
theorem bChk_ok : ∀ k a, bChk k a = true → ∀ x, a ≤ x → x < a + k → bcN x = pop 16 x
  | 0, a, _, x, h1, h2 => by omega
  | k + 1, a, h, x, h1, h2 => by
    unfold bChk at h
    rw [Bool.and_eq_true] at h
    by_cases e : x = a
    · subst e; exact Nat.eq_of_beq_eq_true h.1
    · exact bChk_ok k (a + 1) h.2 x (by omega) (by omega)
theorem bChk_0 : bChk 1024 0 = true := by decide +kernel
theorem bChk_1 : bChk 1024 1024 = true := by decide +kernel
theorem bChk_2 : bChk 1024 2048 = true := by decide +kernel
theorem bChk_3 : bChk 1024 3072 = true := by decide +kernel
theorem bChk_4 : bChk 1024 4096 = true := by decide +kernel
theorem bChk_5 : bChk 1024 5120 = true := by decide +kernel
theorem bChk_6 : bChk 1024 6144 = true := by decide +kernel
theorem bChk_7 : bChk 1024 7168 = true := by decide +kernel
theorem bChk_8 : bChk 1024 8192 = true := by decide +kernel
theorem bChk_9 : bChk 1024 9216 = true := by decide +kernel
theorem bChk_10 : bChk 1024 10240 = true := by decide +kernel
theorem bChk_11 : bChk 1024 11264 = true := by decide +kernel
theorem bChk_12 : bChk 1024 12288 = true := by decide +kernel
theorem bChk_13 : bChk 1024 13312 = true := by decide +kernel
theorem bChk_14 : bChk 1024 14336 = true := by decide +kernel
theorem bChk_15 : bChk 1024 15360 = true := by decide +kernel
theorem bChk_16 : bChk 1024 16384 = true := by decide +kernel
theorem bChk_17 : bChk 1024 17408 = true := by decide +kernel
theorem bChk_18 : bChk 1024 18432 = true := by decide +kernel
theorem bChk_19 : bChk 1024 19456 = true := by decide +kernel
theorem bChk_20 : bChk 1024 20480 = true := by decide +kernel
theorem bChk_21 : bChk 1024 21504 = true := by decide +kernel
theorem bChk_22 : bChk 1024 22528 = true := by decide +kernel
theorem bChk_23 : bChk 1024 23552 = true := by decide +kernel
theorem bChk_24 : bChk 1024 24576 = true := by decide +kernel
theorem bChk_25 : bChk 1024 25600 = true := by decide +kernel
theorem bChk_26 : bChk 1024 26624 = true := by decide +kernel
theorem bChk_27 : bChk 1024 27648 = true := by decide +kernel
theorem bChk_28 : bChk 1024 28672 = true := by decide +kernel
theorem bChk_29 : bChk 1024 29696 = true := by decide +kernel
theorem bChk_30 : bChk 1024 30720 = true := by decide +kernel
theorem bChk_31 : bChk 1024 31744 = true := by decide +kernel
theorem bChk_32 : bChk 1024 32768 = true := by decide +kernel
theorem bChk_33 : bChk 1024 33792 = true := by decide +kernel
theorem bChk_34 : bChk 1024 34816 = true := by decide +kernel
theorem bChk_35 : bChk 1024 35840 = true := by decide +kernel
theorem bChk_36 : bChk 1024 36864 = true := by decide +kernel
theorem bChk_37 : bChk 1024 37888 = true := by decide +kernel
theorem bChk_38 : bChk 1024 38912 = true := by decide +kernel
theorem bChk_39 : bChk 1024 39936 = true := by decide +kernel
theorem bChk_40 : bChk 1024 40960 = true := by decide +kernel
theorem bChk_41 : bChk 1024 41984 = true := by decide +kernel
theorem bChk_42 : bChk 1024 43008 = true := by decide +kernel
theorem bChk_43 : bChk 1024 44032 = true := by decide +kernel
theorem bChk_44 : bChk 1024 45056 = true := by decide +kernel
theorem bChk_45 : bChk 1024 46080 = true := by decide +kernel
theorem bChk_46 : bChk 1024 47104 = true := by decide +kernel
theorem bChk_47 : bChk 1024 48128 = true := by decide +kernel
theorem bChk_48 : bChk 1024 49152 = true := by decide +kernel
theorem bChk_49 : bChk 1024 50176 = true := by decide +kernel
theorem bChk_50 : bChk 1024 51200 = true := by decide +kernel
theorem bChk_51 : bChk 1024 52224 = true := by decide +kernel
theorem bChk_52 : bChk 1024 53248 = true := by decide +kernel
theorem bChk_53 : bChk 1024 54272 = true := by decide +kernel
theorem bChk_54 : bChk 1024 55296 = true := by decide +kernel
theorem bChk_55 : bChk 1024 56320 = true := by decide +kernel
theorem bChk_56 : bChk 1024 57344 = true := by decide +kernel
theorem bChk_57 : bChk 1024 58368 = true := by decide +kernel
theorem bChk_58 : bChk 1024 59392 = true := by decide +kernel
theorem bChk_59 : bChk 1024 60416 = true := by decide +kernel
theorem bChk_60 : bChk 1024 61440 = true := by decide +kernel
theorem bChk_61 : bChk 1024 62464 = true := by decide +kernel
theorem bChk_62 : bChk 1024 63488 = true := by decide +kernel
theorem bChk_63 : bChk 1024 64512 = true := by decide +kernel
theorem bc16 {x : Nat} (h : x < 65536) : bcN x = pop 16 x := by
  by_cases g0 : x < 1024
  · exact bChk_ok 1024 0 bChk_0 x (by omega) (by omega)
  by_cases g1 : x < 2048
  · exact bChk_ok 1024 1024 bChk_1 x (by omega) (by omega)
  by_cases g2 : x < 3072
  · exact bChk_ok 1024 2048 bChk_2 x (by omega) (by omega)
  by_cases g3 : x < 4096
  · exact bChk_ok 1024 3072 bChk_3 x (by omega) (by omega)
  by_cases g4 : x < 5120
  · exact bChk_ok 1024 4096 bChk_4 x (by omega) (by omega)
  by_cases g5 : x < 6144
  · exact bChk_ok 1024 5120 bChk_5 x (by omega) (by omega)
  by_cases g6 : x < 7168
  · exact bChk_ok 1024 6144 bChk_6 x (by omega) (by omega)
  by_cases g7 : x < 8192
  · exact bChk_ok 1024 7168 bChk_7 x (by omega) (by omega)
  by_cases g8 : x < 9216
  · exact bChk_ok 1024 8192 bChk_8 x (by omega) (by omega)
  by_cases g9 : x < 10240
  · exact bChk_ok 1024 9216 bChk_9 x (by omega) (by omega)
  by_cases g10 : x < 11264
  · exact bChk_ok 1024 10240 bChk_10 x (by omega) (by omega)
  by_cases g11 : x < 12288
  · exact bChk_ok 1024 11264 bChk_11 x (by omega) (by omega)
  by_cases g12 : x < 13312
  · exact bChk_ok 1024 12288 bChk_12 x (by omega) (by omega)
  by_cases g13 : x < 14336
  · exact bChk_ok 1024 13312 bChk_13 x (by omega) (by omega)
  by_cases g14 : x < 15360
  · exact bChk_ok 1024 14336 bChk_14 x (by omega) (by omega)
  by_cases g15 : x < 16384
  · exact bChk_ok 1024 15360 bChk_15 x (by omega) (by omega)
  by_cases g16 : x < 17408
  · exact bChk_ok 1024 16384 bChk_16 x (by omega) (by omega)
  by_cases g17 : x < 18432
  · exact bChk_ok 1024 17408 bChk_17 x (by omega) (by omega)
  by_cases g18 : x < 19456
  · exact bChk_ok 1024 18432 bChk_18 x (by omega) (by omega)
  by_cases g19 : x < 20480
  · exact bChk_ok 1024 19456 bChk_19 x (by omega) (by omega)
  by_cases g20 : x < 21504
  · exact bChk_ok 1024 20480 bChk_20 x (by omega) (by omega)
  by_cases g21 : x < 22528
  · exact bChk_ok 1024 21504 bChk_21 x (by omega) (by omega)
  by_cases g22 : x < 23552
  · exact bChk_ok 1024 22528 bChk_22 x (by omega) (by omega)
  by_cases g23 : x < 24576
  · exact bChk_ok 1024 23552 bChk_23 x (by omega) (by omega)
  by_cases g24 : x < 25600
  · exact bChk_ok 1024 24576 bChk_24 x (by omega) (by omega)
  by_cases g25 : x < 26624
  · exact bChk_ok 1024 25600 bChk_25 x (by omega) (by omega)
  by_cases g26 : x < 27648
  · exact bChk_ok 1024 26624 bChk_26 x (by omega) (by omega)
  by_cases g27 : x < 28672
  · exact bChk_ok 1024 27648 bChk_27 x (by omega) (by omega)
  by_cases g28 : x < 29696
  · exact bChk_ok 1024 28672 bChk_28 x (by omega) (by omega)
  by_cases g29 : x < 30720
  · exact bChk_ok 1024 29696 bChk_29 x (by omega) (by omega)
  by_cases g30 : x < 31744
  · exact bChk_ok 1024 30720 bChk_30 x (by omega) (by omega)
  by_cases g31 : x < 32768
  · exact bChk_ok 1024 31744 bChk_31 x (by omega) (by omega)
  by_cases g32 : x < 33792
  · exact bChk_ok 1024 32768 bChk_32 x (by omega) (by omega)
  by_cases g33 : x < 34816
  · exact bChk_ok 1024 33792 bChk_33 x (by omega) (by omega)
  by_cases g34 : x < 35840
  · exact bChk_ok 1024 34816 bChk_34 x (by omega) (by omega)
  by_cases g35 : x < 36864
  · exact bChk_ok 1024 35840 bChk_35 x (by omega) (by omega)
  by_cases g36 : x < 37888
  · exact bChk_ok 1024 36864 bChk_36 x (by omega) (by omega)
  by_cases g37 : x < 38912
  · exact bChk_ok 1024 37888 bChk_37 x (by omega) (by omega)
  by_cases g38 : x < 39936
  · exact bChk_ok 1024 38912 bChk_38 x (by omega) (by omega)
  by_cases g39 : x < 40960
  · exact bChk_ok 1024 39936 bChk_39 x (by omega) (by omega)
  by_cases g40 : x < 41984
  · exact bChk_ok 1024 40960 bChk_40 x (by omega) (by omega)
  by_cases g41 : x < 43008
  · exact bChk_ok 1024 41984 bChk_41 x (by omega) (by omega)
  by_cases g42 : x < 44032
  · exact bChk_ok 1024 43008 bChk_42 x (by omega) (by omega)
  by_cases g43 : x < 45056
  · exact bChk_ok 1024 44032 bChk_43 x (by omega) (by omega)
  by_cases g44 : x < 46080
  · exact bChk_ok 1024 45056 bChk_44 x (by omega) (by omega)
  by_cases g45 : x < 47104
  · exact bChk_ok 1024 46080 bChk_45 x (by omega) (by omega)
  by_cases g46 : x < 48128
  · exact bChk_ok 1024 47104 bChk_46 x (by omega) (by omega)
  by_cases g47 : x < 49152
  · exact bChk_ok 1024 48128 bChk_47 x (by omega) (by omega)
  by_cases g48 : x < 50176
  · exact bChk_ok 1024 49152 bChk_48 x (by omega) (by omega)
  by_cases g49 : x < 51200
  · exact bChk_ok 1024 50176 bChk_49 x (by omega) (by omega)
  by_cases g50 : x < 52224
  · exact bChk_ok 1024 51200 bChk_50 x (by omega) (by omega)
  by_cases g51 : x < 53248
  · exact bChk_ok 1024 52224 bChk_51 x (by omega) (by omega)
  by_cases g52 : x < 54272
  · exact bChk_ok 1024 53248 bChk_52 x (by omega) (by omega)
  by_cases g53 : x < 55296
  · exact bChk_ok 1024 54272 bChk_53 x (by omega) (by omega)
  by_cases g54 : x < 56320
  · exact bChk_ok 1024 55296 bChk_54 x (by omega) (by omega)
  by_cases g55 : x < 57344
  · exact bChk_ok 1024 56320 bChk_55 x (by omega) (by omega)
  by_cases g56 : x < 58368
  · exact bChk_ok 1024 57344 bChk_56 x (by omega) (by omega)
  by_cases g57 : x < 59392
  · exact bChk_ok 1024 58368 bChk_57 x (by omega) (by omega)
  by_cases g58 : x < 60416
  · exact bChk_ok 1024 59392 bChk_58 x (by omega) (by omega)
  by_cases g59 : x < 61440
  · exact bChk_ok 1024 60416 bChk_59 x (by omega) (by omega)
  by_cases g60 : x < 62464
  · exact bChk_ok 1024 61440 bChk_60 x (by omega) (by omega)
  by_cases g61 : x < 63488
  · exact bChk_ok 1024 62464 bChk_61 x (by omega) (by omega)
  by_cases g62 : x < 64512
  · exact bChk_ok 1024 63488 bChk_62 x (by omega) (by omega)
  exact bChk_ok 1024 64512 bChk_63 x (by omega) (by omega)
