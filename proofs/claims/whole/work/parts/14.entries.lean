theorem mj_ec0 : ∀ (i : Nat) (X : mj_X), mj_mt0[i]? = some X → mj_QC (0 + i) X := fun i X h => match i, h with
  | 0, h => by cases h; exact mj_e0
  | 1, h => by cases h; exact mj_e1
  | 2, h => by cases h; exact mj_e2
  | 3, h => by cases h; exact mj_e3
  | 4, h => by cases h; exact mj_e4
  | 5, h => by cases h; exact mj_e5
  | 6, h => by cases h; exact mj_e6
  | 7, h => by cases h; exact mj_e7
  | 8, h => by cases h; exact mj_e8
  | 9, h => by cases h; exact mj_e9
  | 10, h => by cases h; exact mj_e10
  | 11, h => by cases h; exact mj_e11
  | i + 12, h => by simp [mj_mt0] at h
theorem mj_ec1 : ∀ (i : Nat) (X : mj_X), mj_mt1[i]? = some X → mj_QC (12 + i) X := fun i X h => match i, h with
  | 0, h => by cases h; exact mj_e12
  | 1, h => by cases h; exact mj_e13
  | 2, h => by cases h; exact mj_e14
  | 3, h => by cases h; exact mj_e15
  | 4, h => by cases h; exact mj_e16
  | 5, h => by cases h; exact mj_e17
  | 6, h => by cases h; exact mj_e18
  | 7, h => by cases h; exact mj_e19
  | 8, h => by cases h; exact mj_e20
  | 9, h => by cases h; exact mj_e21
  | 10, h => by cases h; exact mj_e22
  | 11, h => by cases h; exact mj_e23
  | i + 12, h => by simp [mj_mt1] at h
theorem mj_ec2 : ∀ (i : Nat) (X : mj_X), mj_mt2[i]? = some X → mj_QC (24 + i) X := fun i X h => match i, h with
  | 0, h => by cases h; exact mj_e24
  | 1, h => by cases h; exact mj_e25
  | 2, h => by cases h; exact mj_e26
  | 3, h => by cases h; exact mj_e27
  | 4, h => by cases h; exact mj_e28
  | 5, h => by cases h; exact mj_e29
  | 6, h => by cases h; exact mj_e30
  | 7, h => by cases h; exact mj_e31
  | 8, h => by cases h; exact mj_e32
  | 9, h => by cases h; exact mj_e33
  | 10, h => by cases h; exact mj_e34
  | 11, h => by cases h; exact mj_e35
  | i + 12, h => by simp [mj_mt2] at h
theorem mj_ec3 : ∀ (i : Nat) (X : mj_X), mj_mt3[i]? = some X → mj_QC (36 + i) X := fun i X h => match i, h with
  | 0, h => by cases h; exact mj_e36
  | 1, h => by cases h; exact mj_e37
  | 2, h => by cases h; exact mj_e38
  | 3, h => by cases h; exact mj_e39
  | 4, h => by cases h; exact mj_e40
  | 5, h => by cases h; exact mj_e41
  | 6, h => by cases h; exact mj_e42
  | 7, h => by cases h; exact mj_e43
  | 8, h => by cases h; exact mj_e44
  | 9, h => by cases h; exact mj_e45
  | 10, h => by cases h; exact mj_e46
  | 11, h => by cases h; exact mj_e47
  | i + 12, h => by simp [mj_mt3] at h
theorem mj_ec4 : ∀ (i : Nat) (X : mj_X), mj_mt4[i]? = some X → mj_QC (48 + i) X := fun i X h => match i, h with
  | 0, h => by cases h; exact mj_e48
  | 1, h => by cases h; exact mj_e49
  | 2, h => by cases h; exact mj_e50
  | 3, h => by cases h; exact mj_e51
  | 4, h => by cases h; exact mj_e52
  | 5, h => by cases h; exact mj_e53
  | 6, h => by cases h; exact mj_e54
  | 7, h => by cases h; exact mj_e55
  | 8, h => by cases h; exact mj_e56
  | 9, h => by cases h; exact mj_e57
  | 10, h => by cases h; exact mj_e58
  | 11, h => by cases h; exact mj_e59
  | i + 12, h => by simp [mj_mt4] at h
theorem mj_ec5 : ∀ (i : Nat) (X : mj_X), mj_mt5[i]? = some X → mj_QC (60 + i) X := fun i X h => match i, h with
  | 0, h => by cases h; exact mj_e60
  | 1, h => by cases h; exact mj_e61
  | 2, h => by cases h; exact mj_e62
  | 3, h => by cases h; exact mj_e63
  | 4, h => by cases h; exact mj_e64
  | 5, h => by cases h; exact mj_e65
  | 6, h => by cases h; exact mj_e66
  | 7, h => by cases h; exact mj_e67
  | 8, h => by cases h; exact mj_e68
  | 9, h => by cases h; exact mj_e69
  | 10, h => by cases h; exact mj_e70
  | 11, h => by cases h; exact mj_e71
  | i + 12, h => by simp [mj_mt5] at h
theorem mj_ec6 : ∀ (i : Nat) (X : mj_X), mj_mt6[i]? = some X → mj_QC (72 + i) X := fun i X h => match i, h with
  | 0, h => by cases h; exact mj_e72
  | 1, h => by cases h; exact mj_e73
  | 2, h => by cases h; exact mj_e74
  | 3, h => by cases h; exact mj_e75
  | 4, h => by cases h; exact mj_e76
  | 5, h => by cases h; exact mj_e77
  | 6, h => by cases h; exact mj_e78
  | 7, h => by cases h; exact mj_e79
  | 8, h => by cases h; exact mj_e80
  | 9, h => by cases h; exact mj_e81
  | 10, h => by cases h; exact mj_e82
  | 11, h => by cases h; exact mj_e83
  | i + 12, h => by simp [mj_mt6] at h
theorem mj_ec7 : ∀ (i : Nat) (X : mj_X), mj_mt7[i]? = some X → mj_QC (84 + i) X := fun i X h => match i, h with
  | 0, h => by cases h; exact mj_e84
  | 1, h => by cases h; exact mj_e85
  | 2, h => by cases h; exact mj_e86
  | 3, h => by cases h; exact mj_e87
  | 4, h => by cases h; exact mj_e88
  | 5, h => by cases h; exact mj_e89
  | 6, h => by cases h; exact mj_e90
  | 7, h => by cases h; exact mj_e91
  | 8, h => by cases h; exact mj_e92
  | 9, h => by cases h; exact mj_e93
  | 10, h => by cases h; exact mj_e94
  | 11, h => by cases h; exact mj_e95
  | i + 12, h => by simp [mj_mt7] at h
theorem mj_ec8 : ∀ (i : Nat) (X : mj_X), mj_mt8[i]? = some X → mj_QC (96 + i) X := fun i X h => match i, h with
  | 0, h => by cases h; exact mj_e96
  | 1, h => by cases h; exact mj_e97
  | 2, h => by cases h; exact mj_e98
  | 3, h => by cases h; exact mj_e99
  | 4, h => by cases h; exact mj_e100
  | 5, h => by cases h; exact mj_e101
  | 6, h => by cases h; exact mj_e102
  | 7, h => by cases h; exact mj_e103
  | 8, h => by cases h; exact mj_e104
  | 9, h => by cases h; exact mj_e105
  | 10, h => by cases h; exact mj_e106
  | 11, h => by cases h; exact mj_e107
  | i + 12, h => by simp [mj_mt8] at h
theorem mj_ec9 : ∀ (i : Nat) (X : mj_X), mj_mt9[i]? = some X → mj_QC (108 + i) X := fun i X h => match i, h with
  | 0, h => by cases h; exact mj_e108
  | 1, h => by cases h; exact mj_e109
  | 2, h => by cases h; exact mj_e110
  | 3, h => by cases h; exact mj_e111
  | 4, h => by cases h; exact mj_e112
  | 5, h => by cases h; exact mj_e113
  | 6, h => by cases h; exact mj_e114
  | 7, h => by cases h; exact mj_e115
  | 8, h => by cases h; exact mj_e116
  | 9, h => by cases h; exact mj_e117
  | 10, h => by cases h; exact mj_e118
  | 11, h => by cases h; exact mj_e119
  | i + 12, h => by simp [mj_mt9] at h
theorem mj_ec10 : ∀ (i : Nat) (X : mj_X), mj_mt10[i]? = some X → mj_QC (120 + i) X := fun i X h => match i, h with
  | 0, h => by cases h; exact mj_e120
  | 1, h => by cases h; exact mj_e121
  | 2, h => by cases h; exact mj_e122
  | 3, h => by cases h; exact mj_e123
  | 4, h => by cases h; exact mj_e124
  | 5, h => by cases h; exact mj_e125
  | 6, h => by cases h; exact mj_e126
  | 7, h => by cases h; exact mj_e127
  | 8, h => by cases h; exact mj_e128
  | 9, h => by cases h; exact mj_e129
  | 10, h => by cases h; exact mj_e130
  | 11, h => by cases h; exact mj_e131
  | i + 12, h => by simp [mj_mt10] at h
theorem mj_ec11 : ∀ (i : Nat) (X : mj_X), mj_mt11[i]? = some X → mj_QC (132 + i) X := fun i X h => match i, h with
  | 0, h => by cases h; exact mj_e132
  | 1, h => by cases h; exact mj_e133
  | 2, h => by cases h; exact mj_e134
  | 3, h => by cases h; exact mj_e135
  | 4, h => by cases h; exact mj_e136
  | 5, h => by cases h; exact mj_e137
  | 6, h => by cases h; exact mj_e138
  | 7, h => by cases h; exact mj_e139
  | 8, h => by cases h; exact mj_e140
  | 9, h => by cases h; exact mj_e141
  | 10, h => by cases h; exact mj_e142
  | 11, h => by cases h; exact mj_e143
  | i + 12, h => by simp [mj_mt11] at h
theorem mj_ec12 : ∀ (i : Nat) (X : mj_X), mj_mt12[i]? = some X → mj_QC (144 + i) X := fun i X h => match i, h with
  | 0, h => by cases h; exact mj_e144
  | 1, h => by cases h; exact mj_e145
  | 2, h => by cases h; exact mj_e146
  | 3, h => by cases h; exact mj_e147
  | 4, h => by cases h; exact mj_e148
  | 5, h => by cases h; exact mj_e149
  | 6, h => by cases h; exact mj_e150
  | 7, h => by cases h; exact mj_e151
  | 8, h => by cases h; exact mj_e152
  | 9, h => by cases h; exact mj_e153
  | 10, h => by cases h; exact mj_e154
  | 11, h => by cases h; exact mj_e155
  | i + 12, h => by simp [mj_mt12] at h
theorem mj_ec13 : ∀ (i : Nat) (X : mj_X), mj_mt13[i]? = some X → mj_QC (156 + i) X := fun i X h => match i, h with
  | 0, h => by cases h; exact mj_e156
  | 1, h => by cases h; exact mj_e157
  | 2, h => by cases h; exact mj_e158
  | 3, h => by cases h; exact mj_e159
  | 4, h => by cases h; exact mj_e160
  | 5, h => by cases h; exact mj_e161
  | 6, h => by cases h; exact mj_e162
  | 7, h => by cases h; exact mj_e163
  | 8, h => by cases h; exact mj_e164
  | 9, h => by cases h; exact mj_e165
  | 10, h => by cases h; exact mj_e166
  | 11, h => by cases h; exact mj_e167
  | i + 12, h => by simp [mj_mt13] at h
theorem mj_ec14 : ∀ (i : Nat) (X : mj_X), mj_mt14[i]? = some X → mj_QC (168 + i) X := fun i X h => match i, h with
  | 0, h => by cases h; exact mj_e168
  | 1, h => by cases h; exact mj_e169
  | 2, h => by cases h; exact mj_e170
  | 3, h => by cases h; exact mj_e171
  | 4, h => by cases h; exact mj_e172
  | 5, h => by cases h; exact mj_e173
  | 6, h => by cases h; exact mj_e174
  | 7, h => by cases h; exact mj_e175
  | 8, h => by cases h; exact mj_e176
  | 9, h => by cases h; exact mj_e177
  | 10, h => by cases h; exact mj_e178
  | 11, h => by cases h; exact mj_e179
  | i + 12, h => by simp [mj_mt14] at h
theorem mj_ec15 : ∀ (i : Nat) (X : mj_X), mj_mt15[i]? = some X → mj_QC (180 + i) X := fun i X h => match i, h with
  | 0, h => by cases h; exact mj_e180
  | 1, h => by cases h; exact mj_e181
  | 2, h => by cases h; exact mj_e182
  | 3, h => by cases h; exact mj_e183
  | 4, h => by cases h; exact mj_e184
  | 5, h => by cases h; exact mj_e185
  | 6, h => by cases h; exact mj_e186
  | 7, h => by cases h; exact mj_e187
  | 8, h => by cases h; exact mj_e188
  | 9, h => by cases h; exact mj_e189
  | 10, h => by cases h; exact mj_e190
  | 11, h => by cases h; exact mj_e191
  | i + 12, h => by simp [mj_mt15] at h
theorem mj_ec16 : ∀ (i : Nat) (X : mj_X), mj_mt16[i]? = some X → mj_QC (192 + i) X := fun i X h => match i, h with
  | 0, h => by cases h; exact mj_e192
  | 1, h => by cases h; exact mj_e193
  | 2, h => by cases h; exact mj_e194
  | 3, h => by cases h; exact mj_e195
  | 4, h => by cases h; exact mj_e196
  | 5, h => by cases h; exact mj_e197
  | 6, h => by cases h; exact mj_e198
  | 7, h => by cases h; exact mj_e199
  | 8, h => by cases h; exact mj_e200
  | 9, h => by cases h; exact mj_e201
  | 10, h => by cases h; exact mj_e202
  | 11, h => by cases h; exact mj_e203
  | i + 12, h => by simp [mj_mt16] at h
theorem mj_QCall : ∀ (k : Nat) (X : mj_X), mj_mt k = some X → mj_QC k X := by
  intro k X h
  unfold mj_mt at h
  have hk : k = 12 * (k / 12) + k % 12 := (Nat.div_add_mod k 12).symm
  generalize k / 12 = j at h hk
  generalize k % 12 = i at h hk
  subst hk
  match j, h with
  | 0, h => exact mj_ec0 i X h
  | 1, h => exact mj_ec1 i X h
  | 2, h => exact mj_ec2 i X h
  | 3, h => exact mj_ec3 i X h
  | 4, h => exact mj_ec4 i X h
  | 5, h => exact mj_ec5 i X h
  | 6, h => exact mj_ec6 i X h
  | 7, h => exact mj_ec7 i X h
  | 8, h => exact mj_ec8 i X h
  | 9, h => exact mj_ec9 i X h
  | 10, h => exact mj_ec10 i X h
  | 11, h => exact mj_ec11 i X h
  | 12, h => exact mj_ec12 i X h
  | 13, h => exact mj_ec13 i X h
  | 14, h => exact mj_ec14 i X h
  | 15, h => exact mj_ec15 i X h
  | 16, h => exact mj_ec16 i X h
  | j + 17, h => simp [mj_mts] at h
theorem mj_ok_at {k pc : Nat} {e : mj_E} {X : mj_X} (hX : mj_mt k = some X) (h : mj_at k pc = some e) : mj_ok X pc e = true := by
  have hc := mj_QCall k X hX
  unfold mj_at at h
  cases hf : ((mj_code k).getD (pc / 64) []).find? (fun q => Nat.beq q.1 pc) with
  | none => rw [hf] at h; cases h
  | some q =>
    rw [hf] at h
    cases h
    have h1 : Nat.beq q.1 pc = true := List.find?_some (p := fun q : Nat × mj_E => Nat.beq q.1 pc) hf
    have h2 := List.mem_of_find?_eq_some hf
    have h3 : q.1 = pc := Nat.eq_of_beq_eq_true h1
    rw [List.getD_eq_getElem?_getD] at h2
    cases hg : (mj_code k)[pc / 64]? with
    | none => rw [hg] at h2; cases h2
    | some ch =>
      rw [hg] at h2
      have h4 := List.all_eq_true.mp hc ch (List.mem_of_getElem? hg)
      have h5 := List.all_eq_true.mp h4 q h2
      rw [h3] at h5
      exact h5
