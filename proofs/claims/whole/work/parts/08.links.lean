theorem in_X0 : ∀ w ∈ u_ws RX0 TX0 2, w ∈ pm_T := by
  intro w hw
  obtain ⟨k, hk, rfl⟩ := List.mem_map.mp hw
  have hk := List.mem_range.mp hk
  match k, hk with
  | 0, _ => exact w1_239
  | 1, _ => exact w2_1
  | k + 2, hk => exact absurd hk (by omega)
theorem in_X1 : ∀ w ∈ u_ws RX1 TX1 9, w ∈ pm_T := by
  intro w hw
  obtain ⟨k, hk, rfl⟩ := List.mem_map.mp hw
  have hk := List.mem_range.mp hk
  match k, hk with
  | 0, _ => exact w2_44
  | 1, _ => exact w2_46
  | 2, _ => exact w2_48
  | 3, _ => exact w2_50
  | 4, _ => exact w2_52
  | 5, _ => exact w2_54
  | 6, _ => exact w2_56
  | 7, _ => exact w2_58
  | 8, _ => exact w2_60
  | k + 9, hk => exact absurd hk (by omega)
theorem in_X2 : ∀ w ∈ u_ws RX2 TX2 18, w ∈ pm_T := by
  intro w hw
  obtain ⟨k, hk, rfl⟩ := List.mem_map.mp hw
  have hk := List.mem_range.mp hk
  match k, hk with
  | 0, _ => exact w1_127
  | 1, _ => exact w1_129
  | 2, _ => exact w1_131
  | 3, _ => exact w1_133
  | 4, _ => exact w1_135
  | 5, _ => exact w1_137
  | 6, _ => exact w1_139
  | 7, _ => exact w1_141
  | 8, _ => exact w1_143
  | 9, _ => exact w1_145
  | 10, _ => exact w1_147
  | 11, _ => exact w1_149
  | 12, _ => exact w1_151
  | 13, _ => exact w1_153
  | 14, _ => exact w1_155
  | 15, _ => exact w1_157
  | 16, _ => exact w1_159
  | 17, _ => exact w1_161
  | k + 18, hk => exact absurd hk (by omega)
theorem in_X3 : ∀ w ∈ u_ws RX3 TX3 6, w ∈ pm_T := by
  intro w hw
  obtain ⟨k, hk, rfl⟩ := List.mem_map.mp hw
  have hk := List.mem_range.mp hk
  match k, hk with
  | 0, _ => exact w1_51
  | 1, _ => exact w1_53
  | 2, _ => exact w1_55
  | 3, _ => exact w1_57
  | 4, _ => exact w1_59
  | 5, _ => exact w1_61
  | k + 6, hk => exact absurd hk (by omega)
theorem in_X4 : ∀ w ∈ u_ws RX4 TX4 4, w ∈ pm_T := by
  intro w hw
  obtain ⟨k, hk, rfl⟩ := List.mem_map.mp hw
  have hk := List.mem_range.mp hk
  match k, hk with
  | 0, _ => exact w1_228
  | 1, _ => exact w1_230
  | 2, _ => exact w1_232
  | 3, _ => exact w1_234
  | k + 4, hk => exact absurd hk (by omega)
theorem in_X5 : ∀ w ∈ u_ws RX5 TX5 12, w ∈ pm_T := by
  intro w hw
  obtain ⟨k, hk, rfl⟩ := List.mem_map.mp hw
  have hk := List.mem_range.mp hk
  match k, hk with
  | 0, _ => exact w1_184
  | 1, _ => exact w1_186
  | 2, _ => exact w1_188
  | 3, _ => exact w1_190
  | 4, _ => exact w1_192
  | 5, _ => exact w1_194
  | 6, _ => exact w1_196
  | 7, _ => exact w1_198
  | 8, _ => exact w1_200
  | 9, _ => exact w1_202
  | 10, _ => exact w1_204
  | 11, _ => exact w1_206
  | k + 12, hk => exact absurd hk (by omega)
theorem in_X6 : ∀ w ∈ u_ws RX6 TX6 14, w ∈ pm_T := by
  intro w hw
  obtain ⟨k, hk, rfl⟩ := List.mem_map.mp hw
  have hk := List.mem_range.mp hk
  match k, hk with
  | 0, _ => exact w2_107
  | 1, _ => exact w2_109
  | 2, _ => exact w2_111
  | 3, _ => exact w2_113
  | 4, _ => exact w2_115
  | 5, _ => exact w2_117
  | 6, _ => exact w2_119
  | 7, _ => exact w2_121
  | 8, _ => exact w2_123
  | 9, _ => exact w2_125
  | 10, _ => exact w2_127
  | 11, _ => exact w2_129
  | 12, _ => exact w2_131
  | 13, _ => exact w2_133
  | k + 14, hk => exact absurd hk (by omega)
theorem in_X7 : ∀ w ∈ u_ws RX7 TX7 4, w ∈ pm_T := by
  intro w hw
  obtain ⟨k, hk, rfl⟩ := List.mem_map.mp hw
  have hk := List.mem_range.mp hk
  match k, hk with
  | 0, _ => exact w2_152
  | 1, _ => exact w2_154
  | 2, _ => exact w2_156
  | 3, _ => exact w2_158
  | k + 4, hk => exact absurd hk (by omega)
theorem in_X8 : ∀ w ∈ u_ws RX8 TX8 17, w ∈ pm_T := by
  intro w hw
  obtain ⟨k, hk, rfl⟩ := List.mem_map.mp hw
  have hk := List.mem_range.mp hk
  match k, hk with
  | 0, _ => exact w2_193
  | 1, _ => exact w2_195
  | 2, _ => exact w2_197
  | 3, _ => exact w2_199
  | 4, _ => exact w2_201
  | 5, _ => exact w2_203
  | 6, _ => exact w2_205
  | 7, _ => exact w2_207
  | 8, _ => exact w2_209
  | 9, _ => exact w2_211
  | 10, _ => exact w2_213
  | 11, _ => exact w2_215
  | 12, _ => exact w2_217
  | 13, _ => exact w2_219
  | 14, _ => exact w2_221
  | 15, _ => exact w2_223
  | 16, _ => exact w2_225
  | k + 17, hk => exact absurd hk (by omega)
theorem in_X9 : ∀ w ∈ u_ws RX9 TX9 38, w ∈ pm_T := by
  intro w hw
  obtain ⟨k, hk, rfl⟩ := List.mem_map.mp hw
  have hk := List.mem_range.mp hk
  match k, hk with
  | 0, _ => exact w5_211
  | 1, _ => exact w5_213
  | 2, _ => exact w5_215
  | 3, _ => exact w5_217
  | 4, _ => exact w5_219
  | 5, _ => exact w5_221
  | 6, _ => exact w5_223
  | 7, _ => exact w5_225
  | 8, _ => exact w5_227
  | 9, _ => exact w5_229
  | 10, _ => exact w5_231
  | 11, _ => exact w5_233
  | 12, _ => exact w5_235
  | 13, _ => exact w5_237
  | 14, _ => exact w5_239
  | 15, _ => exact w6_1
  | 16, _ => exact w6_3
  | 17, _ => exact w6_5
  | 18, _ => exact w6_7
  | 19, _ => exact w6_9
  | 20, _ => exact w6_11
  | 21, _ => exact w6_13
  | 22, _ => exact w6_15
  | 23, _ => exact w6_17
  | 24, _ => exact w6_19
  | 25, _ => exact w6_21
  | 26, _ => exact w6_23
  | 27, _ => exact w6_25
  | 28, _ => exact w6_27
  | 29, _ => exact w6_29
  | 30, _ => exact w6_31
  | 31, _ => exact w6_33
  | 32, _ => exact w6_35
  | 33, _ => exact w6_37
  | 34, _ => exact w6_39
  | 35, _ => exact w6_41
  | 36, _ => exact w6_43
  | 37, _ => exact w6_45
  | k + 38, hk => exact absurd hk (by omega)
theorem fl_X0_9 : pm_FL RX0 9 0 0 (.object "WriterPace$Host") true "WriterPace$Clock" := ⟨RX0, TX0, 2, tyX0, rfl, in_X0, tyX0_ok, nmX0, by decide, rfl, rfl, rfl, w1_237⟩
theorem fl_X0_20 : pm_FL RX0 20 0 1 (.object "WriterPace$Oracle") true "WriterPace$Clock" := ⟨RX0, TX0, 2, tyX0, rfl, in_X0, tyX0_ok, nmX0, by decide, rfl, rfl, rfl, w1_238⟩
theorem fl_X0_27 : pm_FL RX0 27 6 13 .boolean false "WriterPace$State" := ⟨RX6, TX6, 14, tyX6, rfl, in_X6, tyX6_ok, nmX6, by decide, rfl, rfl, rfl, w2_105⟩
theorem fl_X0_33 : pm_FL RX0 33 2 9 .int false "WriterPace$Host" := ⟨RX2, TX2, 18, tyX2, rfl, in_X2, tyX2_ok, nmX2, by decide, rfl, rfl, rfl, w1_103⟩
theorem fl_X0_39 : pm_FL RX0 39 6 8 .int false "WriterPace$State" := ⟨RX6, TX6, 14, tyX6, rfl, in_X6, tyX6_ok, nmX6, by decide, rfl, rfl, rfl, w2_89⟩
theorem fl_X0_46 : pm_FL RX0 46 2 4 .int false "WriterPace$Host" := ⟨RX2, TX2, 18, tyX2, rfl, in_X2, tyX2_ok, nmX2, by decide, rfl, rfl, rfl, w1_83⟩
theorem fl_X0_52 : pm_FL RX0 52 2 7 .int false "WriterPace$Host" := ⟨RX2, TX2, 18, tyX2, rfl, in_X2, tyX2_ok, nmX2, by decide, rfl, rfl, rfl, w1_95⟩
theorem fl_X0_62 : pm_FL RX0 62 6 0 (.object "WriterPace$Drives") true "WriterPace$State" := ⟨RX6, TX6, 14, tyX6, rfl, in_X6, tyX6_ok, nmX6, by decide, rfl, rfl, rfl, w2_65⟩
theorem fl_X0_66 : pm_FL RX0 66 6 11 .int false "WriterPace$State" := ⟨RX6, TX6, 14, tyX6, rfl, in_X6, tyX6_ok, nmX6, by decide, rfl, rfl, rfl, w2_99⟩
theorem fl_X0_69 : pm_FL RX0 69 1 3 (.array .int) true "WriterPace$Drives" := ⟨RX1, TX1, 9, tyX1, rfl, in_X1, tyX1_ok, nmX1, by decide, rfl, rfl, rfl, w2_27⟩
theorem fl_X0_79 : pm_FL RX0 79 1 1 (.array .int) true "WriterPace$Drives" := ⟨RX1, TX1, 9, tyX1, rfl, in_X1, tyX1_ok, nmX1, by decide, rfl, rfl, rfl, w2_20⟩
theorem fl_X0_88 : pm_FL RX0 88 1 6 (.array .int) true "WriterPace$Drives" := ⟨RX1, TX1, 9, tyX1, rfl, in_X1, tyX1_ok, nmX1, by decide, rfl, rfl, rfl, w2_36⟩
theorem fl_X0_91 : pm_FL RX0 91 1 7 (.array .int) true "WriterPace$Drives" := ⟨RX1, TX1, 9, tyX1, rfl, in_X1, tyX1_ok, nmX1, by decide, rfl, rfl, rfl, w2_40⟩
theorem fl_X0_94 : pm_FL RX0 94 6 9 .int false "WriterPace$State" := ⟨RX6, TX6, 14, tyX6, rfl, in_X6, tyX6_ok, nmX6, by decide, rfl, rfl, rfl, w2_93⟩
theorem fl_X0_97 : pm_FL RX0 97 1 5 (.array .int) true "WriterPace$Drives" := ⟨RX1, TX1, 9, tyX1, rfl, in_X1, tyX1_ok, nmX1, by decide, rfl, rfl, rfl, w2_33⟩
theorem fl_X0_100 : pm_FL RX0 100 1 4 (.array .double) true "WriterPace$Drives" := ⟨RX1, TX1, 9, tyX1, rfl, in_X1, tyX1_ok, nmX1, by decide, rfl, rfl, rfl, w2_30⟩
theorem fl_X0_108 : pm_FL RX0 108 2 6 .int false "WriterPace$Host" := ⟨RX2, TX2, 18, tyX2, rfl, in_X2, tyX2_ok, nmX2, by decide, rfl, rfl, rfl, w1_93⟩
theorem fl_X0_117 : pm_FL RX0 117 1 8 (.array .int) true "WriterPace$Drives" := ⟨RX1, TX1, 9, tyX1, rfl, in_X1, tyX1_ok, nmX1, by decide, rfl, rfl, rfl, w2_43⟩
theorem fl_X0_120 : pm_FL RX0 120 2 5 .int false "WriterPace$Host" := ⟨RX2, TX2, 18, tyX2, rfl, in_X2, tyX2_ok, nmX2, by decide, rfl, rfl, rfl, w1_89⟩
theorem fl_X0_123 : pm_FL RX0 123 6 1 (.array .int) true "WriterPace$State" := ⟨RX6, TX6, 14, tyX6, rfl, in_X6, tyX6_ok, nmX6, by decide, rfl, rfl, rfl, w2_69⟩
theorem fl_X0_126 : pm_FL RX0 126 1 2 (.array .int) true "WriterPace$Drives" := ⟨RX1, TX1, 9, tyX1, rfl, in_X1, tyX1_ok, nmX1, by decide, rfl, rfl, rfl, w2_25⟩
theorem fl_X0_127 : pm_FL RX0 127 6 2 (.array .int) true "WriterPace$State" := ⟨RX6, TX6, 14, tyX6, rfl, in_X6, tyX6_ok, nmX6, by decide, rfl, rfl, rfl, w2_72⟩
theorem fl_X0_130 : pm_FL RX0 130 2 2 .int false "WriterPace$Host" := ⟨RX2, TX2, 18, tyX2, rfl, in_X2, tyX2_ok, nmX2, by decide, rfl, rfl, rfl, w1_77⟩
theorem fl_X0_133 : pm_FL RX0 133 2 8 .int false "WriterPace$Host" := ⟨RX2, TX2, 18, tyX2, rfl, in_X2, tyX2_ok, nmX2, by decide, rfl, rfl, rfl, w1_101⟩
theorem fl_X0_136 : pm_FL RX0 136 2 13 (.array .int) true "WriterPace$Host" := ⟨RX2, TX2, 18, tyX2, rfl, in_X2, tyX2_ok, nmX2, by decide, rfl, rfl, rfl, w1_115⟩
theorem fl_X0_143 : pm_FL RX0 143 2 1 .int false "WriterPace$Host" := ⟨RX2, TX2, 18, tyX2, rfl, in_X2, tyX2_ok, nmX2, by decide, rfl, rfl, rfl, w1_73⟩
theorem fl_X0_146 : pm_FL RX0 146 6 4 (.array .int) true "WriterPace$State" := ⟨RX6, TX6, 14, tyX6, rfl, in_X6, tyX6_ok, nmX6, by decide, rfl, rfl, rfl, w2_78⟩
theorem fl_X0_152 : pm_FL RX0 152 6 10 .int false "WriterPace$State" := ⟨RX6, TX6, 14, tyX6, rfl, in_X6, tyX6_ok, nmX6, by decide, rfl, rfl, rfl, w2_96⟩
theorem fl_X0_158 : pm_FL RX0 158 6 7 (.array .int) true "WriterPace$State" := ⟨RX6, TX6, 14, tyX6, rfl, in_X6, tyX6_ok, nmX6, by decide, rfl, rfl, rfl, w2_87⟩
theorem fl_X0_161 : pm_FL RX0 161 2 14 (.array .int) true "WriterPace$Host" := ⟨RX2, TX2, 18, tyX2, rfl, in_X2, tyX2_ok, nmX2, by decide, rfl, rfl, rfl, w1_118⟩
theorem fl_X0_164 : pm_FL RX0 164 2 15 (.array .int) true "WriterPace$Host" := ⟨RX2, TX2, 18, tyX2, rfl, in_X2, tyX2_ok, nmX2, by decide, rfl, rfl, rfl, w1_121⟩
theorem fl_X0_167 : pm_FL RX0 167 6 6 (.array .int) true "WriterPace$State" := ⟨RX6, TX6, 14, tyX6, rfl, in_X6, tyX6_ok, nmX6, by decide, rfl, rfl, rfl, w2_84⟩
theorem fl_X0_174 : pm_FL RX0 174 6 5 (.array .int) true "WriterPace$State" := ⟨RX6, TX6, 14, tyX6, rfl, in_X6, tyX6_ok, nmX6, by decide, rfl, rfl, rfl, w2_81⟩
theorem fl_X0_190 : pm_FL RX0 190 2 12 (.array .int) true "WriterPace$Host" := ⟨RX2, TX2, 18, tyX2, rfl, in_X2, tyX2_ok, nmX2, by decide, rfl, rfl, rfl, w1_112⟩
theorem fl_X0_193 : pm_FL RX0 193 2 3 .int false "WriterPace$Host" := ⟨RX2, TX2, 18, tyX2, rfl, in_X2, tyX2_ok, nmX2, by decide, rfl, rfl, rfl, w1_81⟩
theorem fl_X1_9 : pm_FL RX1 9 1 0 (.array .int) true "WriterPace$Drives" := ⟨RX1, TX1, 9, tyX1, rfl, in_X1, tyX1_ok, nmX1, by decide, rfl, rfl, rfl, w2_16⟩
theorem fl_X1_15 : pm_FL RX1 15 1 1 (.array .int) true "WriterPace$Drives" := ⟨RX1, TX1, 9, tyX1, rfl, in_X1, tyX1_ok, nmX1, by decide, rfl, rfl, rfl, w2_19⟩
theorem fl_X1_18 : pm_FL RX1 18 1 2 (.array .int) true "WriterPace$Drives" := ⟨RX1, TX1, 9, tyX1, rfl, in_X1, tyX1_ok, nmX1, by decide, rfl, rfl, rfl, w2_22⟩
theorem fl_X1_21 : pm_FL RX1 21 1 3 (.array .int) true "WriterPace$Drives" := ⟨RX1, TX1, 9, tyX1, rfl, in_X1, tyX1_ok, nmX1, by decide, rfl, rfl, rfl, w2_26⟩
theorem fl_X1_24 : pm_FL RX1 24 1 4 (.array .double) true "WriterPace$Drives" := ⟨RX1, TX1, 9, tyX1, rfl, in_X1, tyX1_ok, nmX1, by decide, rfl, rfl, rfl, w2_29⟩
theorem fl_X1_28 : pm_FL RX1 28 1 5 (.array .int) true "WriterPace$Drives" := ⟨RX1, TX1, 9, tyX1, rfl, in_X1, tyX1_ok, nmX1, by decide, rfl, rfl, rfl, w2_32⟩
theorem fl_X1_31 : pm_FL RX1 31 1 6 (.array .int) true "WriterPace$Drives" := ⟨RX1, TX1, 9, tyX1, rfl, in_X1, tyX1_ok, nmX1, by decide, rfl, rfl, rfl, w2_35⟩
theorem fl_X1_34 : pm_FL RX1 34 1 7 (.array .int) true "WriterPace$Drives" := ⟨RX1, TX1, 9, tyX1, rfl, in_X1, tyX1_ok, nmX1, by decide, rfl, rfl, rfl, w2_39⟩
theorem fl_X1_37 : pm_FL RX1 37 1 8 (.array .int) true "WriterPace$Drives" := ⟨RX1, TX1, 9, tyX1, rfl, in_X1, tyX1_ok, nmX1, by decide, rfl, rfl, rfl, w2_42⟩
theorem fl_X1_46 : pm_FL RX1 46 2 11 (.array .int) true "WriterPace$Host" := ⟨RX2, TX2, 18, tyX2, rfl, in_X2, tyX2_ok, nmX2, by decide, rfl, rfl, rfl, w1_110⟩
theorem fl_X2_9 : pm_FL RX2 9 2 0 .int false "WriterPace$Host" := ⟨RX2, TX2, 18, tyX2, rfl, in_X2, tyX2_ok, nmX2, by decide, rfl, rfl, rfl, w1_66⟩
theorem fl_X2_15 : pm_FL RX2 15 2 1 .int false "WriterPace$Host" := ⟨RX2, TX2, 18, tyX2, rfl, in_X2, tyX2_ok, nmX2, by decide, rfl, rfl, rfl, w1_70⟩
theorem fl_X2_18 : pm_FL RX2 18 2 2 .int false "WriterPace$Host" := ⟨RX2, TX2, 18, tyX2, rfl, in_X2, tyX2_ok, nmX2, by decide, rfl, rfl, rfl, w1_74⟩
theorem fl_X2_21 : pm_FL RX2 21 2 3 .int false "WriterPace$Host" := ⟨RX2, TX2, 18, tyX2, rfl, in_X2, tyX2_ok, nmX2, by decide, rfl, rfl, rfl, w1_78⟩
theorem fl_X2_24 : pm_FL RX2 24 2 4 .int false "WriterPace$Host" := ⟨RX2, TX2, 18, tyX2, rfl, in_X2, tyX2_ok, nmX2, by decide, rfl, rfl, rfl, w1_82⟩
theorem fl_X2_27 : pm_FL RX2 27 2 5 .int false "WriterPace$Host" := ⟨RX2, TX2, 18, tyX2, rfl, in_X2, tyX2_ok, nmX2, by decide, rfl, rfl, rfl, w1_86⟩
theorem fl_X2_30 : pm_FL RX2 30 2 6 .int false "WriterPace$Host" := ⟨RX2, TX2, 18, tyX2, rfl, in_X2, tyX2_ok, nmX2, by decide, rfl, rfl, rfl, w1_90⟩
theorem fl_X2_33 : pm_FL RX2 33 2 7 .int false "WriterPace$Host" := ⟨RX2, TX2, 18, tyX2, rfl, in_X2, tyX2_ok, nmX2, by decide, rfl, rfl, rfl, w1_94⟩
theorem fl_X2_36 : pm_FL RX2 36 2 8 .int false "WriterPace$Host" := ⟨RX2, TX2, 18, tyX2, rfl, in_X2, tyX2_ok, nmX2, by decide, rfl, rfl, rfl, w1_98⟩
theorem fl_X2_39 : pm_FL RX2 39 2 9 .int false "WriterPace$Host" := ⟨RX2, TX2, 18, tyX2, rfl, in_X2, tyX2_ok, nmX2, by decide, rfl, rfl, rfl, w1_102⟩
theorem fl_X2_42 : pm_FL RX2 42 2 10 .int false "WriterPace$Host" := ⟨RX2, TX2, 18, tyX2, rfl, in_X2, tyX2_ok, nmX2, by decide, rfl, rfl, rfl, w1_106⟩
theorem fl_X2_45 : pm_FL RX2 45 2 11 (.array .int) true "WriterPace$Host" := ⟨RX2, TX2, 18, tyX2, rfl, in_X2, tyX2_ok, nmX2, by decide, rfl, rfl, rfl, w1_109⟩
theorem fl_X2_49 : pm_FL RX2 49 2 12 (.array .int) true "WriterPace$Host" := ⟨RX2, TX2, 18, tyX2, rfl, in_X2, tyX2_ok, nmX2, by decide, rfl, rfl, rfl, w1_111⟩
theorem fl_X2_52 : pm_FL RX2 52 2 13 (.array .int) true "WriterPace$Host" := ⟨RX2, TX2, 18, tyX2, rfl, in_X2, tyX2_ok, nmX2, by decide, rfl, rfl, rfl, w1_113⟩
theorem fl_X2_55 : pm_FL RX2 55 2 14 (.array .int) true "WriterPace$Host" := ⟨RX2, TX2, 18, tyX2, rfl, in_X2, tyX2_ok, nmX2, by decide, rfl, rfl, rfl, w1_116⟩
theorem fl_X2_58 : pm_FL RX2 58 2 15 (.array .int) true "WriterPace$Host" := ⟨RX2, TX2, 18, tyX2, rfl, in_X2, tyX2_ok, nmX2, by decide, rfl, rfl, rfl, w1_119⟩
theorem fl_X2_61 : pm_FL RX2 61 2 16 (.array .int) true "WriterPace$Host" := ⟨RX2, TX2, 18, tyX2, rfl, in_X2, tyX2_ok, nmX2, by decide, rfl, rfl, rfl, w1_122⟩
theorem fl_X2_67 : pm_FL RX2 67 2 17 (.object "WriterPace$Laws") true "WriterPace$Host" := ⟨RX2, TX2, 18, tyX2, rfl, in_X2, tyX2_ok, nmX2, by decide, rfl, rfl, rfl, w1_124⟩
theorem fl_X3_9 : pm_FL RX3 9 3 0 (.array .int) true "WriterPace$Laws" := ⟨RX3, TX3, 6, tyX3, rfl, in_X3, tyX3_ok, nmX3, by decide, rfl, rfl, rfl, w1_39⟩
theorem fl_X3_15 : pm_FL RX3 15 3 1 .int false "WriterPace$Laws" := ⟨RX3, TX3, 6, tyX3, rfl, in_X3, tyX3_ok, nmX3, by decide, rfl, rfl, rfl, w1_41⟩
theorem fl_X3_19 : pm_FL RX3 19 3 2 .int false "WriterPace$Laws" := ⟨RX3, TX3, 6, tyX3, rfl, in_X3, tyX3_ok, nmX3, by decide, rfl, rfl, rfl, w1_43⟩
theorem fl_X3_22 : pm_FL RX3 22 3 3 .int false "WriterPace$Laws" := ⟨RX3, TX3, 6, tyX3, rfl, in_X3, tyX3_ok, nmX3, by decide, rfl, rfl, rfl, w1_45⟩
theorem fl_X3_25 : pm_FL RX3 25 3 4 .int false "WriterPace$Laws" := ⟨RX3, TX3, 6, tyX3, rfl, in_X3, tyX3_ok, nmX3, by decide, rfl, rfl, rfl, w1_47⟩
theorem fl_X3_28 : pm_FL RX3 28 3 5 .int false "WriterPace$Laws" := ⟨RX3, TX3, 6, tyX3, rfl, in_X3, tyX3_ok, nmX3, by decide, rfl, rfl, rfl, w1_49⟩
theorem fl_X4_9 : pm_FL RX4 9 4 1 (.array .int) true "WriterPace$Oracle" := ⟨RX4, TX4, 4, tyX4, rfl, in_X4, tyX4_ok, nmX4, by decide, rfl, rfl, rfl, w1_225⟩
theorem fl_X4_15 : pm_FL RX4 15 4 2 (.array .int) true "WriterPace$Oracle" := ⟨RX4, TX4, 4, tyX4, rfl, in_X4, tyX4_ok, nmX4, by decide, rfl, rfl, rfl, w1_226⟩
theorem fl_X4_18 : pm_FL RX4 18 4 3 (.array .int) true "WriterPace$Oracle" := ⟨RX4, TX4, 4, tyX4, rfl, in_X4, tyX4_ok, nmX4, by decide, rfl, rfl, rfl, w1_227⟩
theorem fl_X4_21 : pm_FL RX4 21 4 0 (.object "WriterPace$Host") true "WriterPace$Oracle" := ⟨RX4, TX4, 4, tyX4, rfl, in_X4, tyX4_ok, nmX4, by decide, rfl, rfl, rfl, w1_224⟩
theorem fl_X4_31 : pm_FL RX4 31 6 3 (.array .int) true "WriterPace$State" := ⟨RX6, TX6, 14, tyX6, rfl, in_X6, tyX6_ok, nmX6, by decide, rfl, rfl, rfl, w2_74⟩
theorem fl_X4_36 : pm_FL RX4 36 2 17 (.object "WriterPace$Laws") true "WriterPace$Host" := ⟨RX2, TX2, 18, tyX2, rfl, in_X2, tyX2_ok, nmX2, by decide, rfl, rfl, rfl, w1_125⟩
theorem fl_X4_42 : pm_FL RX4 42 3 2 .int false "WriterPace$Laws" := ⟨RX3, TX3, 6, tyX3, rfl, in_X3, tyX3_ok, nmX3, by decide, rfl, rfl, rfl, w1_44⟩
theorem fl_X4_48 : pm_FL RX4 48 3 3 .int false "WriterPace$Laws" := ⟨RX3, TX3, 6, tyX3, rfl, in_X3, tyX3_ok, nmX3, by decide, rfl, rfl, rfl, w1_46⟩
theorem fl_X4_51 : pm_FL RX4 51 6 8 .int false "WriterPace$State" := ⟨RX6, TX6, 14, tyX6, rfl, in_X6, tyX6_ok, nmX6, by decide, rfl, rfl, rfl, w2_90⟩
theorem fl_X4_58 : pm_FL RX4 58 2 15 (.array .int) true "WriterPace$Host" := ⟨RX2, TX2, 18, tyX2, rfl, in_X2, tyX2_ok, nmX2, by decide, rfl, rfl, rfl, w1_120⟩
theorem fl_X4_74 : pm_FL RX4 74 6 0 (.object "WriterPace$Drives") true "WriterPace$State" := ⟨RX6, TX6, 14, tyX6, rfl, in_X6, tyX6_ok, nmX6, by decide, rfl, rfl, rfl, w2_66⟩
theorem fl_X4_78 : pm_FL RX4 78 1 0 (.array .int) true "WriterPace$Drives" := ⟨RX1, TX1, 9, tyX1, rfl, in_X1, tyX1_ok, nmX1, by decide, rfl, rfl, rfl, w2_17⟩
theorem fl_X4_83 : pm_FL RX4 83 3 4 .int false "WriterPace$Laws" := ⟨RX3, TX3, 6, tyX3, rfl, in_X3, tyX3_ok, nmX3, by decide, rfl, rfl, rfl, w1_48⟩
theorem fl_X4_86 : pm_FL RX4 86 3 5 .int false "WriterPace$Laws" := ⟨RX3, TX3, 6, tyX3, rfl, in_X3, tyX3_ok, nmX3, by decide, rfl, rfl, rfl, w1_50⟩
theorem fl_X4_89 : pm_FL RX4 89 6 12 .int false "WriterPace$State" := ⟨RX6, TX6, 14, tyX6, rfl, in_X6, tyX6_ok, nmX6, by decide, rfl, rfl, rfl, w2_102⟩
theorem fl_X4_92 : pm_FL RX4 92 3 0 (.array .int) true "WriterPace$Laws" := ⟨RX3, TX3, 6, tyX3, rfl, in_X3, tyX3_ok, nmX3, by decide, rfl, rfl, rfl, w1_40⟩
theorem fl_X5_9 : pm_FL RX5 9 5 0 .int false "WriterPace$Reader" := ⟨RX5, TX5, 12, tyX5, rfl, in_X5, tyX5_ok, nmX5, by decide, rfl, rfl, rfl, w1_170⟩
theorem fl_X5_15 : pm_FL RX5 15 5 1 .int false "WriterPace$Reader" := ⟨RX5, TX5, 12, tyX5, rfl, in_X5, tyX5_ok, nmX5, by decide, rfl, rfl, rfl, w1_172⟩
theorem fl_X5_18 : pm_FL RX5 18 5 4 .int false "WriterPace$Reader" := ⟨RX5, TX5, 12, tyX5, rfl, in_X5, tyX5_ok, nmX5, by decide, rfl, rfl, rfl, w1_176⟩
theorem fl_X5_21 : pm_FL RX5 21 5 5 .int false "WriterPace$Reader" := ⟨RX5, TX5, 12, tyX5, rfl, in_X5, tyX5_ok, nmX5, by decide, rfl, rfl, rfl, w1_177⟩
theorem fl_X5_24 : pm_FL RX5 24 5 6 .int false "WriterPace$Reader" := ⟨RX5, TX5, 12, tyX5, rfl, in_X5, tyX5_ok, nmX5, by decide, rfl, rfl, rfl, w1_178⟩
theorem fl_X5_27 : pm_FL RX5 27 5 7 .int false "WriterPace$Reader" := ⟨RX5, TX5, 12, tyX5, rfl, in_X5, tyX5_ok, nmX5, by decide, rfl, rfl, rfl, w1_179⟩
theorem fl_X5_30 : pm_FL RX5 30 5 8 .int false "WriterPace$Reader" := ⟨RX5, TX5, 12, tyX5, rfl, in_X5, tyX5_ok, nmX5, by decide, rfl, rfl, rfl, w1_180⟩
theorem fl_X5_33 : pm_FL RX5 33 5 9 .int false "WriterPace$Reader" := ⟨RX5, TX5, 12, tyX5, rfl, in_X5, tyX5_ok, nmX5, by decide, rfl, rfl, rfl, w1_181⟩
theorem fl_X5_36 : pm_FL RX5 36 5 10 .int false "WriterPace$Reader" := ⟨RX5, TX5, 12, tyX5, rfl, in_X5, tyX5_ok, nmX5, by decide, rfl, rfl, rfl, w1_182⟩
theorem fl_X5_39 : pm_FL RX5 39 5 11 .boolean false "WriterPace$Reader" := ⟨RX5, TX5, 12, tyX5, rfl, in_X5, tyX5_ok, nmX5, by decide, rfl, rfl, rfl, w1_183⟩
theorem fl_X5_43 : pm_FL RX5 43 5 2 (.array .byte) true "WriterPace$Reader" := ⟨RX5, TX5, 12, tyX5, rfl, in_X5, tyX5_ok, nmX5, by decide, rfl, rfl, rfl, w1_174⟩
theorem fl_X5_47 : pm_FL RX5 47 5 3 (.object "WriterPace$Host") true "WriterPace$Reader" := ⟨RX5, TX5, 12, tyX5, rfl, in_X5, tyX5_ok, nmX5, by decide, rfl, rfl, rfl, w1_175⟩
theorem fl_X5_84 : pm_FL RX5 84 2 0 .int false "WriterPace$Host" := ⟨RX2, TX2, 18, tyX2, rfl, in_X2, tyX2_ok, nmX2, by decide, rfl, rfl, rfl, w1_68⟩
theorem fl_X5_88 : pm_FL RX5 88 2 1 .int false "WriterPace$Host" := ⟨RX2, TX2, 18, tyX2, rfl, in_X2, tyX2_ok, nmX2, by decide, rfl, rfl, rfl, w1_71⟩
theorem fl_X5_92 : pm_FL RX5 92 2 2 .int false "WriterPace$Host" := ⟨RX2, TX2, 18, tyX2, rfl, in_X2, tyX2_ok, nmX2, by decide, rfl, rfl, rfl, w1_75⟩
theorem fl_X5_96 : pm_FL RX5 96 2 3 .int false "WriterPace$Host" := ⟨RX2, TX2, 18, tyX2, rfl, in_X2, tyX2_ok, nmX2, by decide, rfl, rfl, rfl, w1_79⟩
theorem fl_X5_101 : pm_FL RX5 101 2 4 .int false "WriterPace$Host" := ⟨RX2, TX2, 18, tyX2, rfl, in_X2, tyX2_ok, nmX2, by decide, rfl, rfl, rfl, w1_84⟩
theorem fl_X5_105 : pm_FL RX5 105 2 5 .int false "WriterPace$Host" := ⟨RX2, TX2, 18, tyX2, rfl, in_X2, tyX2_ok, nmX2, by decide, rfl, rfl, rfl, w1_87⟩
theorem fl_X5_109 : pm_FL RX5 109 2 6 .int false "WriterPace$Host" := ⟨RX2, TX2, 18, tyX2, rfl, in_X2, tyX2_ok, nmX2, by decide, rfl, rfl, rfl, w1_91⟩
theorem fl_X5_111 : pm_FL RX5 111 2 10 .int false "WriterPace$Host" := ⟨RX2, TX2, 18, tyX2, rfl, in_X2, tyX2_ok, nmX2, by decide, rfl, rfl, rfl, w1_108⟩
theorem fl_X5_148 : pm_FL RX5 148 2 7 .int false "WriterPace$Host" := ⟨RX2, TX2, 18, tyX2, rfl, in_X2, tyX2_ok, nmX2, by decide, rfl, rfl, rfl, w1_96⟩
theorem fl_X5_155 : pm_FL RX5 155 2 8 .int false "WriterPace$Host" := ⟨RX2, TX2, 18, tyX2, rfl, in_X2, tyX2_ok, nmX2, by decide, rfl, rfl, rfl, w1_99⟩
theorem fl_X5_163 : pm_FL RX5 163 2 9 .int false "WriterPace$Host" := ⟨RX2, TX2, 18, tyX2, rfl, in_X2, tyX2_ok, nmX2, by decide, rfl, rfl, rfl, w1_104⟩
theorem fl_X5_172 : pm_FL RX5 172 2 17 (.object "WriterPace$Laws") true "WriterPace$Host" := ⟨RX2, TX2, 18, tyX2, rfl, in_X2, tyX2_ok, nmX2, by decide, rfl, rfl, rfl, w1_126⟩
theorem fl_X5_176 : pm_FL RX5 176 3 1 .int false "WriterPace$Laws" := ⟨RX3, TX3, 6, tyX3, rfl, in_X3, tyX3_ok, nmX3, by decide, rfl, rfl, rfl, w1_42⟩
theorem fl_X6_12 : pm_FL RX6 12 6 0 (.object "WriterPace$Drives") true "WriterPace$State" := ⟨RX6, TX6, 14, tyX6, rfl, in_X6, tyX6_ok, nmX6, by decide, rfl, rfl, rfl, w2_64⟩
theorem fl_X6_18 : pm_FL RX6 18 6 1 (.array .int) true "WriterPace$State" := ⟨RX6, TX6, 14, tyX6, rfl, in_X6, tyX6_ok, nmX6, by decide, rfl, rfl, rfl, w2_68⟩
theorem fl_X6_22 : pm_FL RX6 22 6 2 (.array .int) true "WriterPace$State" := ⟨RX6, TX6, 14, tyX6, rfl, in_X6, tyX6_ok, nmX6, by decide, rfl, rfl, rfl, w2_71⟩
theorem fl_X6_25 : pm_FL RX6 25 6 3 (.array .int) true "WriterPace$State" := ⟨RX6, TX6, 14, tyX6, rfl, in_X6, tyX6_ok, nmX6, by decide, rfl, rfl, rfl, w2_73⟩
theorem fl_X6_28 : pm_FL RX6 28 6 4 (.array .int) true "WriterPace$State" := ⟨RX6, TX6, 14, tyX6, rfl, in_X6, tyX6_ok, nmX6, by decide, rfl, rfl, rfl, w2_76⟩
theorem fl_X6_31 : pm_FL RX6 31 6 5 (.array .int) true "WriterPace$State" := ⟨RX6, TX6, 14, tyX6, rfl, in_X6, tyX6_ok, nmX6, by decide, rfl, rfl, rfl, w2_79⟩
theorem fl_X6_34 : pm_FL RX6 34 6 6 (.array .int) true "WriterPace$State" := ⟨RX6, TX6, 14, tyX6, rfl, in_X6, tyX6_ok, nmX6, by decide, rfl, rfl, rfl, w2_82⟩
theorem fl_X6_37 : pm_FL RX6 37 6 7 (.array .int) true "WriterPace$State" := ⟨RX6, TX6, 14, tyX6, rfl, in_X6, tyX6_ok, nmX6, by decide, rfl, rfl, rfl, w2_85⟩
theorem fl_X6_40 : pm_FL RX6 40 6 8 .int false "WriterPace$State" := ⟨RX6, TX6, 14, tyX6, rfl, in_X6, tyX6_ok, nmX6, by decide, rfl, rfl, rfl, w2_88⟩
theorem fl_X6_44 : pm_FL RX6 44 6 9 .int false "WriterPace$State" := ⟨RX6, TX6, 14, tyX6, rfl, in_X6, tyX6_ok, nmX6, by decide, rfl, rfl, rfl, w2_92⟩
theorem fl_X6_47 : pm_FL RX6 47 6 10 .int false "WriterPace$State" := ⟨RX6, TX6, 14, tyX6, rfl, in_X6, tyX6_ok, nmX6, by decide, rfl, rfl, rfl, w2_95⟩
theorem fl_X6_50 : pm_FL RX6 50 6 11 .int false "WriterPace$State" := ⟨RX6, TX6, 14, tyX6, rfl, in_X6, tyX6_ok, nmX6, by decide, rfl, rfl, rfl, w2_98⟩
theorem fl_X6_53 : pm_FL RX6 53 6 12 .int false "WriterPace$State" := ⟨RX6, TX6, 14, tyX6, rfl, in_X6, tyX6_ok, nmX6, by decide, rfl, rfl, rfl, w2_101⟩
theorem fl_X6_56 : pm_FL RX6 56 6 13 .boolean false "WriterPace$State" := ⟨RX6, TX6, 14, tyX6, rfl, in_X6, tyX6_ok, nmX6, by decide, rfl, rfl, rfl, w2_104⟩
theorem fl_X6_70 : pm_FL RX6 70 2 16 (.array .int) true "WriterPace$Host" := ⟨RX2, TX2, 18, tyX2, rfl, in_X2, tyX2_ok, nmX2, by decide, rfl, rfl, rfl, w1_123⟩
theorem fl_X6_79 : pm_FL RX6 79 2 0 .int false "WriterPace$Host" := ⟨RX2, TX2, 18, tyX2, rfl, in_X2, tyX2_ok, nmX2, by decide, rfl, rfl, rfl, w1_67⟩
theorem fl_X6_84 : pm_FL RX6 84 1 2 (.array .int) true "WriterPace$Drives" := ⟨RX1, TX1, 9, tyX1, rfl, in_X1, tyX1_ok, nmX1, by decide, rfl, rfl, rfl, w2_23⟩
theorem fl_X6_89 : pm_FL RX6 89 1 6 (.array .int) true "WriterPace$Drives" := ⟨RX1, TX1, 9, tyX1, rfl, in_X1, tyX1_ok, nmX1, by decide, rfl, rfl, rfl, w2_37⟩
theorem fl_X7_9 : pm_FL RX7 9 7 0 (.array .long) true "WriterPace$Tray" := ⟨RX7, TX7, 4, tyX7, rfl, in_X7, tyX7_ok, nmX7, by decide, rfl, rfl, rfl, w2_145⟩
theorem fl_X7_15 : pm_FL RX7 15 7 1 .boolean false "WriterPace$Tray" := ⟨RX7, TX7, 4, tyX7, rfl, in_X7, tyX7_ok, nmX7, by decide, rfl, rfl, rfl, w2_147⟩
theorem fl_X7_19 : pm_FL RX7 19 7 2 .int false "WriterPace$Tray" := ⟨RX7, TX7, 4, tyX7, rfl, in_X7, tyX7_ok, nmX7, by decide, rfl, rfl, rfl, w2_149⟩
theorem fl_X7_23 : pm_FL RX7 23 7 3 .int false "WriterPace$Tray" := ⟨RX7, TX7, 4, tyX7, rfl, in_X7, tyX7_ok, nmX7, by decide, rfl, rfl, rfl, w2_150⟩
theorem fl_X8_9 : pm_FL RX8 9 8 0 (.array .byte) true "WriterPace" := ⟨RX8, TX8, 17, tyX8, rfl, in_X8, tyX8_ok, nmX8, by decide, rfl, rfl, rfl, w2_176⟩
theorem fl_X8_13 : pm_FL RX8 13 8 1 .int false "WriterPace" := ⟨RX8, TX8, 17, tyX8, rfl, in_X8, tyX8_ok, nmX8, by decide, rfl, rfl, rfl, w2_177⟩
theorem fl_X8_20 : pm_FL RX8 20 8 2 (.object "WriterPace$Host") true "WriterPace" := ⟨RX8, TX8, 17, tyX8, rfl, in_X8, tyX8_ok, nmX8, by decide, rfl, rfl, rfl, w2_178⟩
theorem fl_X8_29 : pm_FL RX8 29 8 3 (.object "WriterPace$Reader") true "WriterPace" := ⟨RX8, TX8, 17, tyX8, rfl, in_X8, tyX8_ok, nmX8, by decide, rfl, rfl, rfl, w2_179⟩
theorem fl_X8_33 : pm_FL RX8 33 8 4 (.object "WriterPace$Host") true "WriterPace" := ⟨RX8, TX8, 17, tyX8, rfl, in_X8, tyX8_ok, nmX8, by decide, rfl, rfl, rfl, w2_180⟩
theorem fl_X8_41 : pm_FL RX8 41 8 5 (.object "WriterPace$Clock") true "WriterPace" := ⟨RX8, TX8, 17, tyX8, rfl, in_X8, tyX8_ok, nmX8, by decide, rfl, rfl, rfl, w2_181⟩
theorem fl_X8_48 : pm_FL RX8 48 8 6 (.object "WriterPace$State") true "WriterPace" := ⟨RX8, TX8, 17, tyX8, rfl, in_X8, tyX8_ok, nmX8, by decide, rfl, rfl, rfl, w2_182⟩
theorem fl_X8_52 : pm_FL RX8 52 8 7 (.object "WriterPace$State") true "WriterPace" := ⟨RX8, TX8, 17, tyX8, rfl, in_X8, tyX8_ok, nmX8, by decide, rfl, rfl, rfl, w2_183⟩
theorem fl_X8_55 : pm_FL RX8 55 8 8 (.object "WriterPace$State") true "WriterPace" := ⟨RX8, TX8, 17, tyX8, rfl, in_X8, tyX8_ok, nmX8, by decide, rfl, rfl, rfl, w2_184⟩
theorem fl_X8_58 : pm_FL RX8 58 8 9 (.array (.object "WriterPace$State")) true "WriterPace" := ⟨RX8, TX8, 17, tyX8, rfl, in_X8, tyX8_ok, nmX8, by decide, rfl, rfl, rfl, w2_185⟩
theorem fl_X8_62 : pm_FL RX8 62 8 10 .int false "WriterPace" := ⟨RX8, TX8, 17, tyX8, rfl, in_X8, tyX8_ok, nmX8, by decide, rfl, rfl, rfl, w2_186⟩
theorem fl_X8_65 : pm_FL RX8 65 8 11 .int false "WriterPace" := ⟨RX8, TX8, 17, tyX8, rfl, in_X8, tyX8_ok, nmX8, by decide, rfl, rfl, rfl, w2_187⟩
theorem fl_X8_70 : pm_FL RX8 70 8 12 (.array (.object "WriterPace$Tray")) true "WriterPace" := ⟨RX8, TX8, 17, tyX8, rfl, in_X8, tyX8_ok, nmX8, by decide, rfl, rfl, rfl, w2_188⟩
theorem fl_X8_74 : pm_FL RX8 74 8 13 (.array (.object "WriterPace$Host")) true "WriterPace" := ⟨RX8, TX8, 17, tyX8, rfl, in_X8, tyX8_ok, nmX8, by decide, rfl, rfl, rfl, w2_189⟩
theorem fl_X8_78 : pm_FL RX8 78 8 14 (.array (.object "WriterPace$State")) true "WriterPace" := ⟨RX8, TX8, 17, tyX8, rfl, in_X8, tyX8_ok, nmX8, by decide, rfl, rfl, rfl, w2_190⟩
theorem fl_X8_81 : pm_FL RX8 81 8 15 (.array .boolean) true "WriterPace" := ⟨RX8, TX8, 17, tyX8, rfl, in_X8, tyX8_ok, nmX8, by decide, rfl, rfl, rfl, w2_191⟩
theorem fl_X8_85 : pm_FL RX8 85 8 16 .int false "WriterPace" := ⟨RX8, TX8, 17, tyX8, rfl, in_X8, tyX8_ok, nmX8, by decide, rfl, rfl, rfl, w2_192⟩
theorem fl_X8_100 : pm_FL RX8 100 5 0 .int false "WriterPace$Reader" := ⟨RX5, TX5, 12, tyX5, rfl, in_X5, tyX5_ok, nmX5, by decide, rfl, rfl, rfl, w1_171⟩
theorem fl_X8_109 : pm_FL RX8 109 2 10 .int false "WriterPace$Host" := ⟨RX2, TX2, 18, tyX2, rfl, in_X2, tyX2_ok, nmX2, by decide, rfl, rfl, rfl, w1_107⟩
theorem fl_X8_112 : pm_FL RX8 112 5 1 .int false "WriterPace$Reader" := ⟨RX5, TX5, 12, tyX5, rfl, in_X5, tyX5_ok, nmX5, by decide, rfl, rfl, rfl, w1_173⟩
theorem fl_X8_115 : pm_FL RX8 115 2 0 .int false "WriterPace$Host" := ⟨RX2, TX2, 18, tyX2, rfl, in_X2, tyX2_ok, nmX2, by decide, rfl, rfl, rfl, w1_69⟩
theorem fl_X8_118 : pm_FL RX8 118 2 1 .int false "WriterPace$Host" := ⟨RX2, TX2, 18, tyX2, rfl, in_X2, tyX2_ok, nmX2, by decide, rfl, rfl, rfl, w1_72⟩
theorem fl_X8_121 : pm_FL RX8 121 2 2 .int false "WriterPace$Host" := ⟨RX2, TX2, 18, tyX2, rfl, in_X2, tyX2_ok, nmX2, by decide, rfl, rfl, rfl, w1_76⟩
theorem fl_X8_124 : pm_FL RX8 124 2 3 .int false "WriterPace$Host" := ⟨RX2, TX2, 18, tyX2, rfl, in_X2, tyX2_ok, nmX2, by decide, rfl, rfl, rfl, w1_80⟩
theorem fl_X8_127 : pm_FL RX8 127 2 4 .int false "WriterPace$Host" := ⟨RX2, TX2, 18, tyX2, rfl, in_X2, tyX2_ok, nmX2, by decide, rfl, rfl, rfl, w1_85⟩
theorem fl_X8_130 : pm_FL RX8 130 2 5 .int false "WriterPace$Host" := ⟨RX2, TX2, 18, tyX2, rfl, in_X2, tyX2_ok, nmX2, by decide, rfl, rfl, rfl, w1_88⟩
theorem fl_X8_133 : pm_FL RX8 133 2 6 .int false "WriterPace$Host" := ⟨RX2, TX2, 18, tyX2, rfl, in_X2, tyX2_ok, nmX2, by decide, rfl, rfl, rfl, w1_92⟩
theorem fl_X8_145 : pm_FL RX8 145 6 0 (.object "WriterPace$Drives") true "WriterPace$State" := ⟨RX6, TX6, 14, tyX6, rfl, in_X6, tyX6_ok, nmX6, by decide, rfl, rfl, rfl, w2_67⟩
theorem fl_X8_149 : pm_FL RX8 149 1 0 (.array .int) true "WriterPace$Drives" := ⟨RX1, TX1, 9, tyX1, rfl, in_X1, tyX1_ok, nmX1, by decide, rfl, rfl, rfl, w2_18⟩
theorem fl_X8_155 : pm_FL RX8 155 1 1 (.array .int) true "WriterPace$Drives" := ⟨RX1, TX1, 9, tyX1, rfl, in_X1, tyX1_ok, nmX1, by decide, rfl, rfl, rfl, w2_21⟩
theorem fl_X8_158 : pm_FL RX8 158 1 2 (.array .int) true "WriterPace$Drives" := ⟨RX1, TX1, 9, tyX1, rfl, in_X1, tyX1_ok, nmX1, by decide, rfl, rfl, rfl, w2_24⟩
theorem fl_X8_161 : pm_FL RX8 161 1 3 (.array .int) true "WriterPace$Drives" := ⟨RX1, TX1, 9, tyX1, rfl, in_X1, tyX1_ok, nmX1, by decide, rfl, rfl, rfl, w2_28⟩
theorem fl_X8_164 : pm_FL RX8 164 1 4 (.array .double) true "WriterPace$Drives" := ⟨RX1, TX1, 9, tyX1, rfl, in_X1, tyX1_ok, nmX1, by decide, rfl, rfl, rfl, w2_31⟩
theorem fl_X8_170 : pm_FL RX8 170 1 5 (.array .int) true "WriterPace$Drives" := ⟨RX1, TX1, 9, tyX1, rfl, in_X1, tyX1_ok, nmX1, by decide, rfl, rfl, rfl, w2_34⟩
theorem fl_X8_177 : pm_FL RX8 177 1 6 (.array .int) true "WriterPace$Drives" := ⟨RX1, TX1, 9, tyX1, rfl, in_X1, tyX1_ok, nmX1, by decide, rfl, rfl, rfl, w2_38⟩
theorem fl_X8_180 : pm_FL RX8 180 1 7 (.array .int) true "WriterPace$Drives" := ⟨RX1, TX1, 9, tyX1, rfl, in_X1, tyX1_ok, nmX1, by decide, rfl, rfl, rfl, w2_41⟩
theorem fl_X8_183 : pm_FL RX8 183 2 8 .int false "WriterPace$Host" := ⟨RX2, TX2, 18, tyX2, rfl, in_X2, tyX2_ok, nmX2, by decide, rfl, rfl, rfl, w1_100⟩
theorem fl_X8_186 : pm_FL RX8 186 2 13 (.array .int) true "WriterPace$Host" := ⟨RX2, TX2, 18, tyX2, rfl, in_X2, tyX2_ok, nmX2, by decide, rfl, rfl, rfl, w1_114⟩
theorem fl_X8_189 : pm_FL RX8 189 6 1 (.array .int) true "WriterPace$State" := ⟨RX6, TX6, 14, tyX6, rfl, in_X6, tyX6_ok, nmX6, by decide, rfl, rfl, rfl, w2_70⟩
theorem fl_X8_201 : pm_FL RX8 201 2 14 (.array .int) true "WriterPace$Host" := ⟨RX2, TX2, 18, tyX2, rfl, in_X2, tyX2_ok, nmX2, by decide, rfl, rfl, rfl, w1_117⟩
theorem fl_X8_204 : pm_FL RX8 204 6 3 (.array .int) true "WriterPace$State" := ⟨RX6, TX6, 14, tyX6, rfl, in_X6, tyX6_ok, nmX6, by decide, rfl, rfl, rfl, w2_75⟩
theorem fl_X8_207 : pm_FL RX8 207 6 4 (.array .int) true "WriterPace$State" := ⟨RX6, TX6, 14, tyX6, rfl, in_X6, tyX6_ok, nmX6, by decide, rfl, rfl, rfl, w2_77⟩
theorem fl_X8_210 : pm_FL RX8 210 6 5 (.array .int) true "WriterPace$State" := ⟨RX6, TX6, 14, tyX6, rfl, in_X6, tyX6_ok, nmX6, by decide, rfl, rfl, rfl, w2_80⟩
theorem fl_X8_213 : pm_FL RX8 213 6 6 (.array .int) true "WriterPace$State" := ⟨RX6, TX6, 14, tyX6, rfl, in_X6, tyX6_ok, nmX6, by decide, rfl, rfl, rfl, w2_83⟩
theorem fl_X8_216 : pm_FL RX8 216 6 7 (.array .int) true "WriterPace$State" := ⟨RX6, TX6, 14, tyX6, rfl, in_X6, tyX6_ok, nmX6, by decide, rfl, rfl, rfl, w2_86⟩
theorem fl_X8_257 : pm_FL RX8 257 7 1 .boolean false "WriterPace$Tray" := ⟨RX7, TX7, 4, tyX7, rfl, in_X7, tyX7_ok, nmX7, by decide, rfl, rfl, rfl, w2_148⟩
theorem fl_X8_265 : pm_FL RX8 265 7 3 .int false "WriterPace$Tray" := ⟨RX7, TX7, 4, tyX7, rfl, in_X7, tyX7_ok, nmX7, by decide, rfl, rfl, rfl, w2_151⟩
theorem fl_X8_268 : pm_FL RX8 268 6 9 .int false "WriterPace$State" := ⟨RX6, TX6, 14, tyX6, rfl, in_X6, tyX6_ok, nmX6, by decide, rfl, rfl, rfl, w2_94⟩
theorem fl_X8_271 : pm_FL RX8 271 6 8 .int false "WriterPace$State" := ⟨RX6, TX6, 14, tyX6, rfl, in_X6, tyX6_ok, nmX6, by decide, rfl, rfl, rfl, w2_91⟩
theorem fl_X8_296 : pm_FL RX8 296 6 13 .boolean false "WriterPace$State" := ⟨RX6, TX6, 14, tyX6, rfl, in_X6, tyX6_ok, nmX6, by decide, rfl, rfl, rfl, w2_106⟩
theorem fl_X8_301 : pm_FL RX8 301 2 9 .int false "WriterPace$Host" := ⟨RX2, TX2, 18, tyX2, rfl, in_X2, tyX2_ok, nmX2, by decide, rfl, rfl, rfl, w1_105⟩
theorem fl_X8_316 : pm_FL RX8 316 6 10 .int false "WriterPace$State" := ⟨RX6, TX6, 14, tyX6, rfl, in_X6, tyX6_ok, nmX6, by decide, rfl, rfl, rfl, w2_97⟩
theorem fl_X8_334 : pm_FL RX8 334 2 7 .int false "WriterPace$Host" := ⟨RX2, TX2, 18, tyX2, rfl, in_X2, tyX2_ok, nmX2, by decide, rfl, rfl, rfl, w1_97⟩
theorem fl_X8_354 : pm_FL RX8 354 7 0 (.array .long) true "WriterPace$Tray" := ⟨RX7, TX7, 4, tyX7, rfl, in_X7, tyX7_ok, nmX7, by decide, rfl, rfl, rfl, w2_146⟩
theorem fl_X8_372 : pm_FL RX8 372 6 12 .int false "WriterPace$State" := ⟨RX6, TX6, 14, tyX6, rfl, in_X6, tyX6_ok, nmX6, by decide, rfl, rfl, rfl, w2_103⟩
theorem fl_X8_375 : pm_FL RX8 375 6 11 .int false "WriterPace$State" := ⟨RX6, TX6, 14, tyX6, rfl, in_X6, tyX6_ok, nmX6, by decide, rfl, rfl, rfl, w2_100⟩
theorem fl_X9_1 : pm_FL RX9 1 9 0 .int false "WriterPaceModel" := ⟨RX9, TX9, 38, tyX9, rfl, in_X9, tyX9_ok, nmX9, by decide, rfl, rfl, rfl, w5_173⟩
theorem fl_X9_13 : pm_FL RX9 13 9 1 (.array .int) true "WriterPaceModel" := ⟨RX9, TX9, 38, tyX9, rfl, in_X9, tyX9_ok, nmX9, by decide, rfl, rfl, rfl, w5_174⟩
theorem fl_X9_17 : pm_FL RX9 17 9 2 (.array .double) true "WriterPaceModel" := ⟨RX9, TX9, 38, tyX9, rfl, in_X9, tyX9_ok, nmX9, by decide, rfl, rfl, rfl, w5_175⟩
theorem fl_X9_21 : pm_FL RX9 21 9 3 (.array .boolean) true "WriterPaceModel" := ⟨RX9, TX9, 38, tyX9, rfl, in_X9, tyX9_ok, nmX9, by decide, rfl, rfl, rfl, w5_176⟩
theorem fl_X9_25 : pm_FL RX9 25 9 4 (.array .int) true "WriterPaceModel" := ⟨RX9, TX9, 38, tyX9, rfl, in_X9, tyX9_ok, nmX9, by decide, rfl, rfl, rfl, w5_177⟩
theorem fl_X9_28 : pm_FL RX9 28 9 5 (.array .int) true "WriterPaceModel" := ⟨RX9, TX9, 38, tyX9, rfl, in_X9, tyX9_ok, nmX9, by decide, rfl, rfl, rfl, w5_178⟩
theorem fl_X9_31 : pm_FL RX9 31 9 15 .int false "WriterPaceModel" := ⟨RX9, TX9, 38, tyX9, rfl, in_X9, tyX9_ok, nmX9, by decide, rfl, rfl, rfl, w5_188⟩
theorem fl_X9_34 : pm_FL RX9 34 9 17 (.array .int) true "WriterPaceModel" := ⟨RX9, TX9, 38, tyX9, rfl, in_X9, tyX9_ok, nmX9, by decide, rfl, rfl, rfl, w5_190⟩
theorem fl_X9_37 : pm_FL RX9 37 9 18 (.array .int) true "WriterPaceModel" := ⟨RX9, TX9, 38, tyX9, rfl, in_X9, tyX9_ok, nmX9, by decide, rfl, rfl, rfl, w5_191⟩
theorem fl_X9_40 : pm_FL RX9 40 9 19 (.array .int) true "WriterPaceModel" := ⟨RX9, TX9, 38, tyX9, rfl, in_X9, tyX9_ok, nmX9, by decide, rfl, rfl, rfl, w5_192⟩
theorem fl_X9_43 : pm_FL RX9 43 9 20 (.array .double) true "WriterPaceModel" := ⟨RX9, TX9, 38, tyX9, rfl, in_X9, tyX9_ok, nmX9, by decide, rfl, rfl, rfl, w5_193⟩
theorem fl_X9_46 : pm_FL RX9 46 9 26 (.array .int) true "WriterPaceModel" := ⟨RX9, TX9, 38, tyX9, rfl, in_X9, tyX9_ok, nmX9, by decide, rfl, rfl, rfl, w5_199⟩
theorem fl_X9_49 : pm_FL RX9 49 9 27 (.array .double) true "WriterPaceModel" := ⟨RX9, TX9, 38, tyX9, rfl, in_X9, tyX9_ok, nmX9, by decide, rfl, rfl, rfl, w5_200⟩
theorem fl_X9_52 : pm_FL RX9 52 9 30 (.array .int) true "WriterPaceModel" := ⟨RX9, TX9, 38, tyX9, rfl, in_X9, tyX9_ok, nmX9, by decide, rfl, rfl, rfl, w5_203⟩
theorem fl_X9_55 : pm_FL RX9 55 9 31 (.array .int) true "WriterPaceModel" := ⟨RX9, TX9, 38, tyX9, rfl, in_X9, tyX9_ok, nmX9, by decide, rfl, rfl, rfl, w5_204⟩
theorem fl_X9_58 : pm_FL RX9 58 9 32 (.array .double) true "WriterPaceModel" := ⟨RX9, TX9, 38, tyX9, rfl, in_X9, tyX9_ok, nmX9, by decide, rfl, rfl, rfl, w5_205⟩
theorem fl_X9_61 : pm_FL RX9 61 9 35 (.array .int) true "WriterPaceModel" := ⟨RX9, TX9, 38, tyX9, rfl, in_X9, tyX9_ok, nmX9, by decide, rfl, rfl, rfl, w5_208⟩
theorem fl_X9_64 : pm_FL RX9 64 9 36 (.array .int) true "WriterPaceModel" := ⟨RX9, TX9, 38, tyX9, rfl, in_X9, tyX9_ok, nmX9, by decide, rfl, rfl, rfl, w5_209⟩
theorem fl_X9_67 : pm_FL RX9 67 9 37 (.array .long) true "WriterPaceModel" := ⟨RX9, TX9, 38, tyX9, rfl, in_X9, tyX9_ok, nmX9, by decide, rfl, rfl, rfl, w5_210⟩
theorem fl_X9_75 : pm_FL RX9 75 9 6 .int false "WriterPaceModel" := ⟨RX9, TX9, 38, tyX9, rfl, in_X9, tyX9_ok, nmX9, by decide, rfl, rfl, rfl, w5_179⟩
theorem fl_X9_78 : pm_FL RX9 78 9 9 .int false "WriterPaceModel" := ⟨RX9, TX9, 38, tyX9, rfl, in_X9, tyX9_ok, nmX9, by decide, rfl, rfl, rfl, w5_182⟩
theorem fl_X9_93 : pm_FL RX9 93 9 7 .int false "WriterPaceModel" := ⟨RX9, TX9, 38, tyX9, rfl, in_X9, tyX9_ok, nmX9, by decide, rfl, rfl, rfl, w5_180⟩
theorem fl_X9_96 : pm_FL RX9 96 9 8 .int false "WriterPaceModel" := ⟨RX9, TX9, 38, tyX9, rfl, in_X9, tyX9_ok, nmX9, by decide, rfl, rfl, rfl, w5_181⟩
theorem fl_X9_103 : pm_FL RX9 103 9 10 .int false "WriterPaceModel" := ⟨RX9, TX9, 38, tyX9, rfl, in_X9, tyX9_ok, nmX9, by decide, rfl, rfl, rfl, w5_183⟩
theorem fl_X9_116 : pm_FL RX9 116 9 11 .int false "WriterPaceModel" := ⟨RX9, TX9, 38, tyX9, rfl, in_X9, tyX9_ok, nmX9, by decide, rfl, rfl, rfl, w5_184⟩
theorem fl_X9_121 : pm_FL RX9 121 9 12 .int false "WriterPaceModel" := ⟨RX9, TX9, 38, tyX9, rfl, in_X9, tyX9_ok, nmX9, by decide, rfl, rfl, rfl, w5_185⟩
theorem fl_X9_124 : pm_FL RX9 124 9 13 .int false "WriterPaceModel" := ⟨RX9, TX9, 38, tyX9, rfl, in_X9, tyX9_ok, nmX9, by decide, rfl, rfl, rfl, w5_186⟩
theorem fl_X9_141 : pm_FL RX9 141 9 16 .int false "WriterPaceModel" := ⟨RX9, TX9, 38, tyX9, rfl, in_X9, tyX9_ok, nmX9, by decide, rfl, rfl, rfl, w5_189⟩
theorem fl_X9_206 : pm_FL RX9 206 9 14 .int false "WriterPaceModel" := ⟨RX9, TX9, 38, tyX9, rfl, in_X9, tyX9_ok, nmX9, by decide, rfl, rfl, rfl, w5_187⟩
theorem fl_X9_216 : pm_FL RX9 216 9 21 .int false "WriterPaceModel" := ⟨RX9, TX9, 38, tyX9, rfl, in_X9, tyX9_ok, nmX9, by decide, rfl, rfl, rfl, w5_194⟩
theorem fl_X9_219 : pm_FL RX9 219 9 22 .int false "WriterPaceModel" := ⟨RX9, TX9, 38, tyX9, rfl, in_X9, tyX9_ok, nmX9, by decide, rfl, rfl, rfl, w5_195⟩
theorem fl_X9_222 : pm_FL RX9 222 9 23 .int false "WriterPaceModel" := ⟨RX9, TX9, 38, tyX9, rfl, in_X9, tyX9_ok, nmX9, by decide, rfl, rfl, rfl, w5_196⟩
theorem fl_X9_225 : pm_FL RX9 225 9 25 .boolean false "WriterPaceModel" := ⟨RX9, TX9, 38, tyX9, rfl, in_X9, tyX9_ok, nmX9, by decide, rfl, rfl, rfl, w5_198⟩
theorem fl_X9_232 : pm_FL RX9 232 9 24 .int false "WriterPaceModel" := ⟨RX9, TX9, 38, tyX9, rfl, in_X9, tyX9_ok, nmX9, by decide, rfl, rfl, rfl, w5_197⟩
theorem fl_X9_361 : pm_FL RX9 361 9 28 .int false "WriterPaceModel" := ⟨RX9, TX9, 38, tyX9, rfl, in_X9, tyX9_ok, nmX9, by decide, rfl, rfl, rfl, w5_201⟩
theorem fl_X9_383 : pm_FL RX9 383 9 29 .int false "WriterPaceModel" := ⟨RX9, TX9, 38, tyX9, rfl, in_X9, tyX9_ok, nmX9, by decide, rfl, rfl, rfl, w5_202⟩
theorem fl_X9_424 : pm_FL RX9 424 9 33 .long false "WriterPaceModel" := ⟨RX9, TX9, 38, tyX9, rfl, in_X9, tyX9_ok, nmX9, by decide, rfl, rfl, rfl, w5_206⟩
theorem fl_X9_428 : pm_FL RX9 428 9 34 .long false "WriterPaceModel" := ⟨RX9, TX9, 38, tyX9, rfl, in_X9, tyX9_ok, nmX9, by decide, rfl, rfl, rfl, w5_207⟩
theorem mi_X0_init : pm_MI mX0_init 1 := ⟨⟨w1_5, w1_213, by decide, by decide, by decide +kernel⟩, w1_212, rfl, rfl⟩
theorem mv_X0_forgetLaws : pm_MV mX0_forgetLaws 0 := ⟨⟨w1_5, w4_40, by decide, by decide, by decide +kernel⟩, w4_38, w4_39⟩
theorem mv_X0_run : pm_MV mX0_run 2 := ⟨⟨w1_5, w4_139, by decide, by decide, by decide +kernel⟩, w4_137, w4_138⟩
theorem mv_X0_writeOut : pm_MV mX0_writeOut 1 := ⟨⟨w1_5, w4_143, by decide, by decide, by decide +kernel⟩, w4_142, pm_sel (q := (yX0_writeOut, 2)) (by decide +kernel)⟩
theorem mv_X0_closeWindow : pm_MV mX0_closeWindow 1 := ⟨⟨w1_5, w4_172, by decide, by decide, by decide +kernel⟩, w4_171, pm_sel (q := (yX0_closeWindow, 2)) (by decide +kernel)⟩
theorem mv_X0_fillQueue : pm_MV mX0_fillQueue 2 := ⟨⟨w1_5, w4_177, by decide, by decide, by decide +kernel⟩, w4_176, pm_sel (q := (yX0_fillQueue, 2)) (by decide +kernel)⟩
theorem mv_X0_isOld : pm_MV mX0_isOld 2 := ⟨⟨w1_5, w4_83, by decide, by decide, by decide +kernel⟩, w4_81, w4_82⟩
theorem mv_X0_oldestFile : pm_MV mX0_oldestFile 2 := ⟨⟨w1_5, w4_99, by decide, by decide, by decide +kernel⟩, w4_97, w4_98⟩
theorem mv_X0_fileInTurn : pm_MV mX0_fileInTurn 2 := ⟨⟨w1_5, w4_104, by decide, by decide, by decide +kernel⟩, w4_102, w4_103⟩
theorem mv_X0_serve : pm_MV mX0_serve 2 := ⟨⟨w1_5, w4_183, by decide, by decide, by decide +kernel⟩, w4_182, pm_sel (q := (yX0_serve, 2)) (by decide +kernel)⟩
theorem mv_X0_freeOf : pm_MV mX0_freeOf 1 := ⟨⟨w1_5, w4_56, by decide, by decide, by decide +kernel⟩, w4_54, w4_55⟩
theorem mv_X0_pauseOf : pm_MV mX0_pauseOf 3 := ⟨⟨w1_5, w4_112, by decide, by decide, by decide +kernel⟩, w4_110, w4_111⟩
theorem ms_X0_fromZeroToTwo : pm_MS mX0_fromZeroToTwo 1 := ⟨⟨w1_5, w4_117, by decide, by decide, by decide +kernel⟩, w4_116⟩
theorem mv_X0_shareOf : pm_MV mX0_shareOf 2 := ⟨⟨w1_5, w4_70, by decide, by decide, by decide +kernel⟩, w4_68, w4_69⟩
theorem mi_X1_init : pm_MI mX1_init 0 := ⟨⟨w1_9, w2_14, by decide, by decide, by decide +kernel⟩, w2_13, rfl, rfl⟩
theorem mv_X1_begin : pm_MV mX1_begin 1 := ⟨⟨w1_9, w2_170, by decide, by decide, by decide +kernel⟩, w2_168, w2_169⟩
theorem mv_X1_copyFrom : pm_MV mX1_copyFrom 1 := ⟨⟨w1_9, w4_134, by decide, by decide, by decide +kernel⟩, w4_132, w4_133⟩
theorem mi_X2_init : pm_MI mX2_init 0 := ⟨⟨w1_2, w1_31, by decide, by decide, by decide +kernel⟩, w1_30, rfl, rfl⟩
theorem mv_X2_clear : pm_MV mX2_clear 0 := ⟨⟨w1_2, w3_10, by decide, by decide, by decide +kernel⟩, w3_8, w3_9⟩
theorem mv_X2_copyFrom : pm_MV mX2_copyFrom 1 := ⟨⟨w1_2, w4_30, by decide, by decide, by decide +kernel⟩, w4_28, w4_29⟩
theorem mv_X2_addDevice : pm_MV mX2_addDevice 1 := ⟨⟨w1_2, w3_184, by decide, by decide, by decide +kernel⟩, w3_182, w3_183⟩
theorem mv_X2_addFile : pm_MV mX2_addFile 1 := ⟨⟨w1_2, w3_194, by decide, by decide, by decide +kernel⟩, w3_192, w3_193⟩
theorem mv_X2_addWriter : pm_MV mX2_addWriter 2 := ⟨⟨w1_2, w3_205, by decide, by decide, by decide +kernel⟩, w3_203, w3_204⟩
theorem mi_X3_init : pm_MI mX3_init 0 := ⟨⟨w1_3, w1_37, by decide, by decide, by decide +kernel⟩, w1_36, rfl, rfl⟩
theorem mv_X3_clear : pm_MV mX3_clear 0 := ⟨⟨w1_3, w3_15, by decide, by decide, by decide +kernel⟩, w3_13, w3_14⟩
theorem mv_X3_copyFrom : pm_MV mX3_copyFrom 1 := ⟨⟨w1_3, w4_35, by decide, by decide, by decide +kernel⟩, w4_33, w4_34⟩
theorem mv_X3_append : pm_MV mX3_append 1 := ⟨⟨w1_3, w4_7, by decide, by decide, by decide +kernel⟩, w4_5, w4_6⟩
theorem mv_X3_enact : pm_MV mX3_enact 2 := ⟨⟨w1_3, w4_26, by decide, by decide, by decide +kernel⟩, w4_24, w4_25⟩
theorem mi_X4_init : pm_MI mX4_init 1 := ⟨⟨w1_6, w1_219, by decide, by decide, by decide +kernel⟩, w1_218, rfl, rfl⟩
theorem mv_X4_forget : pm_MV mX4_forget 0 := ⟨⟨w1_6, w4_44, by decide, by decide, by decide +kernel⟩, w4_42, w4_43⟩
theorem mv_X4_wantedBy : pm_MV mX4_wantedBy 2 := ⟨⟨w1_6, w4_187, by decide, by decide, by decide +kernel⟩, w4_185, w4_186⟩
theorem mv_X4_speedOf : pm_MV mX4_speedOf 2 := ⟨⟨w1_6, w4_147, by decide, by decide, by decide +kernel⟩, w4_145, w4_146⟩
theorem mv_X4_cellOf : pm_MV mX4_cellOf 3 := ⟨⟨w1_6, w4_151, by decide, by decide, by decide +kernel⟩, w4_150, pm_sel (q := (yX4_cellOf, 4)) (by decide +kernel)⟩
theorem mv_X4_reckon : pm_MV mX4_reckon 6 := ⟨⟨w1_6, w4_155, by decide, by decide, by decide +kernel⟩, w4_154, pm_sel (q := (yX4_reckon, 4)) (by decide +kernel)⟩
theorem ms_X4_join : pm_MS mX4_join 3 := ⟨⟨w1_6, w4_158, by decide, by decide, by decide +kernel⟩, w4_157⟩
theorem ms_X4_kept : pm_MS mX4_kept 1 := ⟨⟨w1_6, w4_161, by decide, by decide, by decide +kernel⟩, w4_160⟩
theorem mi_X5_init : pm_MI mX5_init 2 := ⟨⟨w1_4, w1_168, by decide, by decide, by decide +kernel⟩, w1_167, rfl, rfl⟩
theorem mv_X5_readText : pm_MV mX5_readText 1 := ⟨⟨w1_4, w3_3, by decide, by decide, by decide +kernel⟩, w3_1, w3_2⟩
theorem mv_X5_readHead : pm_MV mX5_readHead 0 := ⟨⟨w1_4, w3_117, by decide, by decide, by decide +kernel⟩, w3_116, pm_sel (q := (yX5_readHead, 12)) (by decide +kernel)⟩
theorem mv_X5_readLine : pm_MV mX5_readLine 0 := ⟨⟨w1_4, w3_174, by decide, by decide, by decide +kernel⟩, w3_173, pm_sel (q := (yX5_readLine, 12)) (by decide +kernel)⟩
theorem mv_X5_readDevice : pm_MV mX5_readDevice 0 := ⟨⟨w1_4, w3_179, by decide, by decide, by decide +kernel⟩, w3_178, pm_sel (q := (yX5_readDevice, 12)) (by decide +kernel)⟩
theorem mv_X5_readFile : pm_MV mX5_readFile 0 := ⟨⟨w1_4, w3_189, by decide, by decide, by decide +kernel⟩, w3_188, pm_sel (q := (yX5_readFile, 12)) (by decide +kernel)⟩
theorem mv_X5_readWriter : pm_MV mX5_readWriter 0 := ⟨⟨w1_4, w3_199, by decide, by decide, by decide +kernel⟩, w3_198, pm_sel (q := (yX5_readWriter, 12)) (by decide +kernel)⟩
theorem mv_X5_readLaw : pm_MV mX5_readLaw 1 := ⟨⟨w1_4, w3_209, by decide, by decide, by decide +kernel⟩, w3_208, pm_sel (q := (yX5_readLaw, 12)) (by decide +kernel)⟩
theorem mv_X5_readSum : pm_MV mX5_readSum 0 := ⟨⟨w1_4, w3_213, by decide, by decide, by decide +kernel⟩, w3_212, pm_sel (q := (yX5_readSum, 12)) (by decide +kernel)⟩
theorem mv_X5_readTerm : pm_MV mX5_readTerm 0 := ⟨⟨w1_4, w3_217, by decide, by decide, by decide +kernel⟩, w3_216, pm_sel (q := (yX5_readTerm, 12)) (by decide +kernel)⟩
theorem mv_X5_readAtom : pm_MV mX5_readAtom 0 := ⟨⟨w1_4, w3_221, by decide, by decide, by decide +kernel⟩, w3_220, pm_sel (q := (yX5_readAtom, 12)) (by decide +kernel)⟩
theorem mv_X5_itemOfAtom : pm_MV mX5_itemOfAtom 0 := ⟨⟨w1_4, w4_20, by decide, by decide, by decide +kernel⟩, w4_19, pm_sel (q := (yX5_itemOfAtom, 12)) (by decide +kernel)⟩
theorem mv_X5_readChoice : pm_MV mX5_readChoice 0 := ⟨⟨w1_4, w3_230, by decide, by decide, by decide +kernel⟩, w3_229, pm_sel (q := (yX5_readChoice, 12)) (by decide +kernel)⟩
theorem mv_X5_readTruth : pm_MV mX5_readTruth 0 := ⟨⟨w1_4, w3_234, by decide, by decide, by decide +kernel⟩, w3_233, pm_sel (q := (yX5_readTruth, 12)) (by decide +kernel)⟩
theorem mv_X5_readBoth : pm_MV mX5_readBoth 0 := ⟨⟨w1_4, w3_238, by decide, by decide, by decide +kernel⟩, w3_237, pm_sel (q := (yX5_readBoth, 12)) (by decide +kernel)⟩
theorem mv_X5_readUnit : pm_MV mX5_readUnit 0 := ⟨⟨w1_4, w4_2, by decide, by decide, by decide +kernel⟩, w4_1, pm_sel (q := (yX5_readUnit, 12)) (by decide +kernel)⟩
theorem mv_X5_readCompared : pm_MV mX5_readCompared 0 := ⟨⟨w1_4, w4_11, by decide, by decide, by decide +kernel⟩, w4_10, pm_sel (q := (yX5_readCompared, 12)) (by decide +kernel)⟩
theorem mv_X5_goDeeper : pm_MV mX5_goDeeper 0 := ⟨⟨w1_4, w3_225, by decide, by decide, by decide +kernel⟩, w3_224, pm_sel (q := (yX5_goDeeper, 12)) (by decide +kernel)⟩
theorem mv_X5_takeWord : pm_MV mX5_takeWord 1 := ⟨⟨w1_4, w3_122, by decide, by decide, by decide +kernel⟩, w3_121, pm_sel (q := (yX5_takeWord, 12)) (by decide +kernel)⟩
theorem mv_X5_takeSign : pm_MV mX5_takeSign 1 := ⟨⟨w1_4, w3_166, by decide, by decide, by decide +kernel⟩, w3_165, pm_sel (q := (yX5_takeSign, 12)) (by decide +kernel)⟩
theorem mv_X5_takeNumber : pm_MV mX5_takeNumber 2 := ⟨⟨w1_4, w3_156, by decide, by decide, by decide +kernel⟩, w3_155, pm_sel (q := (yX5_takeNumber, 12)) (by decide +kernel)⟩
theorem mv_X5_refuse : pm_MV mX5_refuse 1 := ⟨⟨w1_4, w3_151, by decide, by decide, by decide +kernel⟩, w3_150, pm_sel (q := (yX5_refuse, 12)) (by decide +kernel)⟩
theorem mv_X5_isWord : pm_MV mX5_isWord 1 := ⟨⟨w1_4, w3_126, by decide, by decide, by decide +kernel⟩, w3_125, pm_sel (q := (yX5_isWord, 12)) (by decide +kernel)⟩
theorem mv_X5_isSign : pm_MV mX5_isSign 1 := ⟨⟨w1_4, w3_170, by decide, by decide, by decide +kernel⟩, w3_169, pm_sel (q := (yX5_isSign, 12)) (by decide +kernel)⟩
theorem mv_X5_advance : pm_MV mX5_advance 0 := ⟨⟨w1_4, w3_19, by decide, by decide, by decide +kernel⟩, w3_18, pm_sel (q := (yX5_advance, 12)) (by decide +kernel)⟩
theorem ms_X5_isBlank : pm_MS mX5_isBlank 1 := ⟨⟨w1_4, w3_22, by decide, by decide, by decide +kernel⟩, w3_21⟩
theorem ms_X5_isLetter : pm_MS mX5_isLetter 1 := ⟨⟨w1_4, w3_25, by decide, by decide, by decide +kernel⟩, w3_24⟩
theorem ms_X5_isDigit : pm_MS mX5_isDigit 1 := ⟨⟨w1_4, w3_28, by decide, by decide, by decide +kernel⟩, w3_27⟩
theorem mi_X6_init : pm_MI mX6_init 0 := ⟨⟨w1_8, w2_8, by decide, by decide, by decide +kernel⟩, w2_7, rfl, rfl⟩
theorem mv_X6_begin : pm_MV mX6_begin 1 := ⟨⟨w1_8, w2_166, by decide, by decide, by decide +kernel⟩, w2_164, w2_165⟩
theorem mv_X6_copyFrom : pm_MV mX6_copyFrom 1 := ⟨⟨w1_8, w4_130, by decide, by decide, by decide +kernel⟩, w4_128, w4_129⟩
theorem mv_X6_ageOf : pm_MV mX6_ageOf 1 := ⟨⟨w1_8, w4_79, by decide, by decide, by decide +kernel⟩, w4_77, w4_78⟩
theorem mv_X6_dirtyInAll : pm_MV mX6_dirtyInAll 0 := ⟨⟨w1_8, w5_28, by decide, by decide, by decide +kernel⟩, w5_26, w5_27⟩
theorem mv_X6_writtenInAll : pm_MV mX6_writtenInAll 0 := ⟨⟨w1_8, w4_196, by decide, by decide, by decide +kernel⟩, w4_194, w4_195⟩
theorem mv_X6_madeInAll : pm_MV mX6_madeInAll 0 := ⟨⟨w1_8, w5_32, by decide, by decide, by decide +kernel⟩, w5_30, w5_31⟩
theorem mv_X6_heldInAll : pm_MV mX6_heldInAll 0 := ⟨⟨w1_8, w5_75, by decide, by decide, by decide +kernel⟩, w5_73, w5_74⟩
theorem ms_X6_sumOf : pm_MS mX6_sumOf 1 := ⟨⟨w1_8, w4_199, by decide, by decide, by decide +kernel⟩, w4_198⟩
theorem mi_X7_init : pm_MI mX7_init 0 := ⟨⟨w1_10, w2_143, by decide, by decide, by decide +kernel⟩, w2_142, rfl, rfl⟩
theorem mv_X7_begin : pm_MV mX7_begin 2 := ⟨⟨w1_10, w5_134, by decide, by decide, by decide +kernel⟩, w5_132, w5_133⟩
theorem mv_X7_put : pm_MV mX7_put 2 := ⟨⟨w1_10, w5_147, by decide, by decide, by decide +kernel⟩, w5_145, w5_146⟩
theorem mv_X7_hasBelowZero : pm_MV mX7_hasBelowZero 0 := ⟨⟨w1_10, w5_99, by decide, by decide, by decide +kernel⟩, w5_97, w5_98⟩
theorem mi_X8_init : pm_MI mX8_init 0 := ⟨⟨w1_1, w1_23, by decide, by decide, by decide +kernel⟩, w1_22, rfl, rfl⟩
theorem mv_X8_feed : pm_MV mX8_feed 5 := ⟨⟨w1_1, w2_231, by decide, by decide, by decide +kernel⟩, w2_229, w2_230⟩
theorem mv_X8_host : pm_MV mX8_host 1 := ⟨⟨w1_1, w2_239, by decide, by decide, by decide +kernel⟩, w2_237, w2_238⟩
theorem mv_X8_fault : pm_MV mX8_fault 1 := ⟨⟨w1_1, w4_48, by decide, by decide, by decide +kernel⟩, w4_46, w4_47⟩
theorem mv_X8_set : pm_MV mX8_set 1 := ⟨⟨w1_1, w4_52, by decide, by decide, by decide +kernel⟩, w4_50, w4_51⟩
theorem mv_X8_device : pm_MV mX8_device 2 := ⟨⟨w1_1, w4_60, by decide, by decide, by decide +kernel⟩, w4_58, w4_59⟩
theorem mv_X8_file : pm_MV mX8_file 2 := ⟨⟨w1_1, w4_75, by decide, by decide, by decide +kernel⟩, w4_73, w4_74⟩
theorem mv_X8_writer : pm_MV mX8_writer 2 := ⟨⟨w1_1, w4_87, by decide, by decide, by decide +kernel⟩, w4_85, w4_86⟩
theorem mv_X8_next : pm_MV mX8_next 1 := ⟨⟨w1_1, w4_95, by decide, by decide, by decide +kernel⟩, w4_93, w4_94⟩
theorem mv_X8_pause : pm_MV mX8_pause 2 := ⟨⟨w1_1, w4_108, by decide, by decide, by decide +kernel⟩, w4_106, w4_107⟩
theorem mv_X8_ticks : pm_MV mX8_ticks 1 := ⟨⟨w1_1, w4_123, by decide, by decide, by decide +kernel⟩, w4_121, w4_122⟩
theorem mv_X8_speed : pm_MV mX8_speed 2 := ⟨⟨w1_1, w4_203, by decide, by decide, by decide +kernel⟩, w4_201, w4_202⟩
theorem mv_X8_wants : pm_MV mX8_wants 2 := ⟨⟨w1_1, w4_211, by decide, by decide, by decide +kernel⟩, w4_209, w4_210⟩
theorem mv_X8_undo : pm_MV mX8_undo 1 := ⟨⟨w1_1, w4_219, by decide, by decide, by decide +kernel⟩, w4_217, w4_218⟩
theorem mv_X8_judge : pm_MV mX8_judge 2 := ⟨⟨w1_1, w4_223, by decide, by decide, by decide +kernel⟩, w4_221, w4_222⟩
theorem mv_X8_perform : pm_MV mX8_perform 1 := ⟨⟨w1_1, w5_3, by decide, by decide, by decide +kernel⟩, w5_1, w5_2⟩
theorem mv_X8_load : pm_MV mX8_load 2 := ⟨⟨w1_1, w5_7, by decide, by decide, by decide +kernel⟩, w5_5, w5_6⟩
theorem mv_X8_later : pm_MV mX8_later 2 := ⟨⟨w1_1, w5_20, by decide, by decide, by decide +kernel⟩, w5_18, w5_19⟩
theorem mv_X8_passes : pm_MV mX8_passes 1 := ⟨⟨w1_1, w5_36, by decide, by decide, by decide +kernel⟩, w5_34, w5_35⟩
theorem mv_X8_oldest : pm_MV mX8_oldest 1 := ⟨⟨w1_1, w5_40, by decide, by decide, by decide +kernel⟩, w5_38, w5_39⟩
theorem mv_X8_drains : pm_MV mX8_drains 0 := ⟨⟨w1_1, w5_45, by decide, by decide, by decide +kernel⟩, w5_43, w5_44⟩
theorem mv_X8_written : pm_MV mX8_written 2 := ⟨⟨w1_1, w5_49, by decide, by decide, by decide +kernel⟩, w5_47, w5_48⟩
theorem mv_X8_starved : pm_MV mX8_starved 2 := ⟨⟨w1_1, w5_53, by decide, by decide, by decide +kernel⟩, w5_51, w5_52⟩
theorem mv_X8_fair : pm_MV mX8_fair 2 := ⟨⟨w1_1, w5_57, by decide, by decide, by decide +kernel⟩, w5_55, w5_56⟩
theorem mv_X8_most : pm_MV mX8_most 2 := ⟨⟨w1_1, w5_66, by decide, by decide, by decide +kernel⟩, w5_64, w5_65⟩
theorem mv_X8_held : pm_MV mX8_held 1 := ⟨⟨w1_1, w5_71, by decide, by decide, by decide +kernel⟩, w5_69, w5_70⟩
theorem mv_X8_enough : pm_MV mX8_enough 1 := ⟨⟨w1_1, w5_79, by decide, by decide, by decide +kernel⟩, w5_77, w5_78⟩
theorem mv_X8_bears : pm_MV mX8_bears 2 := ⟨⟨w1_1, w5_87, by decide, by decide, by decide +kernel⟩, w5_85, w5_86⟩
theorem mv_X8_speeds : pm_MV mX8_speeds 3 := ⟨⟨w1_1, w5_95, by decide, by decide, by decide +kernel⟩, w5_93, w5_94⟩
theorem mv_X8_busiest : pm_MV mX8_busiest 1 := ⟨⟨w1_1, w5_111, by decide, by decide, by decide +kernel⟩, w5_109, w5_110⟩
theorem mv_X8_chance : pm_MV mX8_chance 3 := ⟨⟨w1_1, w5_115, by decide, by decide, by decide +kernel⟩, w5_113, w5_114⟩
theorem mv_X8_mean : pm_MV mX8_mean 2 := ⟨⟨w1_1, w5_126, by decide, by decide, by decide +kernel⟩, w5_124, w5_125⟩
theorem mv_X8_numbers : pm_MV mX8_numbers 3 := ⟨⟨w1_1, w5_130, by decide, by decide, by decide +kernel⟩, w5_128, w5_129⟩
theorem mv_X8_write : pm_MV mX8_write 3 := ⟨⟨w1_1, w5_141, by decide, by decide, by decide +kernel⟩, w5_139, w5_140⟩
theorem mv_X8_lists : pm_MV mX8_lists 2 := ⟨⟨w1_1, w5_151, by decide, by decide, by decide +kernel⟩, w5_149, w5_150⟩
theorem mv_X8_image : pm_MV mX8_image 1 := ⟨⟨w1_1, w5_155, by decide, by decide, by decide +kernel⟩, w5_153, w5_154⟩
theorem mv_X8_restore : pm_MV mX8_restore 1 := ⟨⟨w1_1, w5_159, by decide, by decide, by decide +kernel⟩, w5_157, w5_158⟩
theorem mv_X8_count : pm_MV mX8_count 1 := ⟨⟨w1_1, w5_163, by decide, by decide, by decide +kernel⟩, w5_161, w5_162⟩
theorem ms_X8_isWithin : pm_MS mX8_isWithin 3 := ⟨⟨w1_1, w4_126, by decide, by decide, by decide +kernel⟩, w4_125⟩
theorem ms_X8_isTray : pm_MS mX8_isTray 1 := ⟨⟨w1_1, w4_226, by decide, by decide, by decide +kernel⟩, w4_225⟩
theorem mv_X8_isDevice : pm_MV mX8_isDevice 1 := ⟨⟨w1_1, w4_64, by decide, by decide, by decide +kernel⟩, w4_63, pm_sel (q := (yX8_isDevice, 17)) (by decide +kernel)⟩
theorem mv_X8_isWriter : pm_MV mX8_isWriter 1 := ⟨⟨w1_1, w4_91, by decide, by decide, by decide +kernel⟩, w4_90, pm_sel (q := (yX8_isWriter, 17)) (by decide +kernel)⟩
theorem mv_X8_canTellSpeed : pm_MV mX8_canTellSpeed 2 := ⟨⟨w1_1, w4_207, by decide, by decide, by decide +kernel⟩, w4_206, pm_sel (q := (yX8_canTellSpeed, 17)) (by decide +kernel)⟩
theorem mv_X8_canTellWants : pm_MV mX8_canTellWants 2 := ⟨⟨w1_1, w4_215, by decide, by decide, by decide +kernel⟩, w4_214, pm_sel (q := (yX8_canTellWants, 17)) (by decide +kernel)⟩
theorem mv_X8_layOnTape : pm_MV mX8_layOnTape 1 := ⟨⟨w1_1, w2_235, by decide, by decide, by decide +kernel⟩, w2_234, pm_sel (q := (yX8_layOnTape, 17)) (by decide +kernel)⟩
theorem mv_X8_remember : pm_MV mX8_remember 0 := ⟨⟨w1_1, w4_192, by decide, by decide, by decide +kernel⟩, w4_191, pm_sel (q := (yX8_remember, 17)) (by decide +kernel)⟩
theorem mv_X8_doAll : pm_MV mX8_doAll 2 := ⟨⟨w1_1, w4_230, by decide, by decide, by decide +kernel⟩, w4_229, pm_sel (q := (yX8_doAll, 17)) (by decide +kernel)⟩
theorem mv_X8_doDeed : pm_MV mX8_doDeed 2 := ⟨⟨w1_1, w4_234, by decide, by decide, by decide +kernel⟩, w4_233, pm_sel (q := (yX8_doDeed, 17)) (by decide +kernel)⟩
theorem mv_X8_draw : pm_MV mX8_draw 0 := ⟨⟨w1_1, w5_15, by decide, by decide, by decide +kernel⟩, w5_14, pm_sel (q := (yX8_draw, 17)) (by decide +kernel)⟩
theorem mv_X8_drawDeed : pm_MV mX8_drawDeed 0 := ⟨⟨w1_1, w5_11, by decide, by decide, by decide +kernel⟩, w5_10, pm_sel (q := (yX8_drawDeed, 17)) (by decide +kernel)⟩
theorem mv_X8_goOn : pm_MV mX8_goOn 1 := ⟨⟨w1_1, w5_24, by decide, by decide, by decide +kernel⟩, w5_23, pm_sel (q := (yX8_goOn, 17)) (by decide +kernel)⟩
theorem mv_X8_nobodyIsHeld : pm_MV mX8_nobodyIsHeld 1 := ⟨⟨w1_1, w5_83, by decide, by decide, by decide +kernel⟩, w5_82, pm_sel (q := (yX8_nobodyIsHeld, 17)) (by decide +kernel)⟩
theorem mv_X8_isNeverHeld : pm_MV mX8_isNeverHeld 2 := ⟨⟨w1_1, w5_91, by decide, by decide, by decide +kernel⟩, w5_90, pm_sel (q := (yX8_isNeverHeld, 17)) (by decide +kernel)⟩
theorem mv_X8_wroteInSpan : pm_MV mX8_wroteInSpan 1 := ⟨⟨w1_1, w5_107, by decide, by decide, by decide +kernel⟩, w5_106, pm_sel (q := (yX8_wroteInSpan, 17)) (by decide +kernel)⟩
theorem mv_X8_fits : pm_MV mX8_fits 3 := ⟨⟨w1_1, w5_103, by decide, by decide, by decide +kernel⟩, w5_102, pm_sel (q := (yX8_fits, 17)) (by decide +kernel)⟩
theorem mv_X8_goStalled : pm_MV mX8_goStalled 2 := ⟨⟨w1_1, w5_122, by decide, by decide, by decide +kernel⟩, w5_121, pm_sel (q := (yX8_goStalled, 17)) (by decide +kernel)⟩
theorem ms_X8_power : pm_MS mX8_power 2 := ⟨⟨w1_1, w5_118, by decide, by decide, by decide +kernel⟩, w5_117⟩
theorem ms_X8_inLowestTerms : pm_MS mX8_inLowestTerms 3 := ⟨⟨w1_1, w5_62, by decide, by decide, by decide +kernel⟩, w5_61⟩
theorem ms_X9_within : pm_MS mX9_within 3 := ⟨⟨w1_12, w6_58, by decide, by decide, by decide +kernel⟩, w6_57⟩
theorem mi_X9_init : pm_MI mX9_init 0 := ⟨⟨w1_12, w5_168, by decide, by decide, by decide +kernel⟩, w5_167, rfl, rfl⟩
theorem ms_X9_plain : pm_MS mX9_plain 1 := ⟨⟨w1_12, w5_172, by decide, by decide, by decide +kernel⟩, w5_171⟩
theorem mv_X9_feed : pm_MV mX9_feed 5 := ⟨⟨w1_12, w6_51, by decide, by decide, by decide +kernel⟩, w6_49, w6_50⟩
theorem mv_X9_see : pm_MV mX9_see 1 := ⟨⟨w1_12, w6_66, by decide, by decide, by decide +kernel⟩, w6_65, pm_sel (q := (yX9_see, 38)) (by decide +kernel)⟩
theorem ms_X9_isSmall : pm_MS mX9_isSmall 1 := ⟨⟨w1_12, w6_69, by decide, by decide, by decide +kernel⟩, w6_68⟩
theorem ms_X9_isDigit : pm_MS mX9_isDigit 1 := ⟨⟨w1_12, w6_79, by decide, by decide, by decide +kernel⟩, w6_78⟩
theorem mv_X9_keyAt : pm_MV mX9_keyAt 0 := ⟨⟨w1_12, w6_73, by decide, by decide, by decide +kernel⟩, w6_72, pm_sel (q := (yX9_keyAt, 38)) (by decide +kernel)⟩
theorem mv_X9_steps : pm_MV mX9_steps 0 := ⟨⟨w1_12, w6_62, by decide, by decide, by decide +kernel⟩, w6_61, pm_sel (q := (yX9_steps, 38)) (by decide +kernel)⟩
theorem mv_X9_fails : pm_MV mX9_fails 1 := ⟨⟨w1_12, w6_96, by decide, by decide, by decide +kernel⟩, w6_95, pm_sel (q := (yX9_fails, 38)) (by decide +kernel)⟩
theorem mv_X9_is : pm_MV mX9_is 1 := ⟨⟨w1_12, w6_92, by decide, by decide, by decide +kernel⟩, w6_91, pm_sel (q := (yX9_is, 38)) (by decide +kernel)⟩
theorem mv_X9_eats : pm_MV mX9_eats 1 := ⟨⟨w1_12, w6_88, by decide, by decide, by decide +kernel⟩, w6_87, pm_sel (q := (yX9_eats, 38)) (by decide +kernel)⟩
theorem mv_X9_takes : pm_MV mX9_takes 2 := ⟨⟨w1_12, w6_104, by decide, by decide, by decide +kernel⟩, w6_103, pm_sel (q := (yX9_takes, 38)) (by decide +kernel)⟩
theorem mv_X9_wordOf : pm_MV mX9_wordOf 1 := ⟨⟨w1_12, w6_148, by decide, by decide, by decide +kernel⟩, w6_147, pm_sel (q := (yX9_wordOf, 38)) (by decide +kernel)⟩
theorem mv_X9_codes : pm_MV mX9_codes 1 := ⟨⟨w1_12, w6_144, by decide, by decide, by decide +kernel⟩, w6_143, pm_sel (q := (yX9_codes, 38)) (by decide +kernel)⟩
theorem mv_X9_goesIn : pm_MV mX9_goesIn 1 := ⟨⟨w1_12, w6_152, by decide, by decide, by decide +kernel⟩, w6_151, pm_sel (q := (yX9_goesIn, 38)) (by decide +kernel)⟩
theorem mv_X9_readAtom : pm_MV mX9_readAtom 1 := ⟨⟨w1_12, w6_140, by decide, by decide, by decide +kernel⟩, w6_139, pm_sel (q := (yX9_readAtom, 38)) (by decide +kernel)⟩
theorem mv_X9_readIf : pm_MV mX9_readIf 1 := ⟨⟨w1_12, w6_156, by decide, by decide, by decide +kernel⟩, w6_155, pm_sel (q := (yX9_readIf, 38)) (by decide +kernel)⟩
theorem mv_X9_readTerm : pm_MV mX9_readTerm 1 := ⟨⟨w1_12, w6_136, by decide, by decide, by decide +kernel⟩, w6_135, pm_sel (q := (yX9_readTerm, 38)) (by decide +kernel)⟩
theorem mv_X9_readSum : pm_MV mX9_readSum 1 := ⟨⟨w1_12, w6_132, by decide, by decide, by decide +kernel⟩, w6_131, pm_sel (q := (yX9_readSum, 38)) (by decide +kernel)⟩
theorem mv_X9_readUnit : pm_MV mX9_readUnit 1 := ⟨⟨w1_12, w6_168, by decide, by decide, by decide +kernel⟩, w6_167, pm_sel (q := (yX9_readUnit, 38)) (by decide +kernel)⟩
theorem mv_X9_readBoth : pm_MV mX9_readBoth 1 := ⟨⟨w1_12, w6_164, by decide, by decide, by decide +kernel⟩, w6_163, pm_sel (q := (yX9_readBoth, 38)) (by decide +kernel)⟩
theorem mv_X9_readTruth : pm_MV mX9_readTruth 1 := ⟨⟨w1_12, w6_160, by decide, by decide, by decide +kernel⟩, w6_159, pm_sel (q := (yX9_readTruth, 38)) (by decide +kernel)⟩
theorem mv_X9_named : pm_MV mX9_named 3 := ⟨⟨w1_12, w6_100, by decide, by decide, by decide +kernel⟩, w6_99, pm_sel (q := (yX9_named, 38)) (by decide +kernel)⟩
theorem mv_X9_readHost : pm_MV mX9_readHost 0 := ⟨⟨w1_12, w6_84, by decide, by decide, by decide +kernel⟩, w6_83, pm_sel (q := (yX9_readHost, 38)) (by decide +kernel)⟩
theorem mv_X9_readDevice : pm_MV mX9_readDevice 0 := ⟨⟨w1_12, w6_116, by decide, by decide, by decide +kernel⟩, w6_115, pm_sel (q := (yX9_readDevice, 38)) (by decide +kernel)⟩
theorem mv_X9_readFile : pm_MV mX9_readFile 0 := ⟨⟨w1_12, w6_120, by decide, by decide, by decide +kernel⟩, w6_119, pm_sel (q := (yX9_readFile, 38)) (by decide +kernel)⟩
theorem mv_X9_readWriter : pm_MV mX9_readWriter 0 := ⟨⟨w1_12, w6_124, by decide, by decide, by decide +kernel⟩, w6_123, pm_sel (q := (yX9_readWriter, 38)) (by decide +kernel)⟩
theorem mv_X9_readLaw : pm_MV mX9_readLaw 1 := ⟨⟨w1_12, w6_128, by decide, by decide, by decide +kernel⟩, w6_127, pm_sel (q := (yX9_readLaw, 38)) (by decide +kernel)⟩
theorem mv_X9_readLine : pm_MV mX9_readLine 0 := ⟨⟨w1_12, w6_112, by decide, by decide, by decide +kernel⟩, w6_111, pm_sel (q := (yX9_readLine, 38)) (by decide +kernel)⟩
theorem mv_X9_closes : pm_MV mX9_closes 0 := ⟨⟨w1_12, w6_108, by decide, by decide, by decide +kernel⟩, w6_107, pm_sel (q := (yX9_closes, 38)) (by decide +kernel)⟩
theorem mv_X9_host : pm_MV mX9_host 1 := ⟨⟨w1_12, w6_55, by decide, by decide, by decide +kernel⟩, w6_53, w6_54⟩
theorem mv_X9_fault : pm_MV mX9_fault 1 := ⟨⟨w1_12, w6_172, by decide, by decide, by decide +kernel⟩, w6_170, w6_171⟩
theorem mv_X9_isDevice : pm_MV mX9_isDevice 1 := ⟨⟨w1_12, w6_185, by decide, by decide, by decide +kernel⟩, w6_184, pm_sel (q := (yX9_isDevice, 38)) (by decide +kernel)⟩
theorem mv_X9_isFile : pm_MV mX9_isFile 1 := ⟨⟨w1_12, w6_211, by decide, by decide, by decide +kernel⟩, w6_210, pm_sel (q := (yX9_isFile, 38)) (by decide +kernel)⟩
theorem mv_X9_isWriter : pm_MV mX9_isWriter 1 := ⟨⟨w1_12, w6_223, by decide, by decide, by decide +kernel⟩, w6_222, pm_sel (q := (yX9_isWriter, 38)) (by decide +kernel)⟩
theorem mv_X9_deviceOf : pm_MV mX9_deviceOf 1 := ⟨⟨w1_12, w7_20, by decide, by decide, by decide +kernel⟩, w7_19, pm_sel (q := (yX9_deviceOf, 38)) (by decide +kernel)⟩
theorem ms_X9_between : pm_MS mX9_between 3 := ⟨⟨w1_12, w7_69, by decide, by decide, by decide +kernel⟩, w7_68⟩
theorem mv_X9_reckons : pm_MV mX9_reckons 1 := ⟨⟨w1_12, w7_66, by decide, by decide, by decide +kernel⟩, w7_65, pm_sel (q := (yX9_reckons, 38)) (by decide +kernel)⟩
theorem ms_X9_kept : pm_MS mX9_kept 3 := ⟨⟨w1_12, w7_74, by decide, by decide, by decide +kernel⟩, w7_73⟩
theorem mv_X9_begins : pm_MV mX9_begins 0 := ⟨⟨w1_12, w6_190, by decide, by decide, by decide +kernel⟩, w6_189, pm_sel (q := (yX9_begins, 38)) (by decide +kernel)⟩
theorem mv_X9_isSo : pm_MV mX9_isSo 0 := ⟨⟨w1_12, w7_95, by decide, by decide, by decide +kernel⟩, w7_94, pm_sel (q := (yX9_isSo, 38)) (by decide +kernel)⟩
theorem mv_X9_sumOf : pm_MV mX9_sumOf 2 := ⟨⟨w1_12, w6_203, by decide, by decide, by decide +kernel⟩, w6_202, pm_sel (q := (yX9_sumOf, 38)) (by decide +kernel)⟩
theorem mv_X9_allNow : pm_MV mX9_allNow 0 := ⟨⟨w1_12, w6_239, by decide, by decide, by decide +kernel⟩, w6_238, pm_sel (q := (yX9_allNow, 38)) (by decide +kernel)⟩
theorem mv_X9_dirtyOn : pm_MV mX9_dirtyOn 1 := ⟨⟨w1_12, w6_194, by decide, by decide, by decide +kernel⟩, w6_193, pm_sel (q := (yX9_dirtyOn, 38)) (by decide +kernel)⟩
theorem mv_X9_laysWords : pm_MV mX9_laysWords 3 := ⟨⟨w1_12, w7_62, by decide, by decide, by decide +kernel⟩, w7_61, pm_sel (q := (yX9_laysWords, 38)) (by decide +kernel)⟩
theorem mv_X9_speedNow : pm_MV mX9_speedNow 1 := ⟨⟨w1_12, w7_58, by decide, by decide, by decide +kernel⟩, w7_57, pm_sel (q := (yX9_speedNow, 38)) (by decide +kernel)⟩
theorem mv_X9_wantsNow : pm_MV mX9_wantsNow 1 := ⟨⟨w1_12, w7_91, by decide, by decide, by decide +kernel⟩, w7_90, pm_sel (q := (yX9_wantsNow, 38)) (by decide +kernel)⟩
theorem mv_X9_writesOut : pm_MV mX9_writesOut 1 := ⟨⟨w1_12, w7_54, by decide, by decide, by decide +kernel⟩, w7_53, pm_sel (q := (yX9_writesOut, 38)) (by decide +kernel)⟩
theorem mv_X9_estimates : pm_MV mX9_estimates 1 := ⟨⟨w1_12, w7_78, by decide, by decide, by decide +kernel⟩, w7_77, pm_sel (q := (yX9_estimates, 38)) (by decide +kernel)⟩
theorem mv_X9_isOld : pm_MV mX9_isOld 1 := ⟨⟨w1_12, w6_215, by decide, by decide, by decide +kernel⟩, w6_214, pm_sel (q := (yX9_isOld, 38)) (by decide +kernel)⟩
theorem mv_X9_oldOn : pm_MV mX9_oldOn 1 := ⟨⟨w1_12, w6_235, by decide, by decide, by decide +kernel⟩, w6_234, pm_sel (q := (yX9_oldOn, 38)) (by decide +kernel)⟩
theorem mv_X9_turnOn : pm_MV mX9_turnOn 1 := ⟨⟨w1_12, w7_3, by decide, by decide, by decide +kernel⟩, w7_2, pm_sel (q := (yX9_turnOn, 38)) (by decide +kernel)⟩
theorem mv_X9_nextOn : pm_MV mX9_nextOn 1 := ⟨⟨w1_12, w6_231, by decide, by decide, by decide +kernel⟩, w6_230, pm_sel (q := (yX9_nextOn, 38)) (by decide +kernel)⟩
theorem mv_X9_takesUp : pm_MV mX9_takesUp 1 := ⟨⟨w1_12, w7_83, by decide, by decide, by decide +kernel⟩, w7_82, pm_sel (q := (yX9_takesUp, 38)) (by decide +kernel)⟩
theorem mv_X9_freeNow : pm_MV mX9_freeNow 0 := ⟨⟨w1_12, w7_12, by decide, by decide, by decide +kernel⟩, w7_11, pm_sel (q := (yX9_freeNow, 38)) (by decide +kernel)⟩
theorem mv_X9_shareOf : pm_MV mX9_shareOf 1 := ⟨⟨w1_12, w6_199, by decide, by decide, by decide +kernel⟩, w6_198, pm_sel (q := (yX9_shareOf, 38)) (by decide +kernel)⟩
theorem ms_X9_keptIn : pm_MS mX9_keptIn 3 := ⟨⟨w1_12, w7_24, by decide, by decide, by decide +kernel⟩, w7_23⟩
theorem mv_X9_pauseOf : pm_MV mX9_pauseOf 2 := ⟨⟨w1_12, w7_16, by decide, by decide, by decide +kernel⟩, w7_15, pm_sel (q := (yX9_pauseOf, 38)) (by decide +kernel)⟩
theorem mv_X9_writes : pm_MV mX9_writes 1 := ⟨⟨w1_12, w7_87, by decide, by decide, by decide +kernel⟩, w7_86, pm_sel (q := (yX9_writes, 38)) (by decide +kernel)⟩
theorem mv_X9_ticksOnce : pm_MV mX9_ticksOnce 0 := ⟨⟨w1_12, w7_50, by decide, by decide, by decide +kernel⟩, w7_49, pm_sel (q := (yX9_ticksOnce, 38)) (by decide +kernel)⟩
theorem mv_X9_ticksFor : pm_MV mX9_ticksFor 1 := ⟨⟨w1_12, w7_46, by decide, by decide, by decide +kernel⟩, w7_45, pm_sel (q := (yX9_ticksFor, 38)) (by decide +kernel)⟩
theorem mv_X9_wroteInAll : pm_MV mX9_wroteInAll 0 := ⟨⟨w1_12, w7_42, by decide, by decide, by decide +kernel⟩, w7_41, pm_sel (q := (yX9_wroteInAll, 38)) (by decide +kernel)⟩
theorem mv_X9_set : pm_MV mX9_set 1 := ⟨⟨w1_12, w6_176, by decide, by decide, by decide +kernel⟩, w6_174, w6_175⟩
theorem mv_X9_device : pm_MV mX9_device 2 := ⟨⟨w1_12, w6_181, by decide, by decide, by decide +kernel⟩, w6_179, w6_180⟩
theorem mv_X9_file : pm_MV mX9_file 2 := ⟨⟨w1_12, w6_207, by decide, by decide, by decide +kernel⟩, w6_205, w6_206⟩
theorem mv_X9_writer : pm_MV mX9_writer 2 := ⟨⟨w1_12, w6_219, by decide, by decide, by decide +kernel⟩, w6_217, w6_218⟩
theorem mv_X9_next : pm_MV mX9_next 1 := ⟨⟨w1_12, w6_227, by decide, by decide, by decide +kernel⟩, w6_225, w6_226⟩
theorem mv_X9_pause : pm_MV mX9_pause 2 := ⟨⟨w1_12, w7_7, by decide, by decide, by decide +kernel⟩, w7_5, w7_6⟩
theorem mv_X9_stores : pm_MV mX9_stores 0 := ⟨⟨w1_12, w7_34, by decide, by decide, by decide +kernel⟩, w7_33, pm_sel (q := (yX9_stores, 38)) (by decide +kernel)⟩
theorem mv_X9_isAgain : pm_MV mX9_isAgain 0 := ⟨⟨w1_12, w7_143, by decide, by decide, by decide +kernel⟩, w7_142, pm_sel (q := (yX9_isAgain, 38)) (by decide +kernel)⟩
theorem mv_X9_notes : pm_MV mX9_notes 0 := ⟨⟨w1_12, w7_99, by decide, by decide, by decide +kernel⟩, w7_98, pm_sel (q := (yX9_notes, 38)) (by decide +kernel)⟩
theorem mv_X9_goesTicks : pm_MV mX9_goesTicks 1 := ⟨⟨w1_12, w7_38, by decide, by decide, by decide +kernel⟩, w7_37, pm_sel (q := (yX9_goesTicks, 38)) (by decide +kernel)⟩
theorem mv_X9_ticks : pm_MV mX9_ticks 1 := ⟨⟨w1_12, w7_29, by decide, by decide, by decide +kernel⟩, w7_27, w7_28⟩
theorem mv_X9_speed : pm_MV mX9_speed 2 := ⟨⟨w1_12, w7_103, by decide, by decide, by decide +kernel⟩, w7_101, w7_102⟩
theorem mv_X9_wants : pm_MV mX9_wants 2 := ⟨⟨w1_12, w7_107, by decide, by decide, by decide +kernel⟩, w7_105, w7_106⟩
theorem mv_X9_undo : pm_MV mX9_undo 1 := ⟨⟨w1_12, w7_111, by decide, by decide, by decide +kernel⟩, w7_109, w7_110⟩
theorem mv_X9_whyNot : pm_MV mX9_whyNot 1 := ⟨⟨w1_12, w7_129, by decide, by decide, by decide +kernel⟩, w7_128, pm_sel (q := (yX9_whyNot, 38)) (by decide +kernel)⟩
theorem mv_X9_does : pm_MV mX9_does 1 := ⟨⟨w1_12, w7_139, by decide, by decide, by decide +kernel⟩, w7_138, pm_sel (q := (yX9_does, 38)) (by decide +kernel)⟩
theorem mv_X9_tells : pm_MV mX9_tells 1 := ⟨⟨w1_12, w7_125, by decide, by decide, by decide +kernel⟩, w7_124, pm_sel (q := (yX9_tells, 38)) (by decide +kernel)⟩
theorem mv_X9_noTray : pm_MV mX9_noTray 1 := ⟨⟨w1_12, w7_121, by decide, by decide, by decide +kernel⟩, w7_120, pm_sel (q := (yX9_noTray, 38)) (by decide +kernel)⟩
theorem mv_X9_judge : pm_MV mX9_judge 2 := ⟨⟨w1_12, w7_116, by decide, by decide, by decide +kernel⟩, w7_114, w7_115⟩
theorem mv_X9_perform : pm_MV mX9_perform 1 := ⟨⟨w1_12, w7_147, by decide, by decide, by decide +kernel⟩, w7_145, w7_146⟩
theorem mv_X9_draw : pm_MV mX9_draw 1 := ⟨⟨w1_12, w7_160, by decide, by decide, by decide +kernel⟩, w7_159, pm_sel (q := (yX9_draw, 38)) (by decide +kernel)⟩
theorem mv_X9_drawn : pm_MV mX9_drawn 0 := ⟨⟨w1_12, w7_156, by decide, by decide, by decide +kernel⟩, w7_155, pm_sel (q := (yX9_drawn, 38)) (by decide +kernel)⟩
theorem mv_X9_load : pm_MV mX9_load 2 := ⟨⟨w1_12, w7_151, by decide, by decide, by decide +kernel⟩, w7_149, w7_150⟩
theorem mv_X9_later : pm_MV mX9_later 2 := ⟨⟨w1_12, w7_165, by decide, by decide, by decide +kernel⟩, w7_163, w7_164⟩
theorem mv_X9_passes : pm_MV mX9_passes 1 := ⟨⟨w1_12, w7_170, by decide, by decide, by decide +kernel⟩, w7_168, w7_169⟩
theorem mv_X9_oldest : pm_MV mX9_oldest 1 := ⟨⟨w1_12, w7_174, by decide, by decide, by decide +kernel⟩, w7_172, w7_173⟩
theorem mv_X9_drains : pm_MV mX9_drains 0 := ⟨⟨w1_12, w7_178, by decide, by decide, by decide +kernel⟩, w7_176, w7_177⟩
theorem mv_X9_written : pm_MV mX9_written 2 := ⟨⟨w1_12, w7_182, by decide, by decide, by decide +kernel⟩, w7_180, w7_181⟩
theorem mv_X9_starved : pm_MV mX9_starved 2 := ⟨⟨w1_12, w7_187, by decide, by decide, by decide +kernel⟩, w7_185, w7_186⟩
theorem mv_X9_laysPages : pm_MV mX9_laysPages 1 := ⟨⟨w1_12, w7_196, by decide, by decide, by decide +kernel⟩, w7_195, pm_sel (q := (yX9_laysPages, 38)) (by decide +kernel)⟩
theorem ms_X9_common : pm_MS mX9_common 2 := ⟨⟨w1_12, w7_200, by decide, by decide, by decide +kernel⟩, w7_199⟩
theorem mv_X9_fair : pm_MV mX9_fair 2 := ⟨⟨w1_12, w7_191, by decide, by decide, by decide +kernel⟩, w7_189, w7_190⟩
theorem mv_X9_most : pm_MV mX9_most 2 := ⟨⟨w1_12, w7_204, by decide, by decide, by decide +kernel⟩, w7_202, w7_203⟩
theorem mv_X9_held : pm_MV mX9_held 1 := ⟨⟨w1_12, w7_210, by decide, by decide, by decide +kernel⟩, w7_208, w7_209⟩
theorem mv_X9_enough : pm_MV mX9_enough 1 := ⟨⟨w1_12, w7_214, by decide, by decide, by decide +kernel⟩, w7_212, w7_213⟩
theorem mv_X9_bears : pm_MV mX9_bears 2 := ⟨⟨w1_12, w7_218, by decide, by decide, by decide +kernel⟩, w7_216, w7_217⟩
theorem mv_X9_noWrote : pm_MV mX9_noWrote 1 := ⟨⟨w1_12, w7_226, by decide, by decide, by decide +kernel⟩, w7_225, pm_sel (q := (yX9_noWrote, 38)) (by decide +kernel)⟩
theorem mv_X9_spanOf : pm_MV mX9_spanOf 1 := ⟨⟨w1_12, w7_235, by decide, by decide, by decide +kernel⟩, w7_234, pm_sel (q := (yX9_spanOf, 38)) (by decide +kernel)⟩
theorem mv_X9_isWrote : pm_MV mX9_isWrote 3 := ⟨⟨w1_12, w7_231, by decide, by decide, by decide +kernel⟩, w7_230, pm_sel (q := (yX9_isWrote, 38)) (by decide +kernel)⟩
theorem mv_X9_speeds : pm_MV mX9_speeds 3 := ⟨⟨w1_12, w7_222, by decide, by decide, by decide +kernel⟩, w7_220, w7_221⟩
theorem mv_X9_busiest : pm_MV mX9_busiest 1 := ⟨⟨w1_12, w7_239, by decide, by decide, by decide +kernel⟩, w7_237, w7_238⟩
theorem mv_X9_goesLots : pm_MV mX9_goesLots 3 := ⟨⟨w1_12, w8_11, by decide, by decide, by decide +kernel⟩, w8_10, pm_sel (q := (yX9_goesLots, 38)) (by decide +kernel)⟩
theorem mv_X9_laysLots : pm_MV mX9_laysLots 2 := ⟨⟨w1_12, w8_7, by decide, by decide, by decide +kernel⟩, w8_6, pm_sel (q := (yX9_laysLots, 38)) (by decide +kernel)⟩
theorem ms_X9_wholeOf : pm_MS mX9_wholeOf 1 := ⟨⟨w1_12, w8_14, by decide, by decide, by decide +kernel⟩, w8_13⟩
theorem ms_X9_part : pm_MS mX9_part 3 := ⟨⟨w1_12, w8_17, by decide, by decide, by decide +kernel⟩, w8_16⟩
theorem mv_X9_chance : pm_MV mX9_chance 3 := ⟨⟨w1_12, w8_3, by decide, by decide, by decide +kernel⟩, w8_1, w8_2⟩
theorem mv_X9_mean : pm_MV mX9_mean 2 := ⟨⟨w1_12, w8_21, by decide, by decide, by decide +kernel⟩, w8_19, w8_20⟩
theorem ms_X9_cut : pm_MS mX9_cut 2 := ⟨⟨w1_12, w8_34, by decide, by decide, by decide +kernel⟩, w8_33⟩
theorem mv_X9_numbers : pm_MV mX9_numbers 3 := ⟨⟨w1_12, w8_25, by decide, by decide, by decide +kernel⟩, w8_23, w8_24⟩
theorem mv_X9_write : pm_MV mX9_write 3 := ⟨⟨w1_12, w8_30, by decide, by decide, by decide +kernel⟩, w8_28, w8_29⟩
theorem mv_X9_lists : pm_MV mX9_lists 2 := ⟨⟨w1_12, w8_38, by decide, by decide, by decide +kernel⟩, w8_36, w8_37⟩
theorem mv_X9_image : pm_MV mX9_image 1 := ⟨⟨w1_12, w8_42, by decide, by decide, by decide +kernel⟩, w8_40, w8_41⟩
theorem mv_X9_restore : pm_MV mX9_restore 1 := ⟨⟨w1_12, w8_46, by decide, by decide, by decide +kernel⟩, w8_44, w8_45⟩
theorem mv_X9_count : pm_MV mX9_count 1 := ⟨⟨w1_12, w8_50, by decide, by decide, by decide +kernel⟩, w8_48, w8_49⟩
theorem ms_J11_isValidCodePoint_9a6ad : pm_MS mJ11_isValidCodePoint_9a6ad 1 := ⟨⟨w1_18, w3_105, by decide, by decide, by decide +kernel⟩, w3_104⟩
theorem ms_J11_highSurrogate_5068e : pm_MS mJ11_highSurrogate_5068e 1 := ⟨⟨w1_18, w3_108, by decide, by decide, by decide +kernel⟩, w3_107⟩
theorem ms_J11_lowSurrogate_5068e : pm_MS mJ11_lowSurrogate_5068e 1 := ⟨⟨w1_18, w3_112, by decide, by decide, by decide +kernel⟩, w3_111⟩
theorem ms_J9_max_7cf53 : pm_MS mJ9_max_7cf53 2 := ⟨⟨w1_13, w3_60, by decide, by decide, by decide +kernel⟩, w3_59⟩
theorem ms_J9_min_7cf53 : pm_MS mJ9_min_7cf53 2 := ⟨⟨w1_13, w3_6, by decide, by decide, by decide +kernel⟩, w3_5⟩
theorem mv_J0_length_8abf5 : pm_MV mJ0_length_8abf5 0 := ⟨⟨w1_14, w3_47, by decide, by decide, by decide +kernel⟩, w3_45, w3_46⟩
theorem mv_J0_charAt_5068e : pm_MV mJ0_charAt_5068e 1 := ⟨⟨w1_14, w3_131, by decide, by decide, by decide +kernel⟩, w3_129, w3_130⟩
theorem mv_J0_indexOf_0f7a4 : pm_MV mJ0_indexOf_0f7a4 1 := ⟨⟨w1_14, w3_33, by decide, by decide, by decide +kernel⟩, w3_31, w3_32⟩
theorem mv_J0_indexOf_7cf53 : pm_MV mJ0_indexOf_7cf53 2 := ⟨⟨w1_14, w3_37, by decide, by decide, by decide +kernel⟩, w3_35, w3_36⟩
theorem mv_J0_coder_7d493 : pm_MV mJ0_coder_7d493 0 := ⟨⟨w1_14, w3_51, by decide, by decide, by decide +kernel⟩, w3_49, w3_50⟩
theorem mv_J0_isLatin1_aae02 : pm_MV mJ0_isLatin1_aae02 0 := ⟨⟨w1_14, w3_41, by decide, by decide, by decide +kernel⟩, w3_39, w3_40⟩
theorem ms_J0_checkIndex_df160 : pm_MS mJ0_checkIndex_df160 2 := ⟨⟨w1_14, w3_137, by decide, by decide, by decide +kernel⟩, w3_136⟩
theorem ms_J0_checkBoundsBeginEnd_23922 : pm_MS mJ0_checkBoundsBeginEnd_23922 3 := ⟨⟨w1_14, w3_82, by decide, by decide, by decide +kernel⟩, w3_81⟩
theorem ms_J1_charAt_3b067 : pm_MS mJ1_charAt_3b067 2 := ⟨⟨w1_15, w3_134, by decide, by decide, by decide +kernel⟩, w3_133⟩
theorem ms_J1_canEncode_9a6ad : pm_MS mJ1_canEncode_9a6ad 1 := ⟨⟨w1_15, w3_57, by decide, by decide, by decide +kernel⟩, w3_56⟩
theorem ms_J1_indexOf_4cfef : pm_MS mJ1_indexOf_4cfef 4 := ⟨⟨w1_15, w3_54, by decide, by decide, by decide +kernel⟩, w3_53⟩
theorem ms_J1_indexOfChar_4cfef : pm_MS mJ1_indexOfChar_4cfef 4 := ⟨⟨w1_15, w3_64, by decide, by decide, by decide +kernel⟩, w3_63⟩
theorem ms_J2_getChar_3b067 : pm_MS mJ2_getChar_3b067 2 := ⟨⟨w1_16, w3_93, by decide, by decide, by decide +kernel⟩, w3_92⟩
theorem ms_J2_length_9d52b : pm_MS mJ2_length_9d52b 1 := ⟨⟨w1_16, w3_79, by decide, by decide, by decide +kernel⟩, w3_78⟩
theorem ms_J2_indexOf_4cfef : pm_MS mJ2_indexOf_4cfef 4 := ⟨⟨w1_16, w3_67, by decide, by decide, by decide +kernel⟩, w3_66⟩
theorem ms_J2_indexOfChar_4cfef : pm_MS mJ2_indexOfChar_4cfef 4 := ⟨⟨w1_16, w3_73, by decide, by decide, by decide +kernel⟩, w3_72⟩
theorem ms_J2_indexOfCharUnsafe_4cfef : pm_MS mJ2_indexOfCharUnsafe_4cfef 4 := ⟨⟨w1_16, w3_90, by decide, by decide, by decide +kernel⟩, w3_89⟩
theorem ms_J2_indexOfSupplementary_4cfef : pm_MS mJ2_indexOfSupplementary_4cfef 4 := ⟨⟨w1_16, w3_102, by decide, by decide, by decide +kernel⟩, w3_101⟩
theorem ms_J2_charAt_3b067 : pm_MS mJ2_charAt_3b067 2 := ⟨⟨w1_16, w3_143, by decide, by decide, by decide +kernel⟩, w3_142⟩
theorem ms_J2_checkIndex_2214a : pm_MS mJ2_checkIndex_2214a 2 := ⟨⟨w1_16, w3_146, by decide, by decide, by decide +kernel⟩, w3_145⟩
theorem ms_J2_checkBoundsBeginEnd_d044e : pm_MS mJ2_checkBoundsBeginEnd_d044e 3 := ⟨⟨w1_16, w3_76, by decide, by decide, by decide +kernel⟩, w3_75⟩
theorem ms_J7_fill_d0a16 : pm_MS mJ7_fill_d0a16 2 := ⟨⟨w1_7, w5_137, by decide, by decide, by decide +kernel⟩, w5_136⟩
theorem ms_J7_fill_53178 : pm_MS mJ7_fill_53178 2 := ⟨⟨w1_7, w1_223, by decide, by decide, by decide +kernel⟩, w1_222⟩
theorem ms_J3_checkIndex_8e157 : pm_MS mJ3_checkIndex_8e157 3 := ⟨⟨w1_17, w3_140, by decide, by decide, by decide +kernel⟩, w3_139⟩
theorem ms_J3_checkFromToIndex_8c36e : pm_MS mJ3_checkFromToIndex_8c36e 4 := ⟨⟨w1_17, w3_87, by decide, by decide, by decide +kernel⟩, w3_86⟩
