def mXL_0 : List mX := [mx_0, mx_1, mx_2, mx_3, mx_4, mx_5, mx_6, mx_7, mx_8, mx_9, mx_10, mx_11, mx_12, mx_13, mx_14, mx_15]
def mXL_1 : List mX := [mx_16, mx_17, mx_18, mx_19, mx_20, mx_21, mx_22, mx_23, mx_24, mx_25, mx_26, mx_27, mx_28, mx_29, mx_30, mx_31]
def mXL_2 : List mX := [mx_32, mx_33, mx_34, mx_35, mx_36, mx_37, mx_38, mx_39, mx_40, mx_41, mx_42, mx_43, mx_44, mx_45, mx_46, mx_47]
def mXL_3 : List mX := [mx_48, mx_49, mx_50, mx_51, mx_52, mx_53, mx_54, mx_55, mx_56, mx_57, mx_58, mx_59, mx_60, mx_61, mx_62, mx_63]
def mXL_4 : List mX := [mx_64, mx_65, mx_66, mx_67, mx_68, mx_69, mx_70, mx_71, mx_72, mx_73, mx_74, mx_75, mx_76, mx_77, mx_78, mx_79]
def mXL_5 : List mX := [mx_80, mx_81, mx_82, mx_83, mx_84, mx_85, mx_86, mx_87, mx_88, mx_89, mx_90, mx_91, mx_92, mx_93, mx_94, mx_95]
def mXL_6 : List mX := [mx_96, mx_97, mx_98, mx_99, mx_100, mx_101, mx_102, mx_103, mx_104, mx_105, mx_106, mx_107, mx_108, mx_109, mx_110, mx_111]
def mXL_7 : List mX := [mx_112, mx_113, mx_114, mx_115, mx_116, mx_117, mx_118, mx_119, mx_120, mx_121, mx_122, mx_123, mx_124, mx_125, mx_126, mx_127]
def mXL_8 : List mX := [mx_128, mx_129, mx_130, mx_131, mx_132, mx_133, mx_134, mx_135, mx_136, mx_137, mx_138, mx_139, mx_140, mx_141, mx_142, mx_143]
def mXL_9 : List mX := [mx_144, mx_145, mx_146, mx_147, mx_148, mx_149, mx_150, mx_151, mx_152, mx_153, mx_154, mx_155, mx_156, mx_157, mx_158, mx_159]
def mXL_10 : List mX := [mx_160, mx_161, mx_162, mx_163, mx_164, mx_165, mx_166, mx_167, mx_168, mx_169, mx_170, mx_171, mx_172, mx_173, mx_174, mx_175]
def mXL_11 : List mX := [mx_176, mx_177, mx_178, mx_179, mx_180, mx_181, mx_182, mx_183, mx_184, mx_185, mx_186, mx_187, mx_188, mx_189, mx_190, mx_191]
def mXL_12 : List mX := [mx_192, mx_193, mx_194, mx_195, mx_196, mx_197, mx_198, mx_199, mx_200, mx_201, mx_202, mx_203, mx_204, mx_205, mx_206, mx_207]
def mXL_13 : List mX := [mx_208, mx_209, mx_210, mx_211, mx_212, mx_213, mx_214, mx_215, mx_216, mx_217, mx_218, mx_219, mx_220, mx_221, mx_222, mx_223]
def mXL_14 : List mX := [mx_224, mx_225, mx_226, mx_227, mx_228, mx_229, mx_230, mx_231, mx_232, mx_233, mx_234, mx_235, mx_236, mx_237, mx_238, mx_239]
def mXL_15 : List mX := [mx_240, mx_241, mx_242, mx_243, mx_244, mx_245, mx_246]
def mXL : List mX := mXL_0 ++ (mXL_1 ++ (mXL_2 ++ (mXL_3 ++ (mXL_4 ++ (mXL_5 ++ (mXL_6 ++ (mXL_7 ++ (mXL_8 ++ (mXL_9 ++ (mXL_10 ++ (mXL_11 ++ (mXL_12 ++ (mXL_13 ++ (mXL_14 ++ (mXL_15)))))))))))))))
def mXt (y : Nat) : mX := mXL.getD y mx_0
theorem mxl_0 : ∀ x ∈ mXL_0, MOK x := List.forall_mem_cons.mpr ⟨mo_0, List.forall_mem_cons.mpr ⟨mo_1, List.forall_mem_cons.mpr ⟨mo_2, List.forall_mem_cons.mpr ⟨mo_3, List.forall_mem_cons.mpr ⟨mo_4, List.forall_mem_cons.mpr ⟨mo_5, List.forall_mem_cons.mpr ⟨mo_6, List.forall_mem_cons.mpr ⟨mo_7, List.forall_mem_cons.mpr ⟨mo_8, List.forall_mem_cons.mpr ⟨mo_9, List.forall_mem_cons.mpr ⟨mo_10, List.forall_mem_cons.mpr ⟨mo_11, List.forall_mem_cons.mpr ⟨mo_12, List.forall_mem_cons.mpr ⟨mo_13, List.forall_mem_cons.mpr ⟨mo_14, List.forall_mem_cons.mpr ⟨mo_15, fun _ h => absurd h List.not_mem_nil⟩⟩⟩⟩⟩⟩⟩⟩⟩⟩⟩⟩⟩⟩⟩⟩
theorem mxl_1 : ∀ x ∈ mXL_1, MOK x := List.forall_mem_cons.mpr ⟨mo_16, List.forall_mem_cons.mpr ⟨mo_17, List.forall_mem_cons.mpr ⟨mo_18, List.forall_mem_cons.mpr ⟨mo_19, List.forall_mem_cons.mpr ⟨mo_20, List.forall_mem_cons.mpr ⟨mo_21, List.forall_mem_cons.mpr ⟨mo_22, List.forall_mem_cons.mpr ⟨mo_23, List.forall_mem_cons.mpr ⟨mo_24, List.forall_mem_cons.mpr ⟨mo_25, List.forall_mem_cons.mpr ⟨mo_26, List.forall_mem_cons.mpr ⟨mo_27, List.forall_mem_cons.mpr ⟨mo_28, List.forall_mem_cons.mpr ⟨mo_29, List.forall_mem_cons.mpr ⟨mo_30, List.forall_mem_cons.mpr ⟨mo_31, fun _ h => absurd h List.not_mem_nil⟩⟩⟩⟩⟩⟩⟩⟩⟩⟩⟩⟩⟩⟩⟩⟩
theorem mxl_2 : ∀ x ∈ mXL_2, MOK x := List.forall_mem_cons.mpr ⟨mo_32, List.forall_mem_cons.mpr ⟨mo_33, List.forall_mem_cons.mpr ⟨mo_34, List.forall_mem_cons.mpr ⟨mo_35, List.forall_mem_cons.mpr ⟨mo_36, List.forall_mem_cons.mpr ⟨mo_37, List.forall_mem_cons.mpr ⟨mo_38, List.forall_mem_cons.mpr ⟨mo_39, List.forall_mem_cons.mpr ⟨mo_40, List.forall_mem_cons.mpr ⟨mo_41, List.forall_mem_cons.mpr ⟨mo_42, List.forall_mem_cons.mpr ⟨mo_43, List.forall_mem_cons.mpr ⟨mo_44, List.forall_mem_cons.mpr ⟨mo_45, List.forall_mem_cons.mpr ⟨mo_46, List.forall_mem_cons.mpr ⟨mo_47, fun _ h => absurd h List.not_mem_nil⟩⟩⟩⟩⟩⟩⟩⟩⟩⟩⟩⟩⟩⟩⟩⟩
theorem mxl_3 : ∀ x ∈ mXL_3, MOK x := List.forall_mem_cons.mpr ⟨mo_48, List.forall_mem_cons.mpr ⟨mo_49, List.forall_mem_cons.mpr ⟨mo_50, List.forall_mem_cons.mpr ⟨mo_51, List.forall_mem_cons.mpr ⟨mo_52, List.forall_mem_cons.mpr ⟨mo_53, List.forall_mem_cons.mpr ⟨mo_54, List.forall_mem_cons.mpr ⟨mo_55, List.forall_mem_cons.mpr ⟨mo_56, List.forall_mem_cons.mpr ⟨mo_57, List.forall_mem_cons.mpr ⟨mo_58, List.forall_mem_cons.mpr ⟨mo_59, List.forall_mem_cons.mpr ⟨mo_60, List.forall_mem_cons.mpr ⟨mo_61, List.forall_mem_cons.mpr ⟨mo_62, List.forall_mem_cons.mpr ⟨mo_63, fun _ h => absurd h List.not_mem_nil⟩⟩⟩⟩⟩⟩⟩⟩⟩⟩⟩⟩⟩⟩⟩⟩
theorem mxl_4 : ∀ x ∈ mXL_4, MOK x := List.forall_mem_cons.mpr ⟨mo_64, List.forall_mem_cons.mpr ⟨mo_65, List.forall_mem_cons.mpr ⟨mo_66, List.forall_mem_cons.mpr ⟨mo_67, List.forall_mem_cons.mpr ⟨mo_68, List.forall_mem_cons.mpr ⟨mo_69, List.forall_mem_cons.mpr ⟨mo_70, List.forall_mem_cons.mpr ⟨mo_71, List.forall_mem_cons.mpr ⟨mo_72, List.forall_mem_cons.mpr ⟨mo_73, List.forall_mem_cons.mpr ⟨mo_74, List.forall_mem_cons.mpr ⟨mo_75, List.forall_mem_cons.mpr ⟨mo_76, List.forall_mem_cons.mpr ⟨mo_77, List.forall_mem_cons.mpr ⟨mo_78, List.forall_mem_cons.mpr ⟨mo_79, fun _ h => absurd h List.not_mem_nil⟩⟩⟩⟩⟩⟩⟩⟩⟩⟩⟩⟩⟩⟩⟩⟩
theorem mxl_5 : ∀ x ∈ mXL_5, MOK x := List.forall_mem_cons.mpr ⟨mo_80, List.forall_mem_cons.mpr ⟨mo_81, List.forall_mem_cons.mpr ⟨mo_82, List.forall_mem_cons.mpr ⟨mo_83, List.forall_mem_cons.mpr ⟨mo_84, List.forall_mem_cons.mpr ⟨mo_85, List.forall_mem_cons.mpr ⟨mo_86, List.forall_mem_cons.mpr ⟨mo_87, List.forall_mem_cons.mpr ⟨mo_88, List.forall_mem_cons.mpr ⟨mo_89, List.forall_mem_cons.mpr ⟨mo_90, List.forall_mem_cons.mpr ⟨mo_91, List.forall_mem_cons.mpr ⟨mo_92, List.forall_mem_cons.mpr ⟨mo_93, List.forall_mem_cons.mpr ⟨mo_94, List.forall_mem_cons.mpr ⟨mo_95, fun _ h => absurd h List.not_mem_nil⟩⟩⟩⟩⟩⟩⟩⟩⟩⟩⟩⟩⟩⟩⟩⟩
theorem mxl_6 : ∀ x ∈ mXL_6, MOK x := List.forall_mem_cons.mpr ⟨mo_96, List.forall_mem_cons.mpr ⟨mo_97, List.forall_mem_cons.mpr ⟨mo_98, List.forall_mem_cons.mpr ⟨mo_99, List.forall_mem_cons.mpr ⟨mo_100, List.forall_mem_cons.mpr ⟨mo_101, List.forall_mem_cons.mpr ⟨mo_102, List.forall_mem_cons.mpr ⟨mo_103, List.forall_mem_cons.mpr ⟨mo_104, List.forall_mem_cons.mpr ⟨mo_105, List.forall_mem_cons.mpr ⟨mo_106, List.forall_mem_cons.mpr ⟨mo_107, List.forall_mem_cons.mpr ⟨mo_108, List.forall_mem_cons.mpr ⟨mo_109, List.forall_mem_cons.mpr ⟨mo_110, List.forall_mem_cons.mpr ⟨mo_111, fun _ h => absurd h List.not_mem_nil⟩⟩⟩⟩⟩⟩⟩⟩⟩⟩⟩⟩⟩⟩⟩⟩
theorem mxl_7 : ∀ x ∈ mXL_7, MOK x := List.forall_mem_cons.mpr ⟨mo_112, List.forall_mem_cons.mpr ⟨mo_113, List.forall_mem_cons.mpr ⟨mo_114, List.forall_mem_cons.mpr ⟨mo_115, List.forall_mem_cons.mpr ⟨mo_116, List.forall_mem_cons.mpr ⟨mo_117, List.forall_mem_cons.mpr ⟨mo_118, List.forall_mem_cons.mpr ⟨mo_119, List.forall_mem_cons.mpr ⟨mo_120, List.forall_mem_cons.mpr ⟨mo_121, List.forall_mem_cons.mpr ⟨mo_122, List.forall_mem_cons.mpr ⟨mo_123, List.forall_mem_cons.mpr ⟨mo_124, List.forall_mem_cons.mpr ⟨mo_125, List.forall_mem_cons.mpr ⟨mo_126, List.forall_mem_cons.mpr ⟨mo_127, fun _ h => absurd h List.not_mem_nil⟩⟩⟩⟩⟩⟩⟩⟩⟩⟩⟩⟩⟩⟩⟩⟩
theorem mxl_8 : ∀ x ∈ mXL_8, MOK x := List.forall_mem_cons.mpr ⟨mo_128, List.forall_mem_cons.mpr ⟨mo_129, List.forall_mem_cons.mpr ⟨mo_130, List.forall_mem_cons.mpr ⟨mo_131, List.forall_mem_cons.mpr ⟨mo_132, List.forall_mem_cons.mpr ⟨mo_133, List.forall_mem_cons.mpr ⟨mo_134, List.forall_mem_cons.mpr ⟨mo_135, List.forall_mem_cons.mpr ⟨mo_136, List.forall_mem_cons.mpr ⟨mo_137, List.forall_mem_cons.mpr ⟨mo_138, List.forall_mem_cons.mpr ⟨mo_139, List.forall_mem_cons.mpr ⟨mo_140, List.forall_mem_cons.mpr ⟨mo_141, List.forall_mem_cons.mpr ⟨mo_142, List.forall_mem_cons.mpr ⟨mo_143, fun _ h => absurd h List.not_mem_nil⟩⟩⟩⟩⟩⟩⟩⟩⟩⟩⟩⟩⟩⟩⟩⟩
theorem mxl_9 : ∀ x ∈ mXL_9, MOK x := List.forall_mem_cons.mpr ⟨mo_144, List.forall_mem_cons.mpr ⟨mo_145, List.forall_mem_cons.mpr ⟨mo_146, List.forall_mem_cons.mpr ⟨mo_147, List.forall_mem_cons.mpr ⟨mo_148, List.forall_mem_cons.mpr ⟨mo_149, List.forall_mem_cons.mpr ⟨mo_150, List.forall_mem_cons.mpr ⟨mo_151, List.forall_mem_cons.mpr ⟨mo_152, List.forall_mem_cons.mpr ⟨mo_153, List.forall_mem_cons.mpr ⟨mo_154, List.forall_mem_cons.mpr ⟨mo_155, List.forall_mem_cons.mpr ⟨mo_156, List.forall_mem_cons.mpr ⟨mo_157, List.forall_mem_cons.mpr ⟨mo_158, List.forall_mem_cons.mpr ⟨mo_159, fun _ h => absurd h List.not_mem_nil⟩⟩⟩⟩⟩⟩⟩⟩⟩⟩⟩⟩⟩⟩⟩⟩
theorem mxl_10 : ∀ x ∈ mXL_10, MOK x := List.forall_mem_cons.mpr ⟨mo_160, List.forall_mem_cons.mpr ⟨mo_161, List.forall_mem_cons.mpr ⟨mo_162, List.forall_mem_cons.mpr ⟨mo_163, List.forall_mem_cons.mpr ⟨mo_164, List.forall_mem_cons.mpr ⟨mo_165, List.forall_mem_cons.mpr ⟨mo_166, List.forall_mem_cons.mpr ⟨mo_167, List.forall_mem_cons.mpr ⟨mo_168, List.forall_mem_cons.mpr ⟨mo_169, List.forall_mem_cons.mpr ⟨mo_170, List.forall_mem_cons.mpr ⟨mo_171, List.forall_mem_cons.mpr ⟨mo_172, List.forall_mem_cons.mpr ⟨mo_173, List.forall_mem_cons.mpr ⟨mo_174, List.forall_mem_cons.mpr ⟨mo_175, fun _ h => absurd h List.not_mem_nil⟩⟩⟩⟩⟩⟩⟩⟩⟩⟩⟩⟩⟩⟩⟩⟩
theorem mxl_11 : ∀ x ∈ mXL_11, MOK x := List.forall_mem_cons.mpr ⟨mo_176, List.forall_mem_cons.mpr ⟨mo_177, List.forall_mem_cons.mpr ⟨mo_178, List.forall_mem_cons.mpr ⟨mo_179, List.forall_mem_cons.mpr ⟨mo_180, List.forall_mem_cons.mpr ⟨mo_181, List.forall_mem_cons.mpr ⟨mo_182, List.forall_mem_cons.mpr ⟨mo_183, List.forall_mem_cons.mpr ⟨mo_184, List.forall_mem_cons.mpr ⟨mo_185, List.forall_mem_cons.mpr ⟨mo_186, List.forall_mem_cons.mpr ⟨mo_187, List.forall_mem_cons.mpr ⟨mo_188, List.forall_mem_cons.mpr ⟨mo_189, List.forall_mem_cons.mpr ⟨mo_190, List.forall_mem_cons.mpr ⟨mo_191, fun _ h => absurd h List.not_mem_nil⟩⟩⟩⟩⟩⟩⟩⟩⟩⟩⟩⟩⟩⟩⟩⟩
theorem mxl_12 : ∀ x ∈ mXL_12, MOK x := List.forall_mem_cons.mpr ⟨mo_192, List.forall_mem_cons.mpr ⟨mo_193, List.forall_mem_cons.mpr ⟨mo_194, List.forall_mem_cons.mpr ⟨mo_195, List.forall_mem_cons.mpr ⟨mo_196, List.forall_mem_cons.mpr ⟨mo_197, List.forall_mem_cons.mpr ⟨mo_198, List.forall_mem_cons.mpr ⟨mo_199, List.forall_mem_cons.mpr ⟨mo_200, List.forall_mem_cons.mpr ⟨mo_201, List.forall_mem_cons.mpr ⟨mo_202, List.forall_mem_cons.mpr ⟨mo_203, List.forall_mem_cons.mpr ⟨mo_204, List.forall_mem_cons.mpr ⟨mo_205, List.forall_mem_cons.mpr ⟨mo_206, List.forall_mem_cons.mpr ⟨mo_207, fun _ h => absurd h List.not_mem_nil⟩⟩⟩⟩⟩⟩⟩⟩⟩⟩⟩⟩⟩⟩⟩⟩
theorem mxl_13 : ∀ x ∈ mXL_13, MOK x := List.forall_mem_cons.mpr ⟨mo_208, List.forall_mem_cons.mpr ⟨mo_209, List.forall_mem_cons.mpr ⟨mo_210, List.forall_mem_cons.mpr ⟨mo_211, List.forall_mem_cons.mpr ⟨mo_212, List.forall_mem_cons.mpr ⟨mo_213, List.forall_mem_cons.mpr ⟨mo_214, List.forall_mem_cons.mpr ⟨mo_215, List.forall_mem_cons.mpr ⟨mo_216, List.forall_mem_cons.mpr ⟨mo_217, List.forall_mem_cons.mpr ⟨mo_218, List.forall_mem_cons.mpr ⟨mo_219, List.forall_mem_cons.mpr ⟨mo_220, List.forall_mem_cons.mpr ⟨mo_221, List.forall_mem_cons.mpr ⟨mo_222, List.forall_mem_cons.mpr ⟨mo_223, fun _ h => absurd h List.not_mem_nil⟩⟩⟩⟩⟩⟩⟩⟩⟩⟩⟩⟩⟩⟩⟩⟩
theorem mxl_14 : ∀ x ∈ mXL_14, MOK x := List.forall_mem_cons.mpr ⟨mo_224, List.forall_mem_cons.mpr ⟨mo_225, List.forall_mem_cons.mpr ⟨mo_226, List.forall_mem_cons.mpr ⟨mo_227, List.forall_mem_cons.mpr ⟨mo_228, List.forall_mem_cons.mpr ⟨mo_229, List.forall_mem_cons.mpr ⟨mo_230, List.forall_mem_cons.mpr ⟨mo_231, List.forall_mem_cons.mpr ⟨mo_232, List.forall_mem_cons.mpr ⟨mo_233, List.forall_mem_cons.mpr ⟨mo_234, List.forall_mem_cons.mpr ⟨mo_235, List.forall_mem_cons.mpr ⟨mo_236, List.forall_mem_cons.mpr ⟨mo_237, List.forall_mem_cons.mpr ⟨mo_238, List.forall_mem_cons.mpr ⟨mo_239, fun _ h => absurd h List.not_mem_nil⟩⟩⟩⟩⟩⟩⟩⟩⟩⟩⟩⟩⟩⟩⟩⟩
theorem mxl_15 : ∀ x ∈ mXL_15, MOK x := List.forall_mem_cons.mpr ⟨mo_240, List.forall_mem_cons.mpr ⟨mo_241, List.forall_mem_cons.mpr ⟨mo_242, List.forall_mem_cons.mpr ⟨mo_243, List.forall_mem_cons.mpr ⟨mo_244, List.forall_mem_cons.mpr ⟨mo_245, List.forall_mem_cons.mpr ⟨mo_246, fun _ h => absurd h List.not_mem_nil⟩⟩⟩⟩⟩⟩⟩
theorem mXL_ok : ∀ x ∈ mXL, MOK x := List.forall_mem_append.mpr ⟨mxl_0, List.forall_mem_append.mpr ⟨mxl_1, List.forall_mem_append.mpr ⟨mxl_2, List.forall_mem_append.mpr ⟨mxl_3, List.forall_mem_append.mpr ⟨mxl_4, List.forall_mem_append.mpr ⟨mxl_5, List.forall_mem_append.mpr ⟨mxl_6, List.forall_mem_append.mpr ⟨mxl_7, List.forall_mem_append.mpr ⟨mxl_8, List.forall_mem_append.mpr ⟨mxl_9, List.forall_mem_append.mpr ⟨mxl_10, List.forall_mem_append.mpr ⟨mxl_11, List.forall_mem_append.mpr ⟨mxl_12, List.forall_mem_append.mpr ⟨mxl_13, List.forall_mem_append.mpr ⟨mxl_14, mxl_15⟩⟩⟩⟩⟩⟩⟩⟩⟩⟩⟩⟩⟩⟩⟩
theorem mXt_ok (y : Nat) : MOK (mXt y) := by
  unfold mXt
  rw [List.getD_eq_getElem?_getD]
  cases h : mXL[y]? with
  | none => exact mo_0
  | some x => exact mXL_ok x (List.mem_of_getElem? h)
theorem mKd_eq : mKd = mXL.map (fun x => x.2.2.2.2.2.2.1) := by decide +kernel
theorem mKd_at {y k : Nat} (h : mKd[y]? = some k) : (mXt y).2.2.2.2.2.2.1 = k := by
  rw [mKd_eq, List.getElem?_map] at h
  unfold mXt
  rw [List.getD_eq_getElem?_getD]
  cases hx : mXL[y]? with
  | none => rw [hx] at h; cases h
  | some x => rw [hx] at h; exact Option.some.inj h
theorem mZip {α : Type} {β : Type} : ∀ (l : List α) (k : List β), l.length = k.length → ∀ a ∈ l, ∃ b, (a, b) ∈ l.zip k
  | [], _, _, _, h => absurd h List.not_mem_nil
  | _ :: _, [], h, _, _ => by cases h
  | x :: l, y :: k, h, a, ha => by
    rcases List.mem_cons.mp ha with rfl | ha
    · exact ⟨y, List.mem_cons_self⟩
    · obtain ⟨b, hb⟩ := mZip l k (Nat.succ.inj h) a ha
      exact ⟨b, List.mem_cons_of_mem _ hb⟩
theorem mTab {α : Type} {l : List α} {k : List Nat} (f : α → Cond) (hl : l.length = k.length) (h : ((l.zip k).all fun e => decide (lw_tbl[e.2]? = some (f e.1))) = true) : ∀ a ∈ l, f a ∈ lw_tbl := by
  intro a ha
  obtain ⟨b, hb⟩ := mZip l k hl a ha
  exact List.mem_of_getElem? (of_decide_eq_true (List.all_eq_true.mp h _ hb))
theorem mML_ok : ∀ e ∈ mML, Cond.methodLink (mCNat e.1) e.2.1 (mXt e.2.2).1 ∈ lw_tbl := mTab (l := mML) (k := [754, 758, 762, 763, 787, 791, 795, 400, 945, 946, 950, 951, 952, 953, 954, 955, 1022, 960, 1029, 155, 247, 250, 270, 395, 460, 473, 548, 552, 560, 564, 567, 568, 573, 576, 590, 601, 609, 619, 624, 629, 634, 642, 650, 659, 668, 676, 677, 690, 821, 822, 823, 833, 845, 856, 873, 875, 883, 891, 914, 931, 932, 937, 956, 973, 978, 983, 991, 995, 999, 1004, 1009, 1018, 1023, 1024, 1025, 1030, 694, 941, 167, 617, 681, 613, 618, 280, 724, 731, 735, 728, 968, 964, 477, 481, 485, 496, 500, 509, 517, 513, 521, 504, 508, 525, 276, 698, 742, 803, 809, 702, 706, 707, 711, 714, 715, 719, 720, 746, 750, 767, 771, 779, 783, 797, 801, 802, 807, 808, 813, 817, 837, 987, 1013, 1003, 1008, 864, 860, 868, 869, 982, 879, 919, 923, 927, 1034, 1038, 1042, 1046, 171, 533, 529, 537, 580, 584, 977, 594, 598, 633, 654, 663, 895, 906, 899, 900, 903, 489, 492, 1186, 1258, 1207, 1216, 1203, 1228, 1232, 1224, 1237, 1220, 1212, 1199, 1251, 1255, 1269, 1273, 1281, 1277, 1356, 1398, 1402, 1394, 1386, 1418, 1422, 1364, 1360, 1352, 1382, 1375, 1378, 1371, 1390, 1414, 1410, 1426, 1348, 1367, 1406, 1433, 1298, 1289, 1294, 1316, 1344, 1430, 1436, 1439, 1451, 1447, 1455, 1459, 1479, 1475, 1471, 1483, 1489, 1501, 1497, 1514, 1509, 1522, 1526, 1534, 1538, 1542, 1546, 1550, 1554, 1558, 1582, 1566, 1570, 1574, 1578, 774, 777, 778, 741, 829, 830, 826, 738, 112, 1049, 455, 1181, 465, 1191, 469, 1195, 542, 1242, 556, 1247, 569, 1262, 605, 1285, 620, 1302, 625, 1306, 638, 1312, 646, 1320, 655, 1324, 664, 1328, 672, 1332, 682, 1336, 686, 1340, 841, 1443, 849, 1463, 887, 1493, 910, 1505, 933, 1518, 969, 1530, 1014, 1562]) (fun e => Cond.methodLink (mCNat e.1) e.2.1 (mXt e.2.2).1) (by decide +kernel) (by decide +kernel)
theorem mNL_ok : ∀ e ∈ mNL, Cond.methodLinkNest (mCNat e.1) e.2.1 (mXt e.2.2).1 "LeastCurves" ∈ lw_tbl := mTab (l := mNL) (k := [120, 245, 256, 161, 308]) (fun e => Cond.methodLinkNest (mCNat e.1) e.2.1 (mXt e.2.2).1 "LeastCurves") (by decide +kernel) (by decide +kernel)
theorem mOL_ok : ∀ e ∈ mOL, Cond.methodLink (mCNat e.1) e.2 objectInit ∈ lw_tbl := mTab (l := mOL) (k := [115, 311, 398, 164, 253, 279, 158, 273, 170, 123, 1052]) (fun e => Cond.methodLink (mCNat e.1) e.2 objectInit) (by decide +kernel) (by decide +kernel)
theorem mCK_ok : ∀ e ∈ mCK, Cond.classLink (mCNat e.1) e.2.1 (mCNat e.2.2) ∈ lw_tbl := mTab (l := mCK) (k := [118, 153, 244, 246, 248, 268, 393, 399, 165, 254, 159, 274, 305, 110, 1047]) (fun e => Cond.classLink (mCNat e.1) e.2.1 (mCNat e.2.2)) (by decide +kernel) (by decide +kernel)
theorem mKI_ok : ∀ e ∈ mKI, Cond.constant (mCNat e.1) e.2.1 (Int32.ofInt e.2.2) ∈ lw_tbl := mTab (l := mKI) (k := [459, 464, 546, 547, 563, 312, 541, 796, 175, 1189, 1190, 1241, 1246, 1254, 587, 588, 589]) (fun e => Cond.constant (mCNat e.1) e.2.1 (Int32.ofInt e.2.2)) (by decide +kernel) (by decide +kernel)
theorem mKL_ok : ∀ e ∈ mKL, Cond.constantLong (mCNat e.1) e.2.1 (Int64.ofInt e.2.2) ∈ lw_tbl := mTab (l := mKL) (k := [853, 854, 855, 874, 918, 1236, 1292, 1293, 1185, 1210, 1211, 1266, 1267, 1268, 1359, 1310, 1311, 1467, 1468, 1469, 1470, 1487, 1488, 1513]) (fun e => Cond.constantLong (mCNat e.1) e.2.1 (Int64.ofInt e.2.2)) (by decide +kernel) (by decide +kernel)
def mClat (k : Nat) : vw_C := mCl.getD k (mR_0, mT_0, 11)
theorem mFL_ok : ∀ e ∈ mFL, Cond.fieldLink (mCNat e.1) e.2.1 (mClat e.2.2.1).1 ((mClat e.2.2.1).2.1 e.2.2.2).2.1 ((mClat e.2.2.1).2.1 e.2.2.2).2.2.1 ∈ lw_tbl := mTab (l := mFL) (k := [313, 316, 318, 321, 323, 325, 327, 329, 331, 333, 335, 403, 404, 405, 401, 402, 362, 179, 371, 368, 319, 314, 289, 365, 418, 419, 420, 421, 422, 423, 424, 186, 425, 188, 426, 427, 428, 429, 126, 199, 197, 201, 203, 260, 366, 291, 372, 369, 406, 185, 187, 257, 258, 259, 288, 283, 284, 285, 286, 287, 195, 196, 198, 200, 202, 204, 205, 206, 207, 208, 209, 210, 211, 212, 194, 130, 132, 127, 134, 136, 363, 364, 367, 370, 373, 374, 375, 361, 178, 290, 324, 320, 315, 317, 334, 336, 326, 322, 332, 328, 330, 176, 177, 124, 125, 128, 129, 131, 133, 135, 1053, 1055, 1056, 1070, 1071, 1073, 1075, 1076, 1077, 1078, 1079, 1080, 1081, 1082, 1083, 1084, 1085, 1086, 1087, 1089, 1090, 1093, 1094, 1057, 1059, 1058, 1066, 1067, 1068, 1065, 1069, 1060, 1064, 1063, 1061, 1062, 1054, 1074, 1072, 1088, 1092, 1091]) (fun e => Cond.fieldLink (mCNat e.1) e.2.1 (mClat e.2.2.1).1 ((mClat e.2.2.1).2.1 e.2.2.2).2.1 ((mClat e.2.2.1).2.1 e.2.2.2).2.2.1) (by decide +kernel) (by decide +kernel)
theorem mFL_lt : ∀ e ∈ mFL, e.2.2.1 < 11 ∧ e.2.2.2 < (mClat e.2.2.1).2.2 := by decide +kernel
theorem mL_0 : ∀ w ∈ u_ws mR_0 mT_0 11, w ∈ lw_tbl := by
  intro w hw
  obtain ⟨k, hk, rfl⟩ := List.mem_map.mp hw
  exact mTab (l := List.range 11) (k := [337, 339, 341, 343, 345, 347, 349, 351, 353, 355, 357]) (u_lay mR_0 mT_0) (by decide +kernel) (by decide +kernel) k hk
theorem mI_0 : Cond.instantiable mR_0 11 ∈ lw_tbl ∧ Cond.initialized mR_0 ∈ lw_tbl := ⟨(List.mem_of_getElem? (i := 307) (by decide +kernel)), (List.mem_of_getElem? (i := 104) (by decide +kernel))⟩
theorem mL_1 : ∀ w ∈ u_ws mR_1 mT_1 5, w ∈ lw_tbl := by
  intro w hw
  obtain ⟨k, hk, rfl⟩ := List.mem_map.mp hw
  exact mTab (l := List.range 5) (k := [407, 409, 411, 413, 415]) (u_lay mR_1 mT_1) (by decide +kernel) (by decide +kernel) k hk
theorem mI_1 : Cond.instantiable mR_1 5 ∈ lw_tbl ∧ Cond.initialized mR_1 ∈ lw_tbl := ⟨(List.mem_of_getElem? (i := 394) (by decide +kernel)), (List.mem_of_getElem? (i := 105) (by decide +kernel))⟩
theorem mL_2 : ∀ w ∈ u_ws mR_2 mT_2 12, w ∈ lw_tbl := by
  intro w hw
  obtain ⟨k, hk, rfl⟩ := List.mem_map.mp hw
  exact mTab (l := List.range 12) (k := [430, 432, 434, 436, 438, 440, 442, 444, 446, 448, 450, 452]) (u_lay mR_2 mT_2) (by decide +kernel) (by decide +kernel) k hk
theorem mI_2 : Cond.instantiable mR_2 12 ∈ lw_tbl ∧ Cond.initialized mR_2 ∈ lw_tbl := ⟨(List.mem_of_getElem? (i := 111) (by decide +kernel)), (List.mem_of_getElem? (i := 95) (by decide +kernel))⟩
theorem mL_3 : ∀ w ∈ u_ws mR_3 mT_3 2, w ∈ lw_tbl := by
  intro w hw
  obtain ⟨k, hk, rfl⟩ := List.mem_map.mp hw
  exact mTab (l := List.range 2) (k := [189, 191]) (u_lay mR_3 mT_3) (by decide +kernel) (by decide +kernel) k hk
theorem mI_3 : Cond.instantiable mR_3 2 ∈ lw_tbl ∧ Cond.initialized mR_3 ∈ lw_tbl := ⟨(List.mem_of_getElem? (i := 160) (by decide +kernel)), (List.mem_of_getElem? (i := 98) (by decide +kernel))⟩
theorem mL_4 : ∀ w ∈ u_ws mR_4 mT_4 3, w ∈ lw_tbl := by
  intro w hw
  obtain ⟨k, hk, rfl⟩ := List.mem_map.mp hw
  exact mTab (l := List.range 3) (k := [261, 263, 265]) (u_lay mR_4 mT_4) (by decide +kernel) (by decide +kernel) k hk
theorem mI_4 : Cond.instantiable mR_4 3 ∈ lw_tbl ∧ Cond.initialized mR_4 ∈ lw_tbl := ⟨(List.mem_of_getElem? (i := 249) (by decide +kernel)), (List.mem_of_getElem? (i := 100) (by decide +kernel))⟩
theorem mL_5 : ∀ w ∈ u_ws mR_5 mT_5 6, w ∈ lw_tbl := by
  intro w hw
  obtain ⟨k, hk, rfl⟩ := List.mem_map.mp hw
  exact mTab (l := List.range 6) (k := [292, 294, 296, 298, 300, 302]) (u_lay mR_5 mT_5) (by decide +kernel) (by decide +kernel) k hk
theorem mI_5 : Cond.instantiable mR_5 6 ∈ lw_tbl ∧ Cond.initialized mR_5 ∈ lw_tbl := ⟨(List.mem_of_getElem? (i := 275) (by decide +kernel)), (List.mem_of_getElem? (i := 102) (by decide +kernel))⟩
theorem mL_6 : ∀ w ∈ u_ws mR_6 mT_6 15, w ∈ lw_tbl := by
  intro w hw
  obtain ⟨k, hk, rfl⟩ := List.mem_map.mp hw
  exact mTab (l := List.range 15) (k := [213, 215, 217, 219, 221, 223, 225, 227, 229, 231, 233, 235, 237, 239, 241]) (u_lay mR_6 mT_6) (by decide +kernel) (by decide +kernel) k hk
theorem mI_6 : Cond.instantiable mR_6 15 ∈ lw_tbl ∧ Cond.initialized mR_6 ∈ lw_tbl := ⟨(List.mem_of_getElem? (i := 154) (by decide +kernel)), (List.mem_of_getElem? (i := 97) (by decide +kernel))⟩
theorem mL_7 : ∀ w ∈ u_ws mR_7 mT_7 8, w ∈ lw_tbl := by
  intro w hw
  obtain ⟨k, hk, rfl⟩ := List.mem_map.mp hw
  exact mTab (l := List.range 8) (k := [376, 378, 380, 382, 384, 386, 388, 390]) (u_lay mR_7 mT_7) (by decide +kernel) (by decide +kernel) k hk
theorem mI_7 : Cond.instantiable mR_7 8 ∈ lw_tbl ∧ Cond.initialized mR_7 ∈ lw_tbl := ⟨(List.mem_of_getElem? (i := 269) (by decide +kernel)), (List.mem_of_getElem? (i := 101) (by decide +kernel))⟩
theorem mL_8 : ∀ w ∈ u_ws mR_8 mT_8 2, w ∈ lw_tbl := by
  intro w hw
  obtain ⟨k, hk, rfl⟩ := List.mem_map.mp hw
  exact mTab (l := List.range 2) (k := [180, 182]) (u_lay mR_8 mT_8) (by decide +kernel) (by decide +kernel) k hk
theorem mI_8 : Cond.instantiable mR_8 2 ∈ lw_tbl ∧ Cond.initialized mR_8 ∈ lw_tbl := ⟨(List.mem_of_getElem? (i := 166) (by decide +kernel)), (List.mem_of_getElem? (i := 99) (by decide +kernel))⟩
theorem mL_9 : ∀ w ∈ u_ws mR_9 mT_9 7, w ∈ lw_tbl := by
  intro w hw
  obtain ⟨k, hk, rfl⟩ := List.mem_map.mp hw
  exact mTab (l := List.range 7) (k := [137, 139, 141, 143, 145, 147, 149]) (u_lay mR_9 mT_9) (by decide +kernel) (by decide +kernel) k hk
theorem mI_9 : Cond.instantiable mR_9 7 ∈ lw_tbl ∧ Cond.initialized mR_9 ∈ lw_tbl := ⟨(List.mem_of_getElem? (i := 119) (by decide +kernel)), (List.mem_of_getElem? (i := 96) (by decide +kernel))⟩
theorem mL_10 : ∀ w ∈ u_ws mR_10 mT_10 42, w ∈ lw_tbl := by
  intro w hw
  obtain ⟨k, hk, rfl⟩ := List.mem_map.mp hw
  exact mTab (l := List.range 42) (k := [1095, 1097, 1099, 1101, 1103, 1105, 1107, 1109, 1111, 1113, 1115, 1117, 1119, 1121, 1123, 1125, 1127, 1129, 1131, 1133, 1135, 1137, 1139, 1141, 1143, 1145, 1147, 1149, 1151, 1153, 1155, 1157, 1159, 1161, 1163, 1165, 1167, 1169, 1171, 1173, 1175, 1177]) (u_lay mR_10 mT_10) (by decide +kernel) (by decide +kernel) k hk
theorem mI_10 : Cond.instantiable mR_10 42 ∈ lw_tbl ∧ Cond.initialized mR_10 ∈ lw_tbl := ⟨(List.mem_of_getElem? (i := 1048) (by decide +kernel)), (List.mem_of_getElem? (i := 106) (by decide +kernel))⟩
