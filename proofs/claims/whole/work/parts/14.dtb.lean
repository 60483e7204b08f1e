/-! every instruction of the tables is the one that the machine decodes there -/
def DTB : List (List (Nat × ClassFile.Instr × Nat) × ByteArray) := [
  (cd0, prog_2_method_1_code),
  (cd1, prog_2_method_2_code),
  (cd2, prog_2_method_3_code),
  (cd3, prog_2_method_4_code),
  (cd4, prog_3_method_1_code),
  (cd5, prog_4_method_2_code),
  (cd6, prog_4_method_3_code),
  (cd7, prog_4_method_4_code),
  (cd8, prog_4_method_5_code),
  (cd9, prog_4_method_6_code),
  (cd10, prog_4_method_7_code),
  (cd11, prog_4_method_8_code),
  (cd12, prog_4_method_9_code),
  (cd13, prog_5_method_1_code),
  (cd14, prog_5_method_2_code),
  (cd15, prog_5_method_3_code),
  (cd16, prog_5_method_4_code),
  (cd17, prog_5_method_5_code),
  (cd18, prog_5_method_6_code),
  (cd19, prog_5_method_7_code),
  (cd20, prog_5_method_8_code),
  (cd21, prog_5_method_9_code),
  (cd22, prog_5_method_10_code),
  (cd23, prog_5_method_11_code),
  (cd24, prog_5_method_12_code),
  (cd25, prog_5_method_13_code),
  (cd26, prog_5_method_14_code),
  (cd27, prog_6_method_1_code),
  (cd28, prog_6_method_2_code),
  (cd29, prog_6_method_3_code),
  (cd30, prog_6_method_4_code),
  (cd31, prog_7_method_1_code),
  (cd32, prog_7_method_2_code),
  (cd33, prog_7_method_3_code),
  (cd34, prog_8_method_1_code),
  (cd35, prog_8_method_2_code),
  (cd36, prog_8_method_3_code),
  (cd37, prog_8_method_4_code),
  (cd38, prog_8_method_5_code),
  (cd39, prog_8_method_6_code),
  (cd40, prog_8_method_7_code),
  (cd41, prog_8_method_8_code),
  (cd42, prog_8_method_9_code),
  (cd43, prog_8_method_10_code),
  (cd44, prog_8_method_11_code),
  (cd45, prog_8_method_12_code),
  (cd46, prog_8_method_13_code),
  (cd47, prog_8_method_14_code),
  (cd48, prog_8_method_15_code),
  (cd49, prog_8_method_16_code),
  (cd50, prog_9_method_2_code),
  (cd51, prog_9_method_3_code),
  (cd52, prog_9_method_4_code),
  (cd53, prog_9_method_5_code),
  (cd54, prog_9_method_6_code),
  (cd55, prog_9_method_7_code),
  (cd56, prog_9_method_8_code),
  (cd57, prog_9_method_9_code),
  (cd58, prog_9_method_10_code),
  (cd59, prog_10_method_1_code),
  (cd60, prog_10_method_2_code),
  (cd61, prog_10_method_3_code),
  (cd62, prog_10_method_4_code),
  (cd63, prog_10_method_5_code),
  (cd64, prog_10_method_6_code),
  (cd65, prog_10_method_7_code),
  (cd66, prog_11_method_1_code),
  (cd67, prog_11_method_2_code),
  (cd68, prog_11_method_3_code),
  (cd69, prog_11_method_4_code),
  (cd70, prog_11_method_5_code),
  (cd71, prog_11_method_6_code),
  (cd72, prog_11_method_7_code),
  (cd73, prog_11_method_8_code),
  (cd74, prog_11_method_9_code),
  (cd75, prog_11_method_10_code),
  (cd76, prog_11_method_11_code),
  (cd77, prog_11_method_12_code),
  (cd78, prog_11_method_13_code),
  (cd79, prog_11_method_14_code),
  (cd80, prog_11_method_15_code),
  (cd81, prog_11_method_16_code),
  (cd82, prog_12_method_1_code),
  (cd83, prog_12_method_2_code),
  (cd84, prog_12_method_3_code),
  (cd85, prog_12_method_4_code),
  (cd86, prog_12_method_5_code),
  (cd87, prog_12_method_6_code),
  (cd88, prog_12_method_7_code),
  (cd89, prog_12_method_8_code),
  (cd90, prog_12_method_9_code),
  (cd91, prog_1_method_1_code),
  (cd92, prog_1_method_2_code),
  (cd93, prog_1_method_3_code),
  (cd94, prog_1_method_4_code),
  (cd95, prog_1_method_5_code),
  (cd96, prog_1_method_6_code),
  (cd97, prog_1_method_7_code),
  (cd98, prog_1_method_8_code),
  (cd99, prog_1_method_9_code),
  (cd100, prog_1_method_10_code),
  (cd101, prog_1_method_11_code),
  (cd102, prog_1_method_12_code),
  (cd103, prog_1_method_13_code),
  (cd104, prog_1_method_14_code),
  (cd105, prog_1_method_15_code),
  (cd106, prog_1_method_16_code),
  (cd107, prog_1_method_17_code),
  (cd108, prog_1_method_18_code),
  (cd109, prog_1_method_19_code),
  (cd110, prog_1_method_20_code),
  (cd111, prog_1_method_21_code),
  (cd112, prog_1_method_22_code),
  (cd113, prog_1_method_23_code),
  (cd114, prog_1_method_24_code),
  (cd115, prog_1_method_25_code),
  (cd116, prog_1_method_26_code),
  (cd117, prog_1_method_27_code),
  (cd118, prog_1_method_28_code),
  (cd119, prog_1_method_29_code),
  (cd120, prog_1_method_30_code),
  (cd121, prog_1_method_31_code),
  (cd122, prog_1_method_32_code),
  (cd123, prog_1_method_33_code),
  (cd124, prog_1_method_34_code),
  (cd125, prog_1_method_35_code),
  (cd126, prog_1_method_36_code),
  (cd127, prog_1_method_37_code),
  (cd128, prog_1_method_38_code),
  (cd129, prog_1_method_39_code),
  (cd130, prog_1_method_40_code),
  (cd131, prog_1_method_41_code),
  (cd132, prog_1_method_42_code),
  (cd133, prog_1_method_43_code),
  (cd134, prog_1_method_44_code),
  (cd135, prog_1_method_45_code),
  (cd136, prog_1_method_46_code),
  (cd137, prog_1_method_47_code),
  (cd138, prog_1_method_48_code),
  (cd139, prog_1_method_49_code),
  (cd140, prog_1_method_50_code),
  (cd141, prog_1_method_51_code),
  (cd142, prog_1_method_52_code),
  (cd143, prog_1_method_53_code),
  (cd144, prog_1_method_54_code),
  (cd145, prog_1_method_55_code),
  (cd146, prog_1_method_56_code),
  (cd147, prog_15_method_1_code),
  (cd148, prog_16_method_1_code),
  (cd149, prog_17_method_1_code),
  (cd150, prog_18_method_1_code),
  (cd151, prog_19_method_1_code),
  (cd152, prog_20_method_1_code),
  (cd153, prog_20_method_2_code),
  (cd154, prog_21_method_1_code),
  (cd155, prog_22_method_1_code),
  (cd156, prog_22_method_2_code),
  (cd157, prog_22_method_3_code),
  (cd158, prog_22_method_4_code),
  (cd159, prog_22_method_5_code),
  (cd160, prog_22_method_6_code),
  (cd161, prog_23_method_1_code),
  (cd162, prog_14_method_1_code),
  (cd163, prog_14_method_2_code),
  (cd164, prog_14_method_3_code),
  (cd165, prog_14_method_4_code),
  (cd166, prog_14_method_5_code),
  (cd167, prog_14_method_6_code),
  (cd168, prog_14_method_7_code),
  (cd169, prog_14_method_8_code),
  (cd170, prog_14_method_9_code),
  (cd171, prog_14_method_10_code),
  (cd172, prog_14_method_11_code),
  (cd173, prog_14_method_12_code),
  (cd174, prog_14_method_13_code),
  (cd175, prog_14_method_14_code),
  (cd176, prog_14_method_15_code),
  (cd177, prog_14_method_16_code),
  (cd178, prog_14_method_17_code),
  (cd179, prog_14_method_18_code),
  (cd180, prog_14_method_19_code),
  (cd181, prog_14_method_20_code),
  (cd182, prog_14_method_21_code),
  (cd183, prog_14_method_22_code),
  (cd184, prog_14_method_23_code),
  (cd185, prog_14_method_24_code),
  (cd186, prog_14_method_25_code),
  (cd187, prog_14_method_26_code),
  (cd188, prog_14_method_27_code),
  (cd189, prog_14_method_28_code),
  (cd190, prog_14_method_29_code),
  (cd191, prog_14_method_30_code),
  (cd192, prog_14_method_31_code),
  (cd193, prog_14_method_32_code),
  (cd194, prog_14_method_33_code),
  (cd195, prog_14_method_34_code),
  (cd196, prog_14_method_35_code),
  (cd197, prog_14_method_36_code),
  (cd198, prog_14_method_37_code),
  (cd199, prog_14_method_38_code),
  (cd200, prog_14_method_39_code),
  (cd201, prog_14_method_40_code),
  (cd202, prog_14_method_41_code),
  (cd203, prog_14_method_42_code),
  (cd204, prog_14_method_43_code),
  (cd205, prog_14_method_44_code),
  (cd206, prog_14_method_45_code),
  (cd207, prog_14_method_46_code),
  (cd208, prog_14_method_47_code),
  (cd209, prog_14_method_48_code),
  (cd210, prog_14_method_49_code),
  (cd211, prog_14_method_50_code),
  (cd212, prog_14_method_51_code),
  (cd213, prog_14_method_52_code),
  (cd214, prog_14_method_53_code),
  (cd215, prog_14_method_54_code),
  (cd216, prog_14_method_55_code),
  (cd217, prog_14_method_56_code),
  (cd218, prog_14_method_57_code),
  (cd219, prog_14_method_58_code),
  (cd220, prog_14_method_59_code),
  (cd221, prog_14_method_60_code),
  (cd222, prog_14_method_61_code),
  (cd223, prog_14_method_62_code),
  (cd224, prog_14_method_63_code),
  (cd225, prog_14_method_64_code),
  (cd226, prog_14_method_65_code),
  (cd227, prog_14_method_66_code),
  (cd228, prog_14_method_67_code),
  (cd229, prog_14_method_68_code),
  (cd230, prog_14_method_69_code),
  (cd231, prog_14_method_70_code),
  (cd232, prog_14_method_71_code),
  (cd233, prog_14_method_72_code),
  (cd234, prog_14_method_73_code),
  (cd235, prog_14_method_74_code),
  (cd236, prog_14_method_75_code),
  (cd237, prog_14_method_76_code),
  (cd238, prog_14_method_77_code),
  (cd239, prog_14_method_78_code),
  (cd240, prog_14_method_79_code),
  (cd241, prog_14_method_80_code),
  (cd242, prog_14_method_81_code),
  (cd243, prog_14_method_82_code),
  (cd244, prog_14_method_83_code),
  (cd245, prog_14_method_84_code),
  (cd246, prog_27_method_49_code),
  (cd247, prog_36_method_1_code),
  (cd248, prog_37_method_1_code),
  (cd249, prog_39_method_1_code),
  (cd250, prog_39_method_2_code),
  (cd251, prog_39_method_3_code),
  (cd252, prog_39_method_6_code),
  (cd253, prog_38_method_2_code),
  (cd254, prog_38_method_6_code),
  (cd255, prog_38_method_7_code),
  (cd256, prog_38_method_24_code),
  (cd257, prog_38_method_25_code),
  (cd258, prog_38_method_55_code),
  (cd259, prog_40_method_30_code),
  (cd260, prog_40_method_102_code),
  (cd261, prog_40_method_103_code),
  (cd262, prog_40_method_109_code),
  (cd263, prog_40_method_121_code),
  (cd264, prog_40_method_123_code),
  (cd265, prog_47_method_27_code),
  (cd266, prog_47_method_28_code),
  (cd267, method_3_code),
  (cd268, code)]
def DOK (q : List (Nat × ClassFile.Instr × Nat) × ByteArray) : Prop := ∀ x ∈ q.1, decode q.2 x.1 = .ok (x.2.1, x.2.2)
def DTB_0 : List (List (Nat × ClassFile.Instr × Nat) × ByteArray) := [(cd0, prog_2_method_1_code), (cd1, prog_2_method_2_code), (cd2, prog_2_method_3_code), (cd3, prog_2_method_4_code), (cd4, prog_3_method_1_code), (cd5, prog_4_method_2_code), (cd6, prog_4_method_3_code), (cd7, prog_4_method_4_code), (cd8, prog_4_method_5_code), (cd9, prog_4_method_6_code), (cd10, prog_4_method_7_code), (cd11, prog_4_method_8_code), (cd12, prog_4_method_9_code), (cd13, prog_5_method_1_code), (cd14, prog_5_method_2_code), (cd15, prog_5_method_3_code)]
theorem DTB_0_ok : ∀ q ∈ DTB_0, DOK q := List.forall_mem_cons.mpr ⟨dk0, List.forall_mem_cons.mpr ⟨dk1, List.forall_mem_cons.mpr ⟨dk2, List.forall_mem_cons.mpr ⟨dk3, List.forall_mem_cons.mpr ⟨dk4, List.forall_mem_cons.mpr ⟨dk5, List.forall_mem_cons.mpr ⟨dk6, List.forall_mem_cons.mpr ⟨dk7, List.forall_mem_cons.mpr ⟨dk8, List.forall_mem_cons.mpr ⟨dk9, List.forall_mem_cons.mpr ⟨dk10, List.forall_mem_cons.mpr ⟨dk11, List.forall_mem_cons.mpr ⟨dk12, List.forall_mem_cons.mpr ⟨dk13, List.forall_mem_cons.mpr ⟨dk14, List.forall_mem_cons.mpr ⟨dk15, fun _ h => absurd h List.not_mem_nil⟩⟩⟩⟩⟩⟩⟩⟩⟩⟩⟩⟩⟩⟩⟩⟩
def DTB_1 : List (List (Nat × ClassFile.Instr × Nat) × ByteArray) := [(cd16, prog_5_method_4_code), (cd17, prog_5_method_5_code), (cd18, prog_5_method_6_code), (cd19, prog_5_method_7_code), (cd20, prog_5_method_8_code), (cd21, prog_5_method_9_code), (cd22, prog_5_method_10_code), (cd23, prog_5_method_11_code), (cd24, prog_5_method_12_code), (cd25, prog_5_method_13_code), (cd26, prog_5_method_14_code), (cd27, prog_6_method_1_code), (cd28, prog_6_method_2_code), (cd29, prog_6_method_3_code), (cd30, prog_6_method_4_code), (cd31, prog_7_method_1_code)]
theorem DTB_1_ok : ∀ q ∈ DTB_1, DOK q := List.forall_mem_cons.mpr ⟨dk16, List.forall_mem_cons.mpr ⟨dk17, List.forall_mem_cons.mpr ⟨dk18, List.forall_mem_cons.mpr ⟨dk19, List.forall_mem_cons.mpr ⟨dk20, List.forall_mem_cons.mpr ⟨dk21, List.forall_mem_cons.mpr ⟨dk22, List.forall_mem_cons.mpr ⟨dk23, List.forall_mem_cons.mpr ⟨dk24, List.forall_mem_cons.mpr ⟨dk25, List.forall_mem_cons.mpr ⟨dk26, List.forall_mem_cons.mpr ⟨dk27, List.forall_mem_cons.mpr ⟨dk28, List.forall_mem_cons.mpr ⟨dk29, List.forall_mem_cons.mpr ⟨dk30, List.forall_mem_cons.mpr ⟨dk31, fun _ h => absurd h List.not_mem_nil⟩⟩⟩⟩⟩⟩⟩⟩⟩⟩⟩⟩⟩⟩⟩⟩
def DTB_2 : List (List (Nat × ClassFile.Instr × Nat) × ByteArray) := [(cd32, prog_7_method_2_code), (cd33, prog_7_method_3_code), (cd34, prog_8_method_1_code), (cd35, prog_8_method_2_code), (cd36, prog_8_method_3_code), (cd37, prog_8_method_4_code), (cd38, prog_8_method_5_code), (cd39, prog_8_method_6_code), (cd40, prog_8_method_7_code), (cd41, prog_8_method_8_code), (cd42, prog_8_method_9_code), (cd43, prog_8_method_10_code), (cd44, prog_8_method_11_code), (cd45, prog_8_method_12_code), (cd46, prog_8_method_13_code), (cd47, prog_8_method_14_code)]
theorem DTB_2_ok : ∀ q ∈ DTB_2, DOK q := List.forall_mem_cons.mpr ⟨dk32, List.forall_mem_cons.mpr ⟨dk33, List.forall_mem_cons.mpr ⟨dk34, List.forall_mem_cons.mpr ⟨dk35, List.forall_mem_cons.mpr ⟨dk36, List.forall_mem_cons.mpr ⟨dk37, List.forall_mem_cons.mpr ⟨dk38, List.forall_mem_cons.mpr ⟨dk39, List.forall_mem_cons.mpr ⟨dk40, List.forall_mem_cons.mpr ⟨dk41, List.forall_mem_cons.mpr ⟨dk42, List.forall_mem_cons.mpr ⟨dk43, List.forall_mem_cons.mpr ⟨dk44, List.forall_mem_cons.mpr ⟨dk45, List.forall_mem_cons.mpr ⟨dk46, List.forall_mem_cons.mpr ⟨dk47, fun _ h => absurd h List.not_mem_nil⟩⟩⟩⟩⟩⟩⟩⟩⟩⟩⟩⟩⟩⟩⟩⟩
def DTB_3 : List (List (Nat × ClassFile.Instr × Nat) × ByteArray) := [(cd48, prog_8_method_15_code), (cd49, prog_8_method_16_code), (cd50, prog_9_method_2_code), (cd51, prog_9_method_3_code), (cd52, prog_9_method_4_code), (cd53, prog_9_method_5_code), (cd54, prog_9_method_6_code), (cd55, prog_9_method_7_code), (cd56, prog_9_method_8_code), (cd57, prog_9_method_9_code), (cd58, prog_9_method_10_code), (cd59, prog_10_method_1_code), (cd60, prog_10_method_2_code), (cd61, prog_10_method_3_code), (cd62, prog_10_method_4_code), (cd63, prog_10_method_5_code)]
theorem DTB_3_ok : ∀ q ∈ DTB_3, DOK q := List.forall_mem_cons.mpr ⟨dk48, List.forall_mem_cons.mpr ⟨dk49, List.forall_mem_cons.mpr ⟨dk50, List.forall_mem_cons.mpr ⟨dk51, List.forall_mem_cons.mpr ⟨dk52, List.forall_mem_cons.mpr ⟨dk53, List.forall_mem_cons.mpr ⟨dk54, List.forall_mem_cons.mpr ⟨dk55, List.forall_mem_cons.mpr ⟨dk56, List.forall_mem_cons.mpr ⟨dk57, List.forall_mem_cons.mpr ⟨dk58, List.forall_mem_cons.mpr ⟨dk59, List.forall_mem_cons.mpr ⟨dk60, List.forall_mem_cons.mpr ⟨dk61, List.forall_mem_cons.mpr ⟨dk62, List.forall_mem_cons.mpr ⟨dk63, fun _ h => absurd h List.not_mem_nil⟩⟩⟩⟩⟩⟩⟩⟩⟩⟩⟩⟩⟩⟩⟩⟩
def DTB_4 : List (List (Nat × ClassFile.Instr × Nat) × ByteArray) := [(cd64, prog_10_method_6_code), (cd65, prog_10_method_7_code), (cd66, prog_11_method_1_code), (cd67, prog_11_method_2_code), (cd68, prog_11_method_3_code), (cd69, prog_11_method_4_code), (cd70, prog_11_method_5_code), (cd71, prog_11_method_6_code), (cd72, prog_11_method_7_code), (cd73, prog_11_method_8_code), (cd74, prog_11_method_9_code), (cd75, prog_11_method_10_code), (cd76, prog_11_method_11_code), (cd77, prog_11_method_12_code), (cd78, prog_11_method_13_code), (cd79, prog_11_method_14_code)]
theorem DTB_4_ok : ∀ q ∈ DTB_4, DOK q := List.forall_mem_cons.mpr ⟨dk64, List.forall_mem_cons.mpr ⟨dk65, List.forall_mem_cons.mpr ⟨dk66, List.forall_mem_cons.mpr ⟨dk67, List.forall_mem_cons.mpr ⟨dk68, List.forall_mem_cons.mpr ⟨dk69, List.forall_mem_cons.mpr ⟨dk70, List.forall_mem_cons.mpr ⟨dk71, List.forall_mem_cons.mpr ⟨dk72, List.forall_mem_cons.mpr ⟨dk73, List.forall_mem_cons.mpr ⟨dk74, List.forall_mem_cons.mpr ⟨dk75, List.forall_mem_cons.mpr ⟨dk76, List.forall_mem_cons.mpr ⟨dk77, List.forall_mem_cons.mpr ⟨dk78, List.forall_mem_cons.mpr ⟨dk79, fun _ h => absurd h List.not_mem_nil⟩⟩⟩⟩⟩⟩⟩⟩⟩⟩⟩⟩⟩⟩⟩⟩
def DTB_5 : List (List (Nat × ClassFile.Instr × Nat) × ByteArray) := [(cd80, prog_11_method_15_code), (cd81, prog_11_method_16_code), (cd82, prog_12_method_1_code), (cd83, prog_12_method_2_code), (cd84, prog_12_method_3_code), (cd85, prog_12_method_4_code), (cd86, prog_12_method_5_code), (cd87, prog_12_method_6_code), (cd88, prog_12_method_7_code), (cd89, prog_12_method_8_code), (cd90, prog_12_method_9_code), (cd91, prog_1_method_1_code), (cd92, prog_1_method_2_code), (cd93, prog_1_method_3_code), (cd94, prog_1_method_4_code), (cd95, prog_1_method_5_code)]
theorem DTB_5_ok : ∀ q ∈ DTB_5, DOK q := List.forall_mem_cons.mpr ⟨dk80, List.forall_mem_cons.mpr ⟨dk81, List.forall_mem_cons.mpr ⟨dk82, List.forall_mem_cons.mpr ⟨dk83, List.forall_mem_cons.mpr ⟨dk84, List.forall_mem_cons.mpr ⟨dk85, List.forall_mem_cons.mpr ⟨dk86, List.forall_mem_cons.mpr ⟨dk87, List.forall_mem_cons.mpr ⟨dk88, List.forall_mem_cons.mpr ⟨dk89, List.forall_mem_cons.mpr ⟨dk90, List.forall_mem_cons.mpr ⟨dk91, List.forall_mem_cons.mpr ⟨dk92, List.forall_mem_cons.mpr ⟨dk93, List.forall_mem_cons.mpr ⟨dk94, List.forall_mem_cons.mpr ⟨dk95, fun _ h => absurd h List.not_mem_nil⟩⟩⟩⟩⟩⟩⟩⟩⟩⟩⟩⟩⟩⟩⟩⟩
def DTB_6 : List (List (Nat × ClassFile.Instr × Nat) × ByteArray) := [(cd96, prog_1_method_6_code), (cd97, prog_1_method_7_code), (cd98, prog_1_method_8_code), (cd99, prog_1_method_9_code), (cd100, prog_1_method_10_code), (cd101, prog_1_method_11_code), (cd102, prog_1_method_12_code), (cd103, prog_1_method_13_code), (cd104, prog_1_method_14_code), (cd105, prog_1_method_15_code), (cd106, prog_1_method_16_code), (cd107, prog_1_method_17_code), (cd108, prog_1_method_18_code), (cd109, prog_1_method_19_code), (cd110, prog_1_method_20_code), (cd111, prog_1_method_21_code)]
theorem DTB_6_ok : ∀ q ∈ DTB_6, DOK q := List.forall_mem_cons.mpr ⟨dk96, List.forall_mem_cons.mpr ⟨dk97, List.forall_mem_cons.mpr ⟨dk98, List.forall_mem_cons.mpr ⟨dk99, List.forall_mem_cons.mpr ⟨dk100, List.forall_mem_cons.mpr ⟨dk101, List.forall_mem_cons.mpr ⟨dk102, List.forall_mem_cons.mpr ⟨dk103, List.forall_mem_cons.mpr ⟨dk104, List.forall_mem_cons.mpr ⟨dk105, List.forall_mem_cons.mpr ⟨dk106, List.forall_mem_cons.mpr ⟨dk107, List.forall_mem_cons.mpr ⟨dk108, List.forall_mem_cons.mpr ⟨dk109, List.forall_mem_cons.mpr ⟨dk110, List.forall_mem_cons.mpr ⟨dk111, fun _ h => absurd h List.not_mem_nil⟩⟩⟩⟩⟩⟩⟩⟩⟩⟩⟩⟩⟩⟩⟩⟩
def DTB_7 : List (List (Nat × ClassFile.Instr × Nat) × ByteArray) := [(cd112, prog_1_method_22_code), (cd113, prog_1_method_23_code), (cd114, prog_1_method_24_code), (cd115, prog_1_method_25_code), (cd116, prog_1_method_26_code), (cd117, prog_1_method_27_code), (cd118, prog_1_method_28_code), (cd119, prog_1_method_29_code), (cd120, prog_1_method_30_code), (cd121, prog_1_method_31_code), (cd122, prog_1_method_32_code), (cd123, prog_1_method_33_code), (cd124, prog_1_method_34_code), (cd125, prog_1_method_35_code), (cd126, prog_1_method_36_code), (cd127, prog_1_method_37_code)]
theorem DTB_7_ok : ∀ q ∈ DTB_7, DOK q := List.forall_mem_cons.mpr ⟨dk112, List.forall_mem_cons.mpr ⟨dk113, List.forall_mem_cons.mpr ⟨dk114, List.forall_mem_cons.mpr ⟨dk115, List.forall_mem_cons.mpr ⟨dk116, List.forall_mem_cons.mpr ⟨dk117, List.forall_mem_cons.mpr ⟨dk118, List.forall_mem_cons.mpr ⟨dk119, List.forall_mem_cons.mpr ⟨dk120, List.forall_mem_cons.mpr ⟨dk121, List.forall_mem_cons.mpr ⟨dk122, List.forall_mem_cons.mpr ⟨dk123, List.forall_mem_cons.mpr ⟨dk124, List.forall_mem_cons.mpr ⟨dk125, List.forall_mem_cons.mpr ⟨dk126, List.forall_mem_cons.mpr ⟨dk127, fun _ h => absurd h List.not_mem_nil⟩⟩⟩⟩⟩⟩⟩⟩⟩⟩⟩⟩⟩⟩⟩⟩
def DTB_8 : List (List (Nat × ClassFile.Instr × Nat) × ByteArray) := [(cd128, prog_1_method_38_code), (cd129, prog_1_method_39_code), (cd130, prog_1_method_40_code), (cd131, prog_1_method_41_code), (cd132, prog_1_method_42_code), (cd133, prog_1_method_43_code), (cd134, prog_1_method_44_code), (cd135, prog_1_method_45_code), (cd136, prog_1_method_46_code), (cd137, prog_1_method_47_code), (cd138, prog_1_method_48_code), (cd139, prog_1_method_49_code), (cd140, prog_1_method_50_code), (cd141, prog_1_method_51_code), (cd142, prog_1_method_52_code), (cd143, prog_1_method_53_code)]
theorem DTB_8_ok : ∀ q ∈ DTB_8, DOK q := List.forall_mem_cons.mpr ⟨dk128, List.forall_mem_cons.mpr ⟨dk129, List.forall_mem_cons.mpr ⟨dk130, List.forall_mem_cons.mpr ⟨dk131, List.forall_mem_cons.mpr ⟨dk132, List.forall_mem_cons.mpr ⟨dk133, List.forall_mem_cons.mpr ⟨dk134, List.forall_mem_cons.mpr ⟨dk135, List.forall_mem_cons.mpr ⟨dk136, List.forall_mem_cons.mpr ⟨dk137, List.forall_mem_cons.mpr ⟨dk138, List.forall_mem_cons.mpr ⟨dk139, List.forall_mem_cons.mpr ⟨dk140, List.forall_mem_cons.mpr ⟨dk141, List.forall_mem_cons.mpr ⟨dk142, List.forall_mem_cons.mpr ⟨dk143, fun _ h => absurd h List.not_mem_nil⟩⟩⟩⟩⟩⟩⟩⟩⟩⟩⟩⟩⟩⟩⟩⟩
def DTB_9 : List (List (Nat × ClassFile.Instr × Nat) × ByteArray) := [(cd144, prog_1_method_54_code), (cd145, prog_1_method_55_code), (cd146, prog_1_method_56_code), (cd147, prog_15_method_1_code), (cd148, prog_16_method_1_code), (cd149, prog_17_method_1_code), (cd150, prog_18_method_1_code), (cd151, prog_19_method_1_code), (cd152, prog_20_method_1_code), (cd153, prog_20_method_2_code), (cd154, prog_21_method_1_code), (cd155, prog_22_method_1_code), (cd156, prog_22_method_2_code), (cd157, prog_22_method_3_code), (cd158, prog_22_method_4_code), (cd159, prog_22_method_5_code)]
theorem DTB_9_ok : ∀ q ∈ DTB_9, DOK q := List.forall_mem_cons.mpr ⟨dk144, List.forall_mem_cons.mpr ⟨dk145, List.forall_mem_cons.mpr ⟨dk146, List.forall_mem_cons.mpr ⟨dk147, List.forall_mem_cons.mpr ⟨dk148, List.forall_mem_cons.mpr ⟨dk149, List.forall_mem_cons.mpr ⟨dk150, List.forall_mem_cons.mpr ⟨dk151, List.forall_mem_cons.mpr ⟨dk152, List.forall_mem_cons.mpr ⟨dk153, List.forall_mem_cons.mpr ⟨dk154, List.forall_mem_cons.mpr ⟨dk155, List.forall_mem_cons.mpr ⟨dk156, List.forall_mem_cons.mpr ⟨dk157, List.forall_mem_cons.mpr ⟨dk158, List.forall_mem_cons.mpr ⟨dk159, fun _ h => absurd h List.not_mem_nil⟩⟩⟩⟩⟩⟩⟩⟩⟩⟩⟩⟩⟩⟩⟩⟩
def DTB_10 : List (List (Nat × ClassFile.Instr × Nat) × ByteArray) := [(cd160, prog_22_method_6_code), (cd161, prog_23_method_1_code), (cd162, prog_14_method_1_code), (cd163, prog_14_method_2_code), (cd164, prog_14_method_3_code), (cd165, prog_14_method_4_code), (cd166, prog_14_method_5_code), (cd167, prog_14_method_6_code), (cd168, prog_14_method_7_code), (cd169, prog_14_method_8_code), (cd170, prog_14_method_9_code), (cd171, prog_14_method_10_code), (cd172, prog_14_method_11_code), (cd173, prog_14_method_12_code), (cd174, prog_14_method_13_code), (cd175, prog_14_method_14_code)]
theorem DTB_10_ok : ∀ q ∈ DTB_10, DOK q := List.forall_mem_cons.mpr ⟨dk160, List.forall_mem_cons.mpr ⟨dk161, List.forall_mem_cons.mpr ⟨dk162, List.forall_mem_cons.mpr ⟨dk163, List.forall_mem_cons.mpr ⟨dk164, List.forall_mem_cons.mpr ⟨dk165, List.forall_mem_cons.mpr ⟨dk166, List.forall_mem_cons.mpr ⟨dk167, List.forall_mem_cons.mpr ⟨dk168, List.forall_mem_cons.mpr ⟨dk169, List.forall_mem_cons.mpr ⟨dk170, List.forall_mem_cons.mpr ⟨dk171, List.forall_mem_cons.mpr ⟨dk172, List.forall_mem_cons.mpr ⟨dk173, List.forall_mem_cons.mpr ⟨dk174, List.forall_mem_cons.mpr ⟨dk175, fun _ h => absurd h List.not_mem_nil⟩⟩⟩⟩⟩⟩⟩⟩⟩⟩⟩⟩⟩⟩⟩⟩
def DTB_11 : List (List (Nat × ClassFile.Instr × Nat) × ByteArray) := [(cd176, prog_14_method_15_code), (cd177, prog_14_method_16_code), (cd178, prog_14_method_17_code), (cd179, prog_14_method_18_code), (cd180, prog_14_method_19_code), (cd181, prog_14_method_20_code), (cd182, prog_14_method_21_code), (cd183, prog_14_method_22_code), (cd184, prog_14_method_23_code), (cd185, prog_14_method_24_code), (cd186, prog_14_method_25_code), (cd187, prog_14_method_26_code), (cd188, prog_14_method_27_code), (cd189, prog_14_method_28_code), (cd190, prog_14_method_29_code), (cd191, prog_14_method_30_code)]
theorem DTB_11_ok : ∀ q ∈ DTB_11, DOK q := List.forall_mem_cons.mpr ⟨dk176, List.forall_mem_cons.mpr ⟨dk177, List.forall_mem_cons.mpr ⟨dk178, List.forall_mem_cons.mpr ⟨dk179, List.forall_mem_cons.mpr ⟨dk180, List.forall_mem_cons.mpr ⟨dk181, List.forall_mem_cons.mpr ⟨dk182, List.forall_mem_cons.mpr ⟨dk183, List.forall_mem_cons.mpr ⟨dk184, List.forall_mem_cons.mpr ⟨dk185, List.forall_mem_cons.mpr ⟨dk186, List.forall_mem_cons.mpr ⟨dk187, List.forall_mem_cons.mpr ⟨dk188, List.forall_mem_cons.mpr ⟨dk189, List.forall_mem_cons.mpr ⟨dk190, List.forall_mem_cons.mpr ⟨dk191, fun _ h => absurd h List.not_mem_nil⟩⟩⟩⟩⟩⟩⟩⟩⟩⟩⟩⟩⟩⟩⟩⟩
def DTB_12 : List (List (Nat × ClassFile.Instr × Nat) × ByteArray) := [(cd192, prog_14_method_31_code), (cd193, prog_14_method_32_code), (cd194, prog_14_method_33_code), (cd195, prog_14_method_34_code), (cd196, prog_14_method_35_code), (cd197, prog_14_method_36_code), (cd198, prog_14_method_37_code), (cd199, prog_14_method_38_code), (cd200, prog_14_method_39_code), (cd201, prog_14_method_40_code), (cd202, prog_14_method_41_code), (cd203, prog_14_method_42_code), (cd204, prog_14_method_43_code), (cd205, prog_14_method_44_code), (cd206, prog_14_method_45_code), (cd207, prog_14_method_46_code)]
theorem DTB_12_ok : ∀ q ∈ DTB_12, DOK q := List.forall_mem_cons.mpr ⟨dk192, List.forall_mem_cons.mpr ⟨dk193, List.forall_mem_cons.mpr ⟨dk194, List.forall_mem_cons.mpr ⟨dk195, List.forall_mem_cons.mpr ⟨dk196, List.forall_mem_cons.mpr ⟨dk197, List.forall_mem_cons.mpr ⟨dk198, List.forall_mem_cons.mpr ⟨dk199, List.forall_mem_cons.mpr ⟨dk200, List.forall_mem_cons.mpr ⟨dk201, List.forall_mem_cons.mpr ⟨dk202, List.forall_mem_cons.mpr ⟨dk203, List.forall_mem_cons.mpr ⟨dk204, List.forall_mem_cons.mpr ⟨dk205, List.forall_mem_cons.mpr ⟨dk206, List.forall_mem_cons.mpr ⟨dk207, fun _ h => absurd h List.not_mem_nil⟩⟩⟩⟩⟩⟩⟩⟩⟩⟩⟩⟩⟩⟩⟩⟩
def DTB_13 : List (List (Nat × ClassFile.Instr × Nat) × ByteArray) := [(cd208, prog_14_method_47_code), (cd209, prog_14_method_48_code), (cd210, prog_14_method_49_code), (cd211, prog_14_method_50_code), (cd212, prog_14_method_51_code), (cd213, prog_14_method_52_code), (cd214, prog_14_method_53_code), (cd215, prog_14_method_54_code), (cd216, prog_14_method_55_code), (cd217, prog_14_method_56_code), (cd218, prog_14_method_57_code), (cd219, prog_14_method_58_code), (cd220, prog_14_method_59_code), (cd221, prog_14_method_60_code), (cd222, prog_14_method_61_code), (cd223, prog_14_method_62_code)]
theorem DTB_13_ok : ∀ q ∈ DTB_13, DOK q := List.forall_mem_cons.mpr ⟨dk208, List.forall_mem_cons.mpr ⟨dk209, List.forall_mem_cons.mpr ⟨dk210, List.forall_mem_cons.mpr ⟨dk211, List.forall_mem_cons.mpr ⟨dk212, List.forall_mem_cons.mpr ⟨dk213, List.forall_mem_cons.mpr ⟨dk214, List.forall_mem_cons.mpr ⟨dk215, List.forall_mem_cons.mpr ⟨dk216, List.forall_mem_cons.mpr ⟨dk217, List.forall_mem_cons.mpr ⟨dk218, List.forall_mem_cons.mpr ⟨dk219, List.forall_mem_cons.mpr ⟨dk220, List.forall_mem_cons.mpr ⟨dk221, List.forall_mem_cons.mpr ⟨dk222, List.forall_mem_cons.mpr ⟨dk223, fun _ h => absurd h List.not_mem_nil⟩⟩⟩⟩⟩⟩⟩⟩⟩⟩⟩⟩⟩⟩⟩⟩
def DTB_14 : List (List (Nat × ClassFile.Instr × Nat) × ByteArray) := [(cd224, prog_14_method_63_code), (cd225, prog_14_method_64_code), (cd226, prog_14_method_65_code), (cd227, prog_14_method_66_code), (cd228, prog_14_method_67_code), (cd229, prog_14_method_68_code), (cd230, prog_14_method_69_code), (cd231, prog_14_method_70_code), (cd232, prog_14_method_71_code), (cd233, prog_14_method_72_code), (cd234, prog_14_method_73_code), (cd235, prog_14_method_74_code), (cd236, prog_14_method_75_code), (cd237, prog_14_method_76_code), (cd238, prog_14_method_77_code), (cd239, prog_14_method_78_code)]
theorem DTB_14_ok : ∀ q ∈ DTB_14, DOK q := List.forall_mem_cons.mpr ⟨dk224, List.forall_mem_cons.mpr ⟨dk225, List.forall_mem_cons.mpr ⟨dk226, List.forall_mem_cons.mpr ⟨dk227, List.forall_mem_cons.mpr ⟨dk228, List.forall_mem_cons.mpr ⟨dk229, List.forall_mem_cons.mpr ⟨dk230, List.forall_mem_cons.mpr ⟨dk231, List.forall_mem_cons.mpr ⟨dk232, List.forall_mem_cons.mpr ⟨dk233, List.forall_mem_cons.mpr ⟨dk234, List.forall_mem_cons.mpr ⟨dk235, List.forall_mem_cons.mpr ⟨dk236, List.forall_mem_cons.mpr ⟨dk237, List.forall_mem_cons.mpr ⟨dk238, List.forall_mem_cons.mpr ⟨dk239, fun _ h => absurd h List.not_mem_nil⟩⟩⟩⟩⟩⟩⟩⟩⟩⟩⟩⟩⟩⟩⟩⟩
def DTB_15 : List (List (Nat × ClassFile.Instr × Nat) × ByteArray) := [(cd240, prog_14_method_79_code), (cd241, prog_14_method_80_code), (cd242, prog_14_method_81_code), (cd243, prog_14_method_82_code), (cd244, prog_14_method_83_code), (cd245, prog_14_method_84_code), (cd246, prog_27_method_49_code), (cd247, prog_36_method_1_code), (cd248, prog_37_method_1_code), (cd249, prog_39_method_1_code), (cd250, prog_39_method_2_code), (cd251, prog_39_method_3_code), (cd252, prog_39_method_6_code), (cd253, prog_38_method_2_code), (cd254, prog_38_method_6_code), (cd255, prog_38_method_7_code)]
theorem DTB_15_ok : ∀ q ∈ DTB_15, DOK q := List.forall_mem_cons.mpr ⟨dk240, List.forall_mem_cons.mpr ⟨dk241, List.forall_mem_cons.mpr ⟨dk242, List.forall_mem_cons.mpr ⟨dk243, List.forall_mem_cons.mpr ⟨dk244, List.forall_mem_cons.mpr ⟨dk245, List.forall_mem_cons.mpr ⟨dk246, List.forall_mem_cons.mpr ⟨dk247, List.forall_mem_cons.mpr ⟨dk248, List.forall_mem_cons.mpr ⟨dk249, List.forall_mem_cons.mpr ⟨dk250, List.forall_mem_cons.mpr ⟨dk251, List.forall_mem_cons.mpr ⟨dk252, List.forall_mem_cons.mpr ⟨dk253, List.forall_mem_cons.mpr ⟨dk254, List.forall_mem_cons.mpr ⟨dk255, fun _ h => absurd h List.not_mem_nil⟩⟩⟩⟩⟩⟩⟩⟩⟩⟩⟩⟩⟩⟩⟩⟩
def DTB_16 : List (List (Nat × ClassFile.Instr × Nat) × ByteArray) := [(cd256, prog_38_method_24_code), (cd257, prog_38_method_25_code), (cd258, prog_38_method_55_code), (cd259, prog_40_method_30_code), (cd260, prog_40_method_102_code), (cd261, prog_40_method_103_code), (cd262, prog_40_method_109_code), (cd263, prog_40_method_121_code), (cd264, prog_40_method_123_code), (cd265, prog_47_method_27_code), (cd266, prog_47_method_28_code), (cd267, method_3_code), (cd268, code)]
theorem DTB_16_ok : ∀ q ∈ DTB_16, DOK q := List.forall_mem_cons.mpr ⟨dk256, List.forall_mem_cons.mpr ⟨dk257, List.forall_mem_cons.mpr ⟨dk258, List.forall_mem_cons.mpr ⟨dk259, List.forall_mem_cons.mpr ⟨dk260, List.forall_mem_cons.mpr ⟨dk261, List.forall_mem_cons.mpr ⟨dk262, List.forall_mem_cons.mpr ⟨dk263, List.forall_mem_cons.mpr ⟨dk264, List.forall_mem_cons.mpr ⟨dk265, List.forall_mem_cons.mpr ⟨dk266, List.forall_mem_cons.mpr ⟨dk267, List.forall_mem_cons.mpr ⟨dk268, fun _ h => absurd h List.not_mem_nil⟩⟩⟩⟩⟩⟩⟩⟩⟩⟩⟩⟩⟩
set_option maxRecDepth 100000 in
theorem DTB_cut : DTB = DTB_0 ++ (DTB_1 ++ (DTB_2 ++ (DTB_3 ++ (DTB_4 ++ (DTB_5 ++ (DTB_6 ++ (DTB_7 ++ (DTB_8 ++ (DTB_9 ++ (DTB_10 ++ (DTB_11 ++ (DTB_12 ++ (DTB_13 ++ (DTB_14 ++ (DTB_15 ++ (DTB_16)))))))))))))))) := rfl
theorem DTB_ok : ∀ q ∈ DTB, DOK q := by
  rw [DTB_cut]
  exact List.forall_mem_append.mpr ⟨DTB_0_ok, List.forall_mem_append.mpr ⟨DTB_1_ok, List.forall_mem_append.mpr ⟨DTB_2_ok, List.forall_mem_append.mpr ⟨DTB_3_ok, List.forall_mem_append.mpr ⟨DTB_4_ok, List.forall_mem_append.mpr ⟨DTB_5_ok, List.forall_mem_append.mpr ⟨DTB_6_ok, List.forall_mem_append.mpr ⟨DTB_7_ok, List.forall_mem_append.mpr ⟨DTB_8_ok, List.forall_mem_append.mpr ⟨DTB_9_ok, List.forall_mem_append.mpr ⟨DTB_10_ok, List.forall_mem_append.mpr ⟨DTB_11_ok, List.forall_mem_append.mpr ⟨DTB_12_ok, List.forall_mem_append.mpr ⟨DTB_13_ok, List.forall_mem_append.mpr ⟨DTB_14_ok, List.forall_mem_append.mpr ⟨DTB_15_ok, DTB_16_ok⟩⟩⟩⟩⟩⟩⟩⟩⟩⟩⟩⟩⟩⟩⟩⟩
set_option maxRecDepth 100000 in
theorem DTB_cd : DTB.map (fun q => q.1) = CDs := rfl
set_option maxRecDepth 100000 in
theorem DTB_mt : DTB.map (fun q => q.2) = MTB.map (fun q => q.2.1) := rfl
theorem lk_mem {α : Type} {k : Nat} {x : α} : ∀ {l : List (Nat × α)}, lk k l = some x → (k, x) ∈ l
  | [], h => by cases h
  | y :: r, h => by
    simp only [lk] at h
    cases e : Nat.beq y.1 k with
    | true =>
      rw [e] at h
      simp only [cond_true] at h
      have e2 : y.1 = k := Nat.eq_of_beq_eq_true e
      have e3 : y.2 = x := Option.some.inj h
      rw [← e2, ← e3]
      exact List.mem_cons_self
    | false =>
      rw [e] at h
      simp only [cond_false] at h
      exact List.mem_cons_of_mem _ (lk_mem h)
theorem CD_at {mi pc len : Nat} {i : ClassFile.Instr} (h : CD mi pc = some (i, len)) : ∃ t, CDs[mi]? = some t ∧ (pc, i, len) ∈ t := by
  unfold CD at h
  cases e : CDs[mi]? with
  | none => rw [e] at h; cases h
  | some t => rw [e] at h; exact ⟨t, rfl, lk_mem h⟩
theorem CD_dec {mi pc len : Nat} {i : ClassFile.Instr} {r : MTY} (h : CD mi pc = some (i, len)) (hm : MTB[mi]? = some r) : decode r.2.1 pc = .ok (i, len) := by
  obtain ⟨t, h1, h2⟩ := CD_at h
  rw [← DTB_cd, List.getElem?_map] at h1
  cases e : DTB[mi]? with
  | none => rw [e] at h1; cases h1
  | some q =>
    rw [e] at h1
    have h3 : (MTB.map (fun q => q.2.1))[mi]? = some r.2.1 := by rw [List.getElem?_map, hm]; rfl
    rw [← DTB_mt, List.getElem?_map, e] at h3
    have e1 : q.1 = t := Option.some.inj h1
    have e2 : q.2 = r.2.1 := Option.some.inj h3
    have := DTB_ok q (List.mem_of_getElem? e) (pc, i, len) (by rw [e1]; exact h2)
    rw [e2] at this
    exact this
/-- lengths, and constants within their bounds -/
def iOK (i : ClassFile.Instr) (len : Nat) : Bool := match i with
  | .iconst n => len == 1 && decide (-1 ≤ n ∧ n ≤ 5)
  | .bipush n => len == 2 && decide (-128 ≤ n ∧ n ≤ 127)
  | .sipush n => len == 3 && decide (-32768 ≤ n ∧ n ≤ 32767)
  | .ldc _ | .iload _ | .lload _ | .aload _ | .istore _ | .lstore _ | .astore _ | .newarray _ => len == 2
  | .ldc_w _ | .ldc2_w _ | .iinc _ _ | .goto _ | .ifCond _ _ | .if_icmp _ _ | .if_acmp _ _ | .ifnull _ | .ifnonnull _ | .getfield _ | .putfield _ | .getstatic _ | .anewarray _ | .new _ | .checkcast _ | .invokestatic _ | .invokespecial _ | .invokevirtual _ => len == 3
  | .multianewarray _ _ => len == 4
  | .invokeinterface _ _ => len == 5
  | .tableswitch _ _ _ _ => true
  | .lookupswitch _ _ => true
  | .invokedynamic _ => true
  | .instanceof _ => true
  | _ => len == 1
set_option maxRecDepth 100000 in
theorem CD_all : (CDs.all fun t => t.all fun x => iOK x.2.1 x.2.2) = true := by decide +kernel
theorem CD_ok {mi pc len : Nat} {i : ClassFile.Instr} (h : CD mi pc = some (i, len)) : iOK i len = true := by
  obtain ⟨t, h1, h2⟩ := CD_at h
  exact List.all_eq_true.mp (List.all_eq_true.mp CD_all t (List.mem_of_getElem? h1)) _ h2
