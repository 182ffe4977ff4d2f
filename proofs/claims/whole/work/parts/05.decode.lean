/-! each instruction is what its bytes spell -/
theorem qd0_0 : qi0_0.all (qdOk code) = true := by decide +kernel
theorem qd0_1 : qi0_1.all (qdOk code) = true := by decide +kernel
theorem qd0_2 : qi0_2.all (qdOk code) = true := by decide +kernel
theorem qd0_3 : qi0_3.all (qdOk code) = true := by decide +kernel
theorem qd0_4 : qi0_4.all (qdOk code) = true := by decide +kernel
theorem qd0_5 : qi0_5.all (qdOk code) = true := by decide +kernel
theorem qd0_6 : qi0_6.all (qdOk code) = true := by decide +kernel
theorem qd0_7 : qi0_7.all (qdOk code) = true := by decide +kernel
theorem qd0_8 : qi0_8.all (qdOk code) = true := by decide +kernel
theorem qd0_9 : qi0_9.all (qdOk code) = true := by decide +kernel
theorem qd0_10 : qi0_10.all (qdOk code) = true := by decide +kernel
theorem qd0_11 : qi0_11.all (qdOk code) = true := by decide +kernel
theorem qd0_12 : qi0_12.all (qdOk code) = true := by decide +kernel
theorem qd0_13 : qi0_13.all (qdOk code) = true := by decide +kernel
theorem qd0_14 : qi0_14.all (qdOk code) = true := by decide +kernel
theorem qd0_15 : qi0_15.all (qdOk code) = true := by decide +kernel
theorem qd0_16 : qi0_16.all (qdOk code) = true := by decide +kernel
theorem qd0_17 : qi0_17.all (qdOk code) = true := by decide +kernel
theorem qd0_18 : qi0_18.all (qdOk code) = true := by decide +kernel
theorem qd0_19 : qi0_19.all (qdOk code) = true := by decide +kernel
theorem qd0_20 : qi0_20.all (qdOk code) = true := by decide +kernel
theorem qd0_21 : qi0_21.all (qdOk code) = true := by decide +kernel
theorem qd0_22 : qi0_22.all (qdOk code) = true := by decide +kernel
theorem qd0_23 : qi0_23.all (qdOk code) = true := by decide +kernel
theorem qd0_24 : qi0_24.all (qdOk code) = true := by decide +kernel
theorem qd0_25 : qi0_25.all (qdOk code) = true := by decide +kernel
theorem qd0_26 : qi0_26.all (qdOk code) = true := by decide +kernel
theorem qd0_27 : qi0_27.all (qdOk code) = true := by decide +kernel
theorem qd0_28 : qi0_28.all (qdOk code) = true := by decide +kernel
theorem qd0_29 : qi0_29.all (qdOk code) = true := by decide +kernel
theorem qd0_30 : qi0_30.all (qdOk code) = true := by decide +kernel
theorem qd0_31 : qi0_31.all (qdOk code) = true := by decide +kernel
theorem qd0_32 : qi0_32.all (qdOk code) = true := by decide +kernel
theorem qd0_33 : qi0_33.all (qdOk code) = true := by decide +kernel
theorem qd0_34 : qi0_34.all (qdOk code) = true := by decide +kernel
theorem qd0 : qi0.all (qdOk code) = true := qall_app qd0_0 (qall_app qd0_1 (qall_app qd0_2 (qall_app qd0_3 (qall_app qd0_4 (qall_app qd0_5 (qall_app qd0_6 (qall_app qd0_7 (qall_app qd0_8 (qall_app qd0_9 (qall_app qd0_10 (qall_app qd0_11 (qall_app qd0_12 (qall_app qd0_13 (qall_app qd0_14 (qall_app qd0_15 (qall_app qd0_16 (qall_app qd0_17 (qall_app qd0_18 (qall_app qd0_19 (qall_app qd0_20 (qall_app qd0_21 (qall_app qd0_22 (qall_app qd0_23 (qall_app qd0_24 (qall_app qd0_25 (qall_app qd0_26 (qall_app qd0_27 (qall_app qd0_28 (qall_app qd0_29 (qall_app qd0_30 (qall_app qd0_31 (qall_app qd0_32 (qall_app qd0_33 (qd0_34))))))))))))))))))))))))))))))))))
theorem qd1_0 : qi1_0.all (qdOk prog_15_method_49_code) = true := by decide +kernel
theorem qd1_1 : qi1_1.all (qdOk prog_15_method_49_code) = true := by decide +kernel
theorem qd1 : qi1.all (qdOk prog_15_method_49_code) = true := qall_app qd1_0 (qd1_1)
theorem qd2_0 : qi2_0.all (qdOk prog_18_method_103_code) = true := by decide +kernel
theorem qd2 : qi2.all (qdOk prog_18_method_103_code) = true := qd2_0
theorem qd3_0 : qi3_0.all (qdOk prog_18_method_101_code) = true := by decide +kernel
theorem qd3 : qi3.all (qdOk prog_18_method_101_code) = true := qd3_0
theorem qd4_0 : qi4_0.all (qdOk prog_16_method_61_code) = true := by decide +kernel
theorem qd4 : qi4.all (qdOk prog_16_method_61_code) = true := qd4_0
theorem qd5_0 : qi5_0.all (qdOk prog_16_method_66_code) = true := by decide +kernel
theorem qd5 : qi5.all (qdOk prog_16_method_66_code) = true := qd5_0
theorem qd6_0 : qi6_0.all (qdOk prog_16_method_69_code) = true := by decide +kernel
theorem qd6 : qi6.all (qdOk prog_16_method_69_code) = true := qd6_0
theorem qd7_0 : qi7_0.all (qdOk prog_16_method_70_code) = true := by decide +kernel
theorem qd7 : qi7.all (qdOk prog_16_method_70_code) = true := qd7_0
theorem qd8_0 : qi8_0.all (qdOk prog_2_method_2_code) = true := by decide +kernel
theorem qd8_1 : qi8_1.all (qdOk prog_2_method_2_code) = true := by decide +kernel
theorem qd8 : qi8.all (qdOk prog_2_method_2_code) = true := qall_app qd8_0 (qd8_1)
theorem qd9_0 : qi9_0.all (qdOk prog_2_method_4_code) = true := by decide +kernel
theorem qd9_1 : qi9_1.all (qdOk prog_2_method_4_code) = true := by decide +kernel
theorem qd9 : qi9.all (qdOk prog_2_method_4_code) = true := qall_app qd9_0 (qd9_1)
theorem qd10_0 : qi10_0.all (qdOk prog_2_method_1_code) = true := by decide +kernel
theorem qd10 : qi10.all (qdOk prog_2_method_1_code) = true := qd10_0
theorem qd11_0 : qi11_0.all (qdOk prog_2_method_3_code) = true := by decide +kernel
theorem qd11 : qi11.all (qdOk prog_2_method_3_code) = true := qd11_0
theorem qd12_0 : qi12_0.all (qdOk prog_12_method_8_code) = true := by decide +kernel
theorem qd12_1 : qi12_1.all (qdOk prog_12_method_8_code) = true := by decide +kernel
theorem qd12 : qi12.all (qdOk prog_12_method_8_code) = true := qall_app qd12_0 (qd12_1)
theorem qd13_0 : qi13_0.all (qdOk prog_12_method_10_code) = true := by decide +kernel
theorem qd13_1 : qi13_1.all (qdOk prog_12_method_10_code) = true := by decide +kernel
theorem qd13 : qi13.all (qdOk prog_12_method_10_code) = true := qall_app qd13_0 (qd13_1)
theorem qd14_0 : qi14_0.all (qdOk prog_12_method_6_code) = true := by decide +kernel
theorem qd14 : qi14.all (qdOk prog_12_method_6_code) = true := qd14_0
theorem qd15_0 : qi15_0.all (qdOk prog_12_method_13_code) = true := by decide +kernel
theorem qd15_1 : qi15_1.all (qdOk prog_12_method_13_code) = true := by decide +kernel
theorem qd15_2 : qi15_2.all (qdOk prog_12_method_13_code) = true := by decide +kernel
theorem qd15 : qi15.all (qdOk prog_12_method_13_code) = true := qall_app qd15_0 (qall_app qd15_1 (qd15_2))
theorem qd16_0 : qi16_0.all (qdOk prog_12_method_17_code) = true := by decide +kernel
theorem qd16_1 : qi16_1.all (qdOk prog_12_method_17_code) = true := by decide +kernel
theorem qd16 : qi16.all (qdOk prog_12_method_17_code) = true := qall_app qd16_0 (qd16_1)
theorem qd17_0 : qi17_0.all (qdOk prog_12_method_18_code) = true := by decide +kernel
theorem qd17_1 : qi17_1.all (qdOk prog_12_method_18_code) = true := by decide +kernel
theorem qd17_2 : qi17_2.all (qdOk prog_12_method_18_code) = true := by decide +kernel
theorem qd17_3 : qi17_3.all (qdOk prog_12_method_18_code) = true := by decide +kernel
theorem qd17_4 : qi17_4.all (qdOk prog_12_method_18_code) = true := by decide +kernel
theorem qd17_5 : qi17_5.all (qdOk prog_12_method_18_code) = true := by decide +kernel
theorem qd17 : qi17.all (qdOk prog_12_method_18_code) = true := qall_app qd17_0 (qall_app qd17_1 (qall_app qd17_2 (qall_app qd17_3 (qall_app qd17_4 (qd17_5)))))
theorem qd18_0 : qi18_0.all (qdOk prog_12_method_1_code) = true := by decide +kernel
theorem qd18 : qi18.all (qdOk prog_12_method_1_code) = true := qd18_0
theorem qd19_0 : qi19_0.all (qdOk prog_12_method_14_code) = true := by decide +kernel
theorem qd19 : qi19.all (qdOk prog_12_method_14_code) = true := qd19_0
theorem qd20_0 : qi20_0.all (qdOk prog_12_method_15_code) = true := by decide +kernel
theorem qd20 : qi20.all (qdOk prog_12_method_15_code) = true := qd20_0
theorem qd21_0 : qi21_0.all (qdOk prog_12_method_7_code) = true := by decide +kernel
theorem qd21 : qi21.all (qdOk prog_12_method_7_code) = true := qd21_0
theorem qd22_0 : qi22_0.all (qdOk prog_12_method_16_code) = true := by decide +kernel
theorem qd22_1 : qi22_1.all (qdOk prog_12_method_16_code) = true := by decide +kernel
theorem qd22 : qi22.all (qdOk prog_12_method_16_code) = true := qall_app qd22_0 (qd22_1)
theorem qd23_0 : qi23_0.all (qdOk prog_12_method_3_code) = true := by decide +kernel
theorem qd23 : qi23.all (qdOk prog_12_method_3_code) = true := qd23_0
theorem qd24_0 : qi24_0.all (qdOk prog_12_method_11_code) = true := by decide +kernel
theorem qd24_1 : qi24_1.all (qdOk prog_12_method_11_code) = true := by decide +kernel
theorem qd24_2 : qi24_2.all (qdOk prog_12_method_11_code) = true := by decide +kernel
theorem qd24_3 : qi24_3.all (qdOk prog_12_method_11_code) = true := by decide +kernel
theorem qd24 : qi24.all (qdOk prog_12_method_11_code) = true := qall_app qd24_0 (qall_app qd24_1 (qall_app qd24_2 (qd24_3)))
theorem qd25_0 : qi25_0.all (qdOk prog_12_method_2_code) = true := by decide +kernel
theorem qd25_1 : qi25_1.all (qdOk prog_12_method_2_code) = true := by decide +kernel
theorem qd25_2 : qi25_2.all (qdOk prog_12_method_2_code) = true := by decide +kernel
theorem qd25 : qi25.all (qdOk prog_12_method_2_code) = true := qall_app qd25_0 (qall_app qd25_1 (qd25_2))
theorem qd26_0 : qi26_0.all (qdOk prog_12_method_19_code) = true := by decide +kernel
theorem qd26_1 : qi26_1.all (qdOk prog_12_method_19_code) = true := by decide +kernel
theorem qd26 : qi26.all (qdOk prog_12_method_19_code) = true := qall_app qd26_0 (qd26_1)
theorem qd27_0 : qi27_0.all (qdOk prog_12_method_4_code) = true := by decide +kernel
theorem qd27 : qi27.all (qdOk prog_12_method_4_code) = true := qd27_0
theorem qd28_0 : qi28_0.all (qdOk prog_12_method_12_code) = true := by decide +kernel
theorem qd28_1 : qi28_1.all (qdOk prog_12_method_12_code) = true := by decide +kernel
theorem qd28_2 : qi28_2.all (qdOk prog_12_method_12_code) = true := by decide +kernel
theorem qd28 : qi28.all (qdOk prog_12_method_12_code) = true := qall_app qd28_0 (qall_app qd28_1 (qd28_2))
theorem qd29_0 : qi29_0.all (qdOk prog_12_method_5_code) = true := by decide +kernel
theorem qd29 : qi29.all (qdOk prog_12_method_5_code) = true := qd29_0
theorem qd30_0 : qi30_0.all (qdOk prog_1_method_33_code) = true := by decide +kernel
theorem qd30_1 : qi30_1.all (qdOk prog_1_method_33_code) = true := by decide +kernel
theorem qd30 : qi30.all (qdOk prog_1_method_33_code) = true := qall_app qd30_0 (qd30_1)
theorem qd31_0 : qi31_0.all (qdOk prog_1_method_20_code) = true := by decide +kernel
theorem qd31 : qi31.all (qdOk prog_1_method_20_code) = true := qd31_0
theorem qd32_0 : qi32_0.all (qdOk prog_1_method_30_code) = true := by decide +kernel
theorem qd32 : qi32.all (qdOk prog_1_method_30_code) = true := qd32_0
theorem qd33_0 : qi33_0.all (qdOk prog_1_method_32_code) = true := by decide +kernel
theorem qd33 : qi33.all (qdOk prog_1_method_32_code) = true := qd33_0
theorem qd34_0 : qi34_0.all (qdOk prog_1_method_49_code) = true := by decide +kernel
theorem qd34_1 : qi34_1.all (qdOk prog_1_method_49_code) = true := by decide +kernel
theorem qd34_2 : qi34_2.all (qdOk prog_1_method_49_code) = true := by decide +kernel
theorem qd34 : qi34.all (qdOk prog_1_method_49_code) = true := qall_app qd34_0 (qall_app qd34_1 (qd34_2))
theorem qd35_0 : qi35_0.all (qdOk prog_1_method_36_code) = true := by decide +kernel
theorem qd35_1 : qi35_1.all (qdOk prog_1_method_36_code) = true := by decide +kernel
theorem qd35 : qi35.all (qdOk prog_1_method_36_code) = true := qall_app qd35_0 (qd35_1)
theorem qd36_0 : qi36_0.all (qdOk prog_1_method_28_code) = true := by decide +kernel
theorem qd36_1 : qi36_1.all (qdOk prog_1_method_28_code) = true := by decide +kernel
theorem qd36 : qi36.all (qdOk prog_1_method_28_code) = true := qall_app qd36_0 (qd36_1)
theorem qd37_0 : qi37_0.all (qdOk prog_1_method_46_code) = true := by decide +kernel
theorem qd37_1 : qi37_1.all (qdOk prog_1_method_46_code) = true := by decide +kernel
theorem qd37 : qi37.all (qdOk prog_1_method_46_code) = true := qall_app qd37_0 (qd37_1)
theorem qd38_0 : qi38_0.all (qdOk prog_1_method_6_code) = true := by decide +kernel
theorem qd38 : qi38.all (qdOk prog_1_method_6_code) = true := qd38_0
theorem qd39_0 : qi39_0.all (qdOk prog_1_method_34_code) = true := by decide +kernel
theorem qd39 : qi39.all (qdOk prog_1_method_34_code) = true := qd39_0
theorem qd40_0 : qi40_0.all (qdOk prog_1_method_43_code) = true := by decide +kernel
theorem qd40 : qi40.all (qdOk prog_1_method_43_code) = true := qd40_0
theorem qd41_0 : qi41_0.all (qdOk prog_1_method_51_code) = true := by decide +kernel
theorem qd41 : qi41.all (qdOk prog_1_method_51_code) = true := qd41_0
theorem qd42_0 : qi42_0.all (qdOk prog_1_method_37_code) = true := by decide +kernel
theorem qd42_1 : qi42_1.all (qdOk prog_1_method_37_code) = true := by decide +kernel
theorem qd42 : qi42.all (qdOk prog_1_method_37_code) = true := qall_app qd42_0 (qd42_1)
theorem qd43_0 : qi43_0.all (qdOk prog_1_method_35_code) = true := by decide +kernel
theorem qd43 : qi43.all (qdOk prog_1_method_35_code) = true := qd43_0
theorem qd44_0 : qi44_0.all (qdOk prog_1_method_53_code) = true := by decide +kernel
theorem qd44_1 : qi44_1.all (qdOk prog_1_method_53_code) = true := by decide +kernel
theorem qd44 : qi44.all (qdOk prog_1_method_53_code) = true := qall_app qd44_0 (qd44_1)
theorem qd45_0 : qi45_0.all (qdOk prog_1_method_19_code) = true := by decide +kernel
theorem qd45_1 : qi45_1.all (qdOk prog_1_method_19_code) = true := by decide +kernel
theorem qd45 : qi45.all (qdOk prog_1_method_19_code) = true := qall_app qd45_0 (qd45_1)
theorem qd46_0 : qi46_0.all (qdOk prog_1_method_12_code) = true := by decide +kernel
theorem qd46 : qi46.all (qdOk prog_1_method_12_code) = true := qd46_0
theorem qd47_0 : qi47_0.all (qdOk prog_1_method_50_code) = true := by decide +kernel
theorem qd47_1 : qi47_1.all (qdOk prog_1_method_50_code) = true := by decide +kernel
theorem qd47 : qi47.all (qdOk prog_1_method_50_code) = true := qall_app qd47_0 (qd47_1)
theorem qd48_0 : qi48_0.all (qdOk prog_1_method_21_code) = true := by decide +kernel
theorem qd48 : qi48.all (qdOk prog_1_method_21_code) = true := qd48_0
theorem qd49_0 : qi49_0.all (qdOk prog_1_method_45_code) = true := by decide +kernel
theorem qd49_1 : qi49_1.all (qdOk prog_1_method_45_code) = true := by decide +kernel
theorem qd49 : qi49.all (qdOk prog_1_method_45_code) = true := qall_app qd49_0 (qd49_1)
theorem qd50_0 : qi50_0.all (qdOk prog_1_method_15_code) = true := by decide +kernel
theorem qd50 : qi50.all (qdOk prog_1_method_15_code) = true := qd50_0
theorem qd51_0 : qi51_0.all (qdOk prog_1_method_14_code) = true := by decide +kernel
theorem qd51_1 : qi51_1.all (qdOk prog_1_method_14_code) = true := by decide +kernel
theorem qd51_2 : qi51_2.all (qdOk prog_1_method_14_code) = true := by decide +kernel
theorem qd51 : qi51.all (qdOk prog_1_method_14_code) = true := qall_app qd51_0 (qall_app qd51_1 (qd51_2))
theorem qd52_0 : qi52_0.all (qdOk prog_1_method_41_code) = true := by decide +kernel
theorem qd52 : qi52.all (qdOk prog_1_method_41_code) = true := qd52_0
theorem qd53_0 : qi53_0.all (qdOk prog_1_method_25_code) = true := by decide +kernel
theorem qd53 : qi53.all (qdOk prog_1_method_25_code) = true := qd53_0
theorem qd54_0 : qi54_0.all (qdOk prog_1_method_47_code) = true := by decide +kernel
theorem qd54_1 : qi54_1.all (qdOk prog_1_method_47_code) = true := by decide +kernel
theorem qd54 : qi54.all (qdOk prog_1_method_47_code) = true := qall_app qd54_0 (qd54_1)
theorem qd55_0 : qi55_0.all (qdOk prog_1_method_1_code) = true := by decide +kernel
theorem qd55_1 : qi55_1.all (qdOk prog_1_method_1_code) = true := by decide +kernel
theorem qd55_2 : qi55_2.all (qdOk prog_1_method_1_code) = true := by decide +kernel
theorem qd55 : qi55.all (qdOk prog_1_method_1_code) = true := qall_app qd55_0 (qall_app qd55_1 (qd55_2))
theorem qd56_0 : qi56_0.all (qdOk prog_1_method_39_code) = true := by decide +kernel
theorem qd56 : qi56.all (qdOk prog_1_method_39_code) = true := qd56_0
theorem qd57_0 : qi57_0.all (qdOk prog_1_method_40_code) = true := by decide +kernel
theorem qd57 : qi57.all (qdOk prog_1_method_40_code) = true := qd57_0
theorem qd58_0 : qi58_0.all (qdOk prog_1_method_44_code) = true := by decide +kernel
theorem qd58_1 : qi58_1.all (qdOk prog_1_method_44_code) = true := by decide +kernel
theorem qd58 : qi58.all (qdOk prog_1_method_44_code) = true := qall_app qd58_0 (qd58_1)
theorem qd59_0 : qi59_0.all (qdOk prog_1_method_26_code) = true := by decide +kernel
theorem qd59_1 : qi59_1.all (qdOk prog_1_method_26_code) = true := by decide +kernel
theorem qd59 : qi59.all (qdOk prog_1_method_26_code) = true := qall_app qd59_0 (qd59_1)
theorem qd60_0 : qi60_0.all (qdOk prog_1_method_27_code) = true := by decide +kernel
theorem qd60 : qi60.all (qdOk prog_1_method_27_code) = true := qd60_0
theorem qd61_0 : qi61_0.all (qdOk prog_1_method_48_code) = true := by decide +kernel
theorem qd61_1 : qi61_1.all (qdOk prog_1_method_48_code) = true := by decide +kernel
theorem qd61_2 : qi61_2.all (qdOk prog_1_method_48_code) = true := by decide +kernel
theorem qd61 : qi61.all (qdOk prog_1_method_48_code) = true := qall_app qd61_0 (qall_app qd61_1 (qd61_2))
theorem qd62_0 : qi62_0.all (qdOk prog_1_method_10_code) = true := by decide +kernel
theorem qd62 : qi62.all (qdOk prog_1_method_10_code) = true := qd62_0
theorem qd63_0 : qi63_0.all (qdOk prog_1_method_11_code) = true := by decide +kernel
theorem qd63 : qi63.all (qdOk prog_1_method_11_code) = true := qd63_0
theorem qd64_0 : qi64_0.all (qdOk prog_1_method_31_code) = true := by decide +kernel
theorem qd64 : qi64.all (qdOk prog_1_method_31_code) = true := qd64_0
theorem qd65_0 : qi65_0.all (qdOk prog_1_method_29_code) = true := by decide +kernel
theorem qd65 : qi65.all (qdOk prog_1_method_29_code) = true := qd65_0
theorem qd66_0 : qi66_0.all (qdOk prog_1_method_13_code) = true := by decide +kernel
theorem qd66_1 : qi66_1.all (qdOk prog_1_method_13_code) = true := by decide +kernel
theorem qd66 : qi66.all (qdOk prog_1_method_13_code) = true := qall_app qd66_0 (qd66_1)
theorem qd67_0 : qi67_0.all (qdOk prog_1_method_8_code) = true := by decide +kernel
theorem qd67 : qi67.all (qdOk prog_1_method_8_code) = true := qd67_0
theorem qd68_0 : qi68_0.all (qdOk prog_1_method_9_code) = true := by decide +kernel
theorem qd68 : qi68.all (qdOk prog_1_method_9_code) = true := qd68_0
theorem qd69_0 : qi69_0.all (qdOk prog_1_method_23_code) = true := by decide +kernel
theorem qd69_1 : qi69_1.all (qdOk prog_1_method_23_code) = true := by decide +kernel
theorem qd69 : qi69.all (qdOk prog_1_method_23_code) = true := qall_app qd69_0 (qd69_1)
theorem qd70_0 : qi70_0.all (qdOk prog_1_method_24_code) = true := by decide +kernel
theorem qd70 : qi70.all (qdOk prog_1_method_24_code) = true := qd70_0
theorem qd71_0 : qi71_0.all (qdOk prog_1_method_2_code) = true := by decide +kernel
theorem qd71_1 : qi71_1.all (qdOk prog_1_method_2_code) = true := by decide +kernel
theorem qd71 : qi71.all (qdOk prog_1_method_2_code) = true := qall_app qd71_0 (qd71_1)
theorem qd72_0 : qi72_0.all (qdOk prog_1_method_18_code) = true := by decide +kernel
theorem qd72_1 : qi72_1.all (qdOk prog_1_method_18_code) = true := by decide +kernel
theorem qd72_2 : qi72_2.all (qdOk prog_1_method_18_code) = true := by decide +kernel
theorem qd72 : qi72.all (qdOk prog_1_method_18_code) = true := qall_app qd72_0 (qall_app qd72_1 (qd72_2))
theorem qd73_0 : qi73_0.all (qdOk prog_1_method_42_code) = true := by decide +kernel
theorem qd73 : qi73.all (qdOk prog_1_method_42_code) = true := qd73_0
theorem qd74_0 : qi74_0.all (qdOk prog_1_method_22_code) = true := by decide +kernel
theorem qd74 : qi74.all (qdOk prog_1_method_22_code) = true := qd74_0
theorem qd75_0 : qi75_0.all (qdOk prog_1_method_5_code) = true := by decide +kernel
theorem qd75 : qi75.all (qdOk prog_1_method_5_code) = true := qd75_0
theorem qd76_0 : qi76_0.all (qdOk prog_1_method_7_code) = true := by decide +kernel
theorem qd76_1 : qi76_1.all (qdOk prog_1_method_7_code) = true := by decide +kernel
theorem qd76 : qi76.all (qdOk prog_1_method_7_code) = true := qall_app qd76_0 (qd76_1)
theorem qd77_0 : qi77_0.all (qdOk prog_1_method_3_code) = true := by decide +kernel
theorem qd77_1 : qi77_1.all (qdOk prog_1_method_3_code) = true := by decide +kernel
theorem qd77 : qi77.all (qdOk prog_1_method_3_code) = true := qall_app qd77_0 (qd77_1)
theorem qd78_0 : qi78_0.all (qdOk prog_1_method_16_code) = true := by decide +kernel
theorem qd78_1 : qi78_1.all (qdOk prog_1_method_16_code) = true := by decide +kernel
theorem qd78 : qi78.all (qdOk prog_1_method_16_code) = true := qall_app qd78_0 (qd78_1)
theorem qd79_0 : qi79_0.all (qdOk prog_1_method_52_code) = true := by decide +kernel
theorem qd79 : qi79.all (qdOk prog_1_method_52_code) = true := qd79_0
theorem qd80_0 : qi80_0.all (qdOk prog_1_method_38_code) = true := by decide +kernel
theorem qd80 : qi80.all (qdOk prog_1_method_38_code) = true := qd80_0
theorem qd81_0 : qi81_0.all (qdOk prog_1_method_4_code) = true := by decide +kernel
theorem qd81_1 : qi81_1.all (qdOk prog_1_method_4_code) = true := by decide +kernel
theorem qd81 : qi81.all (qdOk prog_1_method_4_code) = true := qall_app qd81_0 (qd81_1)
theorem qd82_0 : qi82_0.all (qdOk prog_1_method_17_code) = true := by decide +kernel
theorem qd82_1 : qi82_1.all (qdOk prog_1_method_17_code) = true := by decide +kernel
theorem qd82 : qi82.all (qdOk prog_1_method_17_code) = true := qall_app qd82_0 (qd82_1)
theorem qd83_0 : qi83_0.all (qdOk prog_14_method_102_code) = true := by decide +kernel
theorem qd83_1 : qi83_1.all (qdOk prog_14_method_102_code) = true := by decide +kernel
theorem qd83_2 : qi83_2.all (qdOk prog_14_method_102_code) = true := by decide +kernel
theorem qd83_3 : qi83_3.all (qdOk prog_14_method_102_code) = true := by decide +kernel
theorem qd83_4 : qi83_4.all (qdOk prog_14_method_102_code) = true := by decide +kernel
theorem qd83 : qi83.all (qdOk prog_14_method_102_code) = true := qall_app qd83_0 (qall_app qd83_1 (qall_app qd83_2 (qall_app qd83_3 (qd83_4))))
theorem qd84_0 : qi84_0.all (qdOk prog_14_method_78_code) = true := by decide +kernel
theorem qd84 : qi84.all (qdOk prog_14_method_78_code) = true := qd84_0
theorem qd85_0 : qi85_0.all (qdOk prog_14_method_94_code) = true := by decide +kernel
theorem qd85_1 : qi85_1.all (qdOk prog_14_method_94_code) = true := by decide +kernel
theorem qd85 : qi85.all (qdOk prog_14_method_94_code) = true := qall_app qd85_0 (qd85_1)
theorem qd86_0 : qi86_0.all (qdOk prog_14_method_98_code) = true := by decide +kernel
theorem qd86 : qi86.all (qdOk prog_14_method_98_code) = true := qd86_0
theorem qd87_0 : qi87_0.all (qdOk prog_14_method_95_code) = true := by decide +kernel
theorem qd87 : qi87.all (qdOk prog_14_method_95_code) = true := qd87_0
theorem qd88_0 : qi88_0.all (qdOk prog_14_method_100_code) = true := by decide +kernel
theorem qd88_1 : qi88_1.all (qdOk prog_14_method_100_code) = true := by decide +kernel
theorem qd88 : qi88.all (qdOk prog_14_method_100_code) = true := qall_app qd88_0 (qd88_1)
theorem qd89_0 : qi89_0.all (qdOk prog_14_method_69_code) = true := by decide +kernel
theorem qd89_1 : qi89_1.all (qdOk prog_14_method_69_code) = true := by decide +kernel
theorem qd89 : qi89.all (qdOk prog_14_method_69_code) = true := qall_app qd89_0 (qd89_1)
theorem qd90_0 : qi90_0.all (qdOk prog_14_method_107_code) = true := by decide +kernel
theorem qd90_1 : qi90_1.all (qdOk prog_14_method_107_code) = true := by decide +kernel
theorem qd90_2 : qi90_2.all (qdOk prog_14_method_107_code) = true := by decide +kernel
theorem qd90 : qi90.all (qdOk prog_14_method_107_code) = true := qall_app qd90_0 (qall_app qd90_1 (qd90_2))
theorem qd91_0 : qi91_0.all (qdOk prog_14_method_56_code) = true := by decide +kernel
theorem qd91_1 : qi91_1.all (qdOk prog_14_method_56_code) = true := by decide +kernel
theorem qd91_2 : qi91_2.all (qdOk prog_14_method_56_code) = true := by decide +kernel
theorem qd91 : qi91.all (qdOk prog_14_method_56_code) = true := qall_app qd91_0 (qall_app qd91_1 (qd91_2))
theorem qd92_0 : qi92_0.all (qdOk prog_14_method_91_code) = true := by decide +kernel
theorem qd92 : qi92.all (qdOk prog_14_method_91_code) = true := qd92_0
theorem qd93_0 : qi93_0.all (qdOk prog_14_method_64_code) = true := by decide +kernel
theorem qd93 : qi93.all (qdOk prog_14_method_64_code) = true := qd93_0
theorem qd94_0 : qi94_0.all (qdOk prog_14_method_55_code) = true := by decide +kernel
theorem qd94_1 : qi94_1.all (qdOk prog_14_method_55_code) = true := by decide +kernel
theorem qd94 : qi94.all (qdOk prog_14_method_55_code) = true := qall_app qd94_0 (qd94_1)
theorem qd95_0 : qi95_0.all (qdOk prog_14_method_14_code) = true := by decide +kernel
theorem qd95 : qi95.all (qdOk prog_14_method_14_code) = true := qd95_0
theorem qd96_0 : qi96_0.all (qdOk prog_14_method_9_code) = true := by decide +kernel
theorem qd96 : qi96.all (qdOk prog_14_method_9_code) = true := qd96_0
theorem qd97_0 : qi97_0.all (qdOk prog_14_method_103_code) = true := by decide +kernel
theorem qd97 : qi97.all (qdOk prog_14_method_103_code) = true := qd97_0
theorem qd98_0 : qi98_0.all (qdOk prog_14_method_108_code) = true := by decide +kernel
theorem qd98_1 : qi98_1.all (qdOk prog_14_method_108_code) = true := by decide +kernel
theorem qd98 : qi98.all (qdOk prog_14_method_108_code) = true := qall_app qd98_0 (qd98_1)
theorem qd99_0 : qi99_0.all (qdOk prog_14_method_105_code) = true := by decide +kernel
theorem qd99_1 : qi99_1.all (qdOk prog_14_method_105_code) = true := by decide +kernel
theorem qd99_2 : qi99_2.all (qdOk prog_14_method_105_code) = true := by decide +kernel
theorem qd99_3 : qi99_3.all (qdOk prog_14_method_105_code) = true := by decide +kernel
theorem qd99_4 : qi99_4.all (qdOk prog_14_method_105_code) = true := by decide +kernel
theorem qd99 : qi99.all (qdOk prog_14_method_105_code) = true := qall_app qd99_0 (qall_app qd99_1 (qall_app qd99_2 (qall_app qd99_3 (qd99_4))))
theorem qd100_0 : qi100_0.all (qdOk prog_14_method_99_code) = true := by decide +kernel
theorem qd100_1 : qi100_1.all (qdOk prog_14_method_99_code) = true := by decide +kernel
theorem qd100_2 : qi100_2.all (qdOk prog_14_method_99_code) = true := by decide +kernel
theorem qd100_3 : qi100_3.all (qdOk prog_14_method_99_code) = true := by decide +kernel
theorem qd100 : qi100.all (qdOk prog_14_method_99_code) = true := qall_app qd100_0 (qall_app qd100_1 (qall_app qd100_2 (qd100_3)))
theorem qd101_0 : qi101_0.all (qdOk prog_14_method_101_code) = true := by decide +kernel
theorem qd101_1 : qi101_1.all (qdOk prog_14_method_101_code) = true := by decide +kernel
theorem qd101 : qi101.all (qdOk prog_14_method_101_code) = true := qall_app qd101_0 (qd101_1)
theorem qd102_0 : qi102_0.all (qdOk prog_14_method_61_code) = true := by decide +kernel
theorem qd102_1 : qi102_1.all (qdOk prog_14_method_61_code) = true := by decide +kernel
theorem qd102_2 : qi102_2.all (qdOk prog_14_method_61_code) = true := by decide +kernel
theorem qd102 : qi102.all (qdOk prog_14_method_61_code) = true := qall_app qd102_0 (qall_app qd102_1 (qd102_2))
theorem qd103_0 : qi103_0.all (qdOk prog_14_method_38_code) = true := by decide +kernel
theorem qd103 : qi103.all (qdOk prog_14_method_38_code) = true := qd103_0
theorem qd104_0 : qi104_0.all (qdOk prog_14_method_50_code) = true := by decide +kernel
theorem qd104 : qi104.all (qdOk prog_14_method_50_code) = true := qd104_0
theorem qd105_0 : qi105_0.all (qdOk prog_14_method_77_code) = true := by decide +kernel
theorem qd105_1 : qi105_1.all (qdOk prog_14_method_77_code) = true := by decide +kernel
theorem qd105 : qi105.all (qdOk prog_14_method_77_code) = true := qall_app qd105_0 (qd105_1)
theorem qd106_0 : qi106_0.all (qdOk prog_14_method_51_code) = true := by decide +kernel
theorem qd106_1 : qi106_1.all (qdOk prog_14_method_51_code) = true := by decide +kernel
theorem qd106 : qi106.all (qdOk prog_14_method_51_code) = true := qall_app qd106_0 (qd106_1)
theorem qd107_0 : qi107_0.all (qdOk prog_14_method_34_code) = true := by decide +kernel
theorem qd107 : qi107.all (qdOk prog_14_method_34_code) = true := qd107_0
theorem qd108_0 : qi108_0.all (qdOk prog_14_method_79_code) = true := by decide +kernel
theorem qd108 : qi108.all (qdOk prog_14_method_79_code) = true := qd108_0
theorem qd109_0 : qi109_0.all (qdOk prog_14_method_96_code) = true := by decide +kernel
theorem qd109_1 : qi109_1.all (qdOk prog_14_method_96_code) = true := by decide +kernel
theorem qd109_2 : qi109_2.all (qdOk prog_14_method_96_code) = true := by decide +kernel
theorem qd109_3 : qi109_3.all (qdOk prog_14_method_96_code) = true := by decide +kernel
theorem qd109_4 : qi109_4.all (qdOk prog_14_method_96_code) = true := by decide +kernel
theorem qd109 : qi109.all (qdOk prog_14_method_96_code) = true := qall_app qd109_0 (qall_app qd109_1 (qall_app qd109_2 (qall_app qd109_3 (qd109_4))))
theorem qd110_0 : qi110_0.all (qdOk prog_14_method_72_code) = true := by decide +kernel
theorem qd110 : qi110.all (qdOk prog_14_method_72_code) = true := qd110_0
theorem qd111_0 : qi111_0.all (qdOk prog_14_method_29_code) = true := by decide +kernel
theorem qd111_1 : qi111_1.all (qdOk prog_14_method_29_code) = true := by decide +kernel
theorem qd111_2 : qi111_2.all (qdOk prog_14_method_29_code) = true := by decide +kernel
theorem qd111_3 : qi111_3.all (qdOk prog_14_method_29_code) = true := by decide +kernel
theorem qd111_4 : qi111_4.all (qdOk prog_14_method_29_code) = true := by decide +kernel
theorem qd111 : qi111.all (qdOk prog_14_method_29_code) = true := qall_app qd111_0 (qall_app qd111_1 (qall_app qd111_2 (qall_app qd111_3 (qd111_4))))
theorem qd112_0 : qi112_0.all (qdOk prog_14_method_25_code) = true := by decide +kernel
theorem qd112_1 : qi112_1.all (qdOk prog_14_method_25_code) = true := by decide +kernel
theorem qd112_2 : qi112_2.all (qdOk prog_14_method_25_code) = true := by decide +kernel
theorem qd112_3 : qi112_3.all (qdOk prog_14_method_25_code) = true := by decide +kernel
theorem qd112 : qi112.all (qdOk prog_14_method_25_code) = true := qall_app qd112_0 (qall_app qd112_1 (qall_app qd112_2 (qd112_3)))
theorem qd113_0 : qi113_0.all (qdOk prog_14_method_70_code) = true := by decide +kernel
theorem qd113_1 : qi113_1.all (qdOk prog_14_method_70_code) = true := by decide +kernel
theorem qd113_2 : qi113_2.all (qdOk prog_14_method_70_code) = true := by decide +kernel
theorem qd113_3 : qi113_3.all (qdOk prog_14_method_70_code) = true := by decide +kernel
theorem qd113_4 : qi113_4.all (qdOk prog_14_method_70_code) = true := by decide +kernel
theorem qd113 : qi113.all (qdOk prog_14_method_70_code) = true := qall_app qd113_0 (qall_app qd113_1 (qall_app qd113_2 (qall_app qd113_3 (qd113_4))))
theorem qd114_0 : qi114_0.all (qdOk prog_14_method_54_code) = true := by decide +kernel
theorem qd114_1 : qi114_1.all (qdOk prog_14_method_54_code) = true := by decide +kernel
theorem qd114_2 : qi114_2.all (qdOk prog_14_method_54_code) = true := by decide +kernel
theorem qd114 : qi114.all (qdOk prog_14_method_54_code) = true := qall_app qd114_0 (qall_app qd114_1 (qd114_2))
theorem qd115_0 : qi115_0.all (qdOk prog_14_method_26_code) = true := by decide +kernel
theorem qd115_1 : qi115_1.all (qdOk prog_14_method_26_code) = true := by decide +kernel
theorem qd115 : qi115.all (qdOk prog_14_method_26_code) = true := qall_app qd115_0 (qd115_1)
theorem qd116_0 : qi116_0.all (qdOk prog_14_method_52_code) = true := by decide +kernel
theorem qd116_1 : qi116_1.all (qdOk prog_14_method_52_code) = true := by decide +kernel
theorem qd116_2 : qi116_2.all (qdOk prog_14_method_52_code) = true := by decide +kernel
theorem qd116_3 : qi116_3.all (qdOk prog_14_method_52_code) = true := by decide +kernel
theorem qd116 : qi116.all (qdOk prog_14_method_52_code) = true := qall_app qd116_0 (qall_app qd116_1 (qall_app qd116_2 (qd116_3)))
theorem qd117_0 : qi117_0.all (qdOk prog_14_method_20_code) = true := by decide +kernel
theorem qd117_1 : qi117_1.all (qdOk prog_14_method_20_code) = true := by decide +kernel
theorem qd117_2 : qi117_2.all (qdOk prog_14_method_20_code) = true := by decide +kernel
theorem qd117 : qi117.all (qdOk prog_14_method_20_code) = true := qall_app qd117_0 (qall_app qd117_1 (qd117_2))
theorem qd118_0 : qi118_0.all (qdOk prog_14_method_3_code) = true := by decide +kernel
theorem qd118 : qi118.all (qdOk prog_14_method_3_code) = true := qd118_0
theorem qd119_0 : qi119_0.all (qdOk prog_14_method_88_code) = true := by decide +kernel
theorem qd119 : qi119.all (qdOk prog_14_method_88_code) = true := qd119_0
theorem qd120_0 : qi120_0.all (qdOk prog_14_method_35_code) = true := by decide +kernel
theorem qd120 : qi120.all (qdOk prog_14_method_35_code) = true := qd120_0
theorem qd121_0 : qi121_0.all (qdOk prog_14_method_62_code) = true := by decide +kernel
theorem qd121_1 : qi121_1.all (qdOk prog_14_method_62_code) = true := by decide +kernel
theorem qd121_2 : qi121_2.all (qdOk prog_14_method_62_code) = true := by decide +kernel
theorem qd121_3 : qi121_3.all (qdOk prog_14_method_62_code) = true := by decide +kernel
theorem qd121 : qi121.all (qdOk prog_14_method_62_code) = true := qall_app qd121_0 (qall_app qd121_1 (qall_app qd121_2 (qd121_3)))
theorem qd122_0 : qi122_0.all (qdOk prog_14_method_63_code) = true := by decide +kernel
theorem qd122_1 : qi122_1.all (qdOk prog_14_method_63_code) = true := by decide +kernel
theorem qd122 : qi122.all (qdOk prog_14_method_63_code) = true := qall_app qd122_0 (qd122_1)
theorem qd123_0 : qi123_0.all (qdOk prog_14_method_1_code) = true := by decide +kernel
theorem qd123_1 : qi123_1.all (qdOk prog_14_method_1_code) = true := by decide +kernel
theorem qd123_2 : qi123_2.all (qdOk prog_14_method_1_code) = true := by decide +kernel
theorem qd123_3 : qi123_3.all (qdOk prog_14_method_1_code) = true := by decide +kernel
theorem qd123_4 : qi123_4.all (qdOk prog_14_method_1_code) = true := by decide +kernel
theorem qd123_5 : qi123_5.all (qdOk prog_14_method_1_code) = true := by decide +kernel
theorem qd123_6 : qi123_6.all (qdOk prog_14_method_1_code) = true := by decide +kernel
theorem qd123_7 : qi123_7.all (qdOk prog_14_method_1_code) = true := by decide +kernel
theorem qd123_8 : qi123_8.all (qdOk prog_14_method_1_code) = true := by decide +kernel
theorem qd123_9 : qi123_9.all (qdOk prog_14_method_1_code) = true := by decide +kernel
theorem qd123 : qi123.all (qdOk prog_14_method_1_code) = true := qall_app qd123_0 (qall_app qd123_1 (qall_app qd123_2 (qall_app qd123_3 (qall_app qd123_4 (qall_app qd123_5 (qall_app qd123_6 (qall_app qd123_7 (qall_app qd123_8 (qd123_9)))))))))
theorem qd124_0 : qi124_0.all (qdOk prog_14_method_37_code) = true := by decide +kernel
theorem qd124 : qi124.all (qdOk prog_14_method_37_code) = true := qd124_0
theorem qd125_0 : qi125_0.all (qdOk prog_14_method_85_code) = true := by decide +kernel
theorem qd125 : qi125.all (qdOk prog_14_method_85_code) = true := qd125_0
theorem qd126_0 : qi126_0.all (qdOk prog_14_method_8_code) = true := by decide +kernel
theorem qd126 : qi126.all (qdOk prog_14_method_8_code) = true := qd126_0
theorem qd127_0 : qi127_0.all (qdOk prog_14_method_87_code) = true := by decide +kernel
theorem qd127 : qi127.all (qdOk prog_14_method_87_code) = true := qd127_0
theorem qd128_0 : qi128_0.all (qdOk prog_14_method_45_code) = true := by decide +kernel
theorem qd128 : qi128.all (qdOk prog_14_method_45_code) = true := qd128_0
theorem qd129_0 : qi129_0.all (qdOk prog_14_method_93_code) = true := by decide +kernel
theorem qd129 : qi129.all (qdOk prog_14_method_93_code) = true := qd129_0
theorem qd130_0 : qi130_0.all (qdOk prog_14_method_86_code) = true := by decide +kernel
theorem qd130 : qi130.all (qdOk prog_14_method_86_code) = true := qd130_0
theorem qd131_0 : qi131_0.all (qdOk prog_14_method_46_code) = true := by decide +kernel
theorem qd131 : qi131.all (qdOk prog_14_method_46_code) = true := qd131_0
theorem qd132_0 : qi132_0.all (qdOk prog_14_method_5_code) = true := by decide +kernel
theorem qd132 : qi132.all (qdOk prog_14_method_5_code) = true := qd132_0
theorem qd133_0 : qi133_0.all (qdOk prog_14_method_44_code) = true := by decide +kernel
theorem qd133 : qi133.all (qdOk prog_14_method_44_code) = true := qd133_0
theorem qd134_0 : qi134_0.all (qdOk prog_14_method_68_code) = true := by decide +kernel
theorem qd134_1 : qi134_1.all (qdOk prog_14_method_68_code) = true := by decide +kernel
theorem qd134 : qi134.all (qdOk prog_14_method_68_code) = true := qall_app qd134_0 (qd134_1)
theorem qd135_0 : qi135_0.all (qdOk prog_14_method_47_code) = true := by decide +kernel
theorem qd135_1 : qi135_1.all (qdOk prog_14_method_47_code) = true := by decide +kernel
theorem qd135 : qi135.all (qdOk prog_14_method_47_code) = true := qall_app qd135_0 (qd135_1)
theorem qd136_0 : qi136_0.all (qdOk prog_14_method_6_code) = true := by decide +kernel
theorem qd136 : qi136.all (qdOk prog_14_method_6_code) = true := qd136_0
theorem qd137_0 : qi137_0.all (qdOk prog_14_method_7_code) = true := by decide +kernel
theorem qd137 : qi137.all (qdOk prog_14_method_7_code) = true := qd137_0
theorem qd138_0 : qi138_0.all (qdOk prog_14_method_49_code) = true := by decide +kernel
theorem qd138 : qi138.all (qdOk prog_14_method_49_code) = true := qd138_0
theorem qd139_0 : qi139_0.all (qdOk prog_14_method_89_code) = true := by decide +kernel
theorem qd139 : qi139.all (qdOk prog_14_method_89_code) = true := qd139_0
theorem qd140_0 : qi140_0.all (qdOk prog_14_method_27_code) = true := by decide +kernel
theorem qd140_1 : qi140_1.all (qdOk prog_14_method_27_code) = true := by decide +kernel
theorem qd140_2 : qi140_2.all (qdOk prog_14_method_27_code) = true := by decide +kernel
theorem qd140_3 : qi140_3.all (qdOk prog_14_method_27_code) = true := by decide +kernel
theorem qd140_4 : qi140_4.all (qdOk prog_14_method_27_code) = true := by decide +kernel
theorem qd140_5 : qi140_5.all (qdOk prog_14_method_27_code) = true := by decide +kernel
theorem qd140 : qi140.all (qdOk prog_14_method_27_code) = true := qall_app qd140_0 (qall_app qd140_1 (qall_app qd140_2 (qall_app qd140_3 (qall_app qd140_4 (qd140_5)))))
theorem qd141_0 : qi141_0.all (qdOk prog_14_method_90_code) = true := by decide +kernel
theorem qd141_1 : qi141_1.all (qdOk prog_14_method_90_code) = true := by decide +kernel
theorem qd141_2 : qi141_2.all (qdOk prog_14_method_90_code) = true := by decide +kernel
theorem qd141 : qi141.all (qdOk prog_14_method_90_code) = true := qall_app qd141_0 (qall_app qd141_1 (qd141_2))
theorem qd142_0 : qi142_0.all (qdOk prog_14_method_76_code) = true := by decide +kernel
theorem qd142_1 : qi142_1.all (qdOk prog_14_method_76_code) = true := by decide +kernel
theorem qd142_2 : qi142_2.all (qdOk prog_14_method_76_code) = true := by decide +kernel
theorem qd142_3 : qi142_3.all (qdOk prog_14_method_76_code) = true := by decide +kernel
theorem qd142 : qi142.all (qdOk prog_14_method_76_code) = true := qall_app qd142_0 (qall_app qd142_1 (qall_app qd142_2 (qd142_3)))
theorem qd143_0 : qi143_0.all (qdOk prog_14_method_2_code) = true := by decide +kernel
theorem qd143 : qi143.all (qdOk prog_14_method_2_code) = true := qd143_0
theorem qd144_0 : qi144_0.all (qdOk prog_14_method_18_code) = true := by decide +kernel
theorem qd144 : qi144.all (qdOk prog_14_method_18_code) = true := qd144_0
theorem qd145_0 : qi145_0.all (qdOk prog_14_method_21_code) = true := by decide +kernel
theorem qd145 : qi145.all (qdOk prog_14_method_21_code) = true := qd145_0
theorem qd146_0 : qi146_0.all (qdOk prog_14_method_22_code) = true := by decide +kernel
theorem qd146 : qi146.all (qdOk prog_14_method_22_code) = true := qd146_0
theorem qd147_0 : qi147_0.all (qdOk prog_14_method_19_code) = true := by decide +kernel
theorem qd147 : qi147.all (qdOk prog_14_method_19_code) = true := qd147_0
theorem qd148_0 : qi148_0.all (qdOk prog_14_method_23_code) = true := by decide +kernel
theorem qd148_1 : qi148_1.all (qdOk prog_14_method_23_code) = true := by decide +kernel
theorem qd148 : qi148.all (qdOk prog_14_method_23_code) = true := qall_app qd148_0 (qd148_1)
theorem qd149_0 : qi149_0.all (qdOk prog_14_method_106_code) = true := by decide +kernel
theorem qd149 : qi149.all (qdOk prog_14_method_106_code) = true := qd149_0
theorem qd150_0 : qi150_0.all (qdOk prog_14_method_41_code) = true := by decide +kernel
theorem qd150 : qi150.all (qdOk prog_14_method_41_code) = true := qd150_0
theorem qd151_0 : qi151_0.all (qdOk prog_14_method_97_code) = true := by decide +kernel
theorem qd151_1 : qi151_1.all (qdOk prog_14_method_97_code) = true := by decide +kernel
theorem qd151_2 : qi151_2.all (qdOk prog_14_method_97_code) = true := by decide +kernel
theorem qd151 : qi151.all (qdOk prog_14_method_97_code) = true := qall_app qd151_0 (qall_app qd151_1 (qd151_2))
theorem qd152_0 : qi152_0.all (qdOk prog_14_method_53_code) = true := by decide +kernel
theorem qd152_1 : qi152_1.all (qdOk prog_14_method_53_code) = true := by decide +kernel
theorem qd152 : qi152.all (qdOk prog_14_method_53_code) = true := qall_app qd152_0 (qd152_1)
theorem qd153_0 : qi153_0.all (qdOk prog_14_method_84_code) = true := by decide +kernel
theorem qd153_1 : qi153_1.all (qdOk prog_14_method_84_code) = true := by decide +kernel
theorem qd153 : qi153.all (qdOk prog_14_method_84_code) = true := qall_app qd153_0 (qd153_1)
theorem qd154_0 : qi154_0.all (qdOk prog_14_method_33_code) = true := by decide +kernel
theorem qd154 : qi154.all (qdOk prog_14_method_33_code) = true := qd154_0
theorem qd155_0 : qi155_0.all (qdOk prog_14_method_40_code) = true := by decide +kernel
theorem qd155 : qi155.all (qdOk prog_14_method_40_code) = true := qd155_0
theorem qd156_0 : qi156_0.all (qdOk prog_14_method_43_code) = true := by decide +kernel
theorem qd156_1 : qi156_1.all (qdOk prog_14_method_43_code) = true := by decide +kernel
theorem qd156 : qi156.all (qdOk prog_14_method_43_code) = true := qall_app qd156_0 (qd156_1)
theorem qd157_0 : qi157_0.all (qdOk prog_14_method_92_code) = true := by decide +kernel
theorem qd157_1 : qi157_1.all (qdOk prog_14_method_92_code) = true := by decide +kernel
theorem qd157 : qi157.all (qdOk prog_14_method_92_code) = true := qall_app qd157_0 (qd157_1)
theorem qd158_0 : qi158_0.all (qdOk prog_14_method_57_code) = true := by decide +kernel
theorem qd158_1 : qi158_1.all (qdOk prog_14_method_57_code) = true := by decide +kernel
theorem qd158_2 : qi158_2.all (qdOk prog_14_method_57_code) = true := by decide +kernel
theorem qd158_3 : qi158_3.all (qdOk prog_14_method_57_code) = true := by decide +kernel
theorem qd158_4 : qi158_4.all (qdOk prog_14_method_57_code) = true := by decide +kernel
theorem qd158 : qi158.all (qdOk prog_14_method_57_code) = true := qall_app qd158_0 (qall_app qd158_1 (qall_app qd158_2 (qall_app qd158_3 (qd158_4))))
theorem qd159_0 : qi159_0.all (qdOk prog_14_method_16_code) = true := by decide +kernel
theorem qd159 : qi159.all (qdOk prog_14_method_16_code) = true := qd159_0
theorem qd160_0 : qi160_0.all (qdOk prog_14_method_42_code) = true := by decide +kernel
theorem qd160 : qi160.all (qdOk prog_14_method_42_code) = true := qd160_0
theorem qd161_0 : qi161_0.all (qdOk prog_14_method_17_code) = true := by decide +kernel
theorem qd161 : qi161.all (qdOk prog_14_method_17_code) = true := qd161_0
theorem qd162_0 : qi162_0.all (qdOk prog_14_method_104_code) = true := by decide +kernel
theorem qd162_1 : qi162_1.all (qdOk prog_14_method_104_code) = true := by decide +kernel
theorem qd162 : qi162.all (qdOk prog_14_method_104_code) = true := qall_app qd162_0 (qd162_1)
theorem qd163_0 : qi163_0.all (qdOk prog_14_method_58_code) = true := by decide +kernel
theorem qd163_1 : qi163_1.all (qdOk prog_14_method_58_code) = true := by decide +kernel
theorem qd163 : qi163.all (qdOk prog_14_method_58_code) = true := qall_app qd163_0 (qd163_1)
theorem qd164_0 : qi164_0.all (qdOk prog_14_method_67_code) = true := by decide +kernel
theorem qd164 : qi164.all (qdOk prog_14_method_67_code) = true := qd164_0
theorem qd165_0 : qi165_0.all (qdOk prog_14_method_24_code) = true := by decide +kernel
theorem qd165_1 : qi165_1.all (qdOk prog_14_method_24_code) = true := by decide +kernel
theorem qd165_2 : qi165_2.all (qdOk prog_14_method_24_code) = true := by decide +kernel
theorem qd165 : qi165.all (qdOk prog_14_method_24_code) = true := qall_app qd165_0 (qall_app qd165_1 (qd165_2))
theorem qd166_0 : qi166_0.all (qdOk prog_14_method_82_code) = true := by decide +kernel
theorem qd166_1 : qi166_1.all (qdOk prog_14_method_82_code) = true := by decide +kernel
theorem qd166_2 : qi166_2.all (qdOk prog_14_method_82_code) = true := by decide +kernel
theorem qd166 : qi166.all (qdOk prog_14_method_82_code) = true := qall_app qd166_0 (qall_app qd166_1 (qd166_2))
theorem qd167_0 : qi167_0.all (qdOk prog_14_method_81_code) = true := by decide +kernel
theorem qd167 : qi167.all (qdOk prog_14_method_81_code) = true := qd167_0
theorem qd168_0 : qi168_0.all (qdOk prog_14_method_83_code) = true := by decide +kernel
theorem qd168_1 : qi168_1.all (qdOk prog_14_method_83_code) = true := by decide +kernel
theorem qd168_2 : qi168_2.all (qdOk prog_14_method_83_code) = true := by decide +kernel
theorem qd168 : qi168.all (qdOk prog_14_method_83_code) = true := qall_app qd168_0 (qall_app qd168_1 (qd168_2))
theorem qd169_0 : qi169_0.all (qdOk prog_14_method_4_code) = true := by decide +kernel
theorem qd169 : qi169.all (qdOk prog_14_method_4_code) = true := qd169_0
theorem qd170_0 : qi170_0.all (qdOk prog_14_method_31_code) = true := by decide +kernel
theorem qd170 : qi170.all (qdOk prog_14_method_31_code) = true := qd170_0
theorem qd171_0 : qi171_0.all (qdOk prog_14_method_10_code) = true := by decide +kernel
theorem qd171_1 : qi171_1.all (qdOk prog_14_method_10_code) = true := by decide +kernel
theorem qd171 : qi171.all (qdOk prog_14_method_10_code) = true := qall_app qd171_0 (qd171_1)
theorem qd172_0 : qi172_0.all (qdOk prog_14_method_75_code) = true := by decide +kernel
theorem qd172_1 : qi172_1.all (qdOk prog_14_method_75_code) = true := by decide +kernel
theorem qd172 : qi172.all (qdOk prog_14_method_75_code) = true := qall_app qd172_0 (qd172_1)
theorem qd173_0 : qi173_0.all (qdOk prog_14_method_30_code) = true := by decide +kernel
theorem qd173_1 : qi173_1.all (qdOk prog_14_method_30_code) = true := by decide +kernel
theorem qd173_2 : qi173_2.all (qdOk prog_14_method_30_code) = true := by decide +kernel
theorem qd173 : qi173.all (qdOk prog_14_method_30_code) = true := qall_app qd173_0 (qall_app qd173_1 (qd173_2))
theorem qd174_0 : qi174_0.all (qdOk prog_14_method_71_code) = true := by decide +kernel
theorem qd174 : qi174.all (qdOk prog_14_method_71_code) = true := qd174_0
theorem qd175_0 : qi175_0.all (qdOk prog_14_method_66_code) = true := by decide +kernel
theorem qd175_1 : qi175_1.all (qdOk prog_14_method_66_code) = true := by decide +kernel
theorem qd175_2 : qi175_2.all (qdOk prog_14_method_66_code) = true := by decide +kernel
theorem qd175_3 : qi175_3.all (qdOk prog_14_method_66_code) = true := by decide +kernel
theorem qd175_4 : qi175_4.all (qdOk prog_14_method_66_code) = true := by decide +kernel
theorem qd175_5 : qi175_5.all (qdOk prog_14_method_66_code) = true := by decide +kernel
theorem qd175 : qi175.all (qdOk prog_14_method_66_code) = true := qall_app qd175_0 (qall_app qd175_1 (qall_app qd175_2 (qall_app qd175_3 (qall_app qd175_4 (qd175_5)))))
theorem qd176_0 : qi176_0.all (qdOk prog_14_method_80_code) = true := by decide +kernel
theorem qd176 : qi176.all (qdOk prog_14_method_80_code) = true := qd176_0
theorem qd177_0 : qi177_0.all (qdOk prog_14_method_48_code) = true := by decide +kernel
theorem qd177 : qi177.all (qdOk prog_14_method_48_code) = true := qd177_0
theorem qd178_0 : qi178_0.all (qdOk prog_14_method_32_code) = true := by decide +kernel
theorem qd178 : qi178.all (qdOk prog_14_method_32_code) = true := qd178_0
theorem qd179_0 : qi179_0.all (qdOk prog_14_method_39_code) = true := by decide +kernel
theorem qd179 : qi179.all (qdOk prog_14_method_39_code) = true := qd179_0
theorem qd180_0 : qi180_0.all (qdOk prog_14_method_13_code) = true := by decide +kernel
theorem qd180 : qi180.all (qdOk prog_14_method_13_code) = true := qd180_0
theorem qd181_0 : qi181_0.all (qdOk prog_14_method_15_code) = true := by decide +kernel
theorem qd181_1 : qi181_1.all (qdOk prog_14_method_15_code) = true := by decide +kernel
theorem qd181 : qi181.all (qdOk prog_14_method_15_code) = true := qall_app qd181_0 (qd181_1)
theorem qd182_0 : qi182_0.all (qdOk prog_14_method_28_code) = true := by decide +kernel
theorem qd182_1 : qi182_1.all (qdOk prog_14_method_28_code) = true := by decide +kernel
theorem qd182_2 : qi182_2.all (qdOk prog_14_method_28_code) = true := by decide +kernel
theorem qd182 : qi182.all (qdOk prog_14_method_28_code) = true := qall_app qd182_0 (qall_app qd182_1 (qd182_2))
theorem qd183_0 : qi183_0.all (qdOk prog_14_method_59_code) = true := by decide +kernel
theorem qd183_1 : qi183_1.all (qdOk prog_14_method_59_code) = true := by decide +kernel
theorem qd183_2 : qi183_2.all (qdOk prog_14_method_59_code) = true := by decide +kernel
theorem qd183_3 : qi183_3.all (qdOk prog_14_method_59_code) = true := by decide +kernel
theorem qd183 : qi183.all (qdOk prog_14_method_59_code) = true := qall_app qd183_0 (qall_app qd183_1 (qall_app qd183_2 (qd183_3)))
theorem qd184_0 : qi184_0.all (qdOk prog_14_method_65_code) = true := by decide +kernel
theorem qd184_1 : qi184_1.all (qdOk prog_14_method_65_code) = true := by decide +kernel
theorem qd184_2 : qi184_2.all (qdOk prog_14_method_65_code) = true := by decide +kernel
theorem qd184 : qi184.all (qdOk prog_14_method_65_code) = true := qall_app qd184_0 (qall_app qd184_1 (qd184_2))
theorem qd185_0 : qi185_0.all (qdOk prog_14_method_11_code) = true := by decide +kernel
theorem qd185_1 : qi185_1.all (qdOk prog_14_method_11_code) = true := by decide +kernel
theorem qd185_2 : qi185_2.all (qdOk prog_14_method_11_code) = true := by decide +kernel
theorem qd185 : qi185.all (qdOk prog_14_method_11_code) = true := qall_app qd185_0 (qall_app qd185_1 (qd185_2))
theorem qd186_0 : qi186_0.all (qdOk prog_14_method_73_code) = true := by decide +kernel
theorem qd186_1 : qi186_1.all (qdOk prog_14_method_73_code) = true := by decide +kernel
theorem qd186 : qi186.all (qdOk prog_14_method_73_code) = true := qall_app qd186_0 (qd186_1)
theorem qd187_0 : qi187_0.all (qdOk prog_14_method_60_code) = true := by decide +kernel
theorem qd187_1 : qi187_1.all (qdOk prog_14_method_60_code) = true := by decide +kernel
theorem qd187 : qi187.all (qdOk prog_14_method_60_code) = true := qall_app qd187_0 (qd187_1)
theorem qd188_0 : qi188_0.all (qdOk prog_14_method_12_code) = true := by decide +kernel
theorem qd188_1 : qi188_1.all (qdOk prog_14_method_12_code) = true := by decide +kernel
theorem qd188_2 : qi188_2.all (qdOk prog_14_method_12_code) = true := by decide +kernel
theorem qd188 : qi188.all (qdOk prog_14_method_12_code) = true := qall_app qd188_0 (qall_app qd188_1 (qd188_2))
theorem qd189_0 : qi189_0.all (qdOk prog_14_method_74_code) = true := by decide +kernel
theorem qd189 : qi189.all (qdOk prog_14_method_74_code) = true := qd189_0
theorem qd190_0 : qi190_0.all (qdOk prog_14_method_36_code) = true := by decide +kernel
theorem qd190 : qi190.all (qdOk prog_14_method_36_code) = true := qd190_0
theorem qd191_0 : qi191_0.all (qdOk prog_3_method_4_code) = true := by decide +kernel
theorem qd191_1 : qi191_1.all (qdOk prog_3_method_4_code) = true := by decide +kernel
theorem qd191 : qi191.all (qdOk prog_3_method_4_code) = true := qall_app qd191_0 (qd191_1)
theorem qd192_0 : qi192_0.all (qdOk prog_3_method_2_code) = true := by decide +kernel
theorem qd192_1 : qi192_1.all (qdOk prog_3_method_2_code) = true := by decide +kernel
theorem qd192 : qi192.all (qdOk prog_3_method_2_code) = true := qall_app qd192_0 (qd192_1)
theorem qd193_0 : qi193_0.all (qdOk prog_3_method_1_code) = true := by decide +kernel
theorem qd193_1 : qi193_1.all (qdOk prog_3_method_1_code) = true := by decide +kernel
theorem qd193_2 : qi193_2.all (qdOk prog_3_method_1_code) = true := by decide +kernel
theorem qd193 : qi193.all (qdOk prog_3_method_1_code) = true := qall_app qd193_0 (qall_app qd193_1 (qd193_2))
theorem qd194_0 : qi194_0.all (qdOk prog_3_method_3_code) = true := by decide +kernel
theorem qd194_1 : qi194_1.all (qdOk prog_3_method_3_code) = true := by decide +kernel
theorem qd194 : qi194.all (qdOk prog_3_method_3_code) = true := qall_app qd194_0 (qd194_1)
theorem qd195_0 : qi195_0.all (qdOk prog_3_method_6_code) = true := by decide +kernel
theorem qd195_1 : qi195_1.all (qdOk prog_3_method_6_code) = true := by decide +kernel
theorem qd195 : qi195.all (qdOk prog_3_method_6_code) = true := qall_app qd195_0 (qd195_1)
theorem qd196_0 : qi196_0.all (qdOk prog_3_method_5_code) = true := by decide +kernel
theorem qd196_1 : qi196_1.all (qdOk prog_3_method_5_code) = true := by decide +kernel
theorem qd196 : qi196.all (qdOk prog_3_method_5_code) = true := qall_app qd196_0 (qd196_1)
theorem qd197_0 : qi197_0.all (qdOk prog_3_method_7_code) = true := by decide +kernel
theorem qd197_1 : qi197_1.all (qdOk prog_3_method_7_code) = true := by decide +kernel
theorem qd197_2 : qi197_2.all (qdOk prog_3_method_7_code) = true := by decide +kernel
theorem qd197 : qi197.all (qdOk prog_3_method_7_code) = true := qall_app qd197_0 (qall_app qd197_1 (qd197_2))
theorem qd198_0 : qi198_0.all (qdOk prog_4_method_3_code) = true := by decide +kernel
theorem qd198 : qi198.all (qdOk prog_4_method_3_code) = true := qd198_0
theorem qd199_0 : qi199_0.all (qdOk prog_4_method_4_code) = true := by decide +kernel
theorem qd199 : qi199.all (qdOk prog_4_method_4_code) = true := qd199_0
theorem qd200_0 : qi200_0.all (qdOk prog_4_method_6_code) = true := by decide +kernel
theorem qd200_1 : qi200_1.all (qdOk prog_4_method_6_code) = true := by decide +kernel
theorem qd200_2 : qi200_2.all (qdOk prog_4_method_6_code) = true := by decide +kernel
theorem qd200_3 : qi200_3.all (qdOk prog_4_method_6_code) = true := by decide +kernel
theorem qd200 : qi200.all (qdOk prog_4_method_6_code) = true := qall_app qd200_0 (qall_app qd200_1 (qall_app qd200_2 (qd200_3)))
theorem qd201_0 : qi201_0.all (qdOk prog_4_method_7_code) = true := by decide +kernel
theorem qd201_1 : qi201_1.all (qdOk prog_4_method_7_code) = true := by decide +kernel
theorem qd201 : qi201.all (qdOk prog_4_method_7_code) = true := qall_app qd201_0 (qd201_1)
theorem qd202_0 : qi202_0.all (qdOk prog_4_method_5_code) = true := by decide +kernel
theorem qd202_1 : qi202_1.all (qdOk prog_4_method_5_code) = true := by decide +kernel
theorem qd202_2 : qi202_2.all (qdOk prog_4_method_5_code) = true := by decide +kernel
theorem qd202 : qi202.all (qdOk prog_4_method_5_code) = true := qall_app qd202_0 (qall_app qd202_1 (qd202_2))
theorem qd203_0 : qi203_0.all (qdOk prog_4_method_2_code) = true := by decide +kernel
theorem qd203 : qi203.all (qdOk prog_4_method_2_code) = true := qd203_0
theorem qd204_0 : qi204_0.all (qdOk prog_4_method_1_code) = true := by decide +kernel
theorem qd204_1 : qi204_1.all (qdOk prog_4_method_1_code) = true := by decide +kernel
theorem qd204 : qi204.all (qdOk prog_4_method_1_code) = true := qall_app qd204_0 (qd204_1)
theorem qd205_0 : qi205_0.all (qdOk prog_5_method_5_code) = true := by decide +kernel
theorem qd205 : qi205.all (qdOk prog_5_method_5_code) = true := qd205_0
theorem qd206_0 : qi206_0.all (qdOk prog_5_method_2_code) = true := by decide +kernel
theorem qd206 : qi206.all (qdOk prog_5_method_2_code) = true := qd206_0
theorem qd207_0 : qi207_0.all (qdOk prog_5_method_1_code) = true := by decide +kernel
theorem qd207 : qi207.all (qdOk prog_5_method_1_code) = true := qd207_0
theorem qd208_0 : qi208_0.all (qdOk prog_5_method_3_code) = true := by decide +kernel
theorem qd208_1 : qi208_1.all (qdOk prog_5_method_3_code) = true := by decide +kernel
theorem qd208 : qi208.all (qdOk prog_5_method_3_code) = true := qall_app qd208_0 (qd208_1)
theorem qd209_0 : qi209_0.all (qdOk prog_5_method_4_code) = true := by decide +kernel
theorem qd209 : qi209.all (qdOk prog_5_method_4_code) = true := qd209_0
theorem qd210_0 : qi210_0.all (qdOk prog_6_method_5_code) = true := by decide +kernel
theorem qd210_1 : qi210_1.all (qdOk prog_6_method_5_code) = true := by decide +kernel
theorem qd210 : qi210.all (qdOk prog_6_method_5_code) = true := qall_app qd210_0 (qd210_1)
theorem qd211_0 : qi211_0.all (qdOk prog_6_method_6_code) = true := by decide +kernel
theorem qd211_1 : qi211_1.all (qdOk prog_6_method_6_code) = true := by decide +kernel
theorem qd211 : qi211.all (qdOk prog_6_method_6_code) = true := qall_app qd211_0 (qd211_1)
theorem qd212_0 : qi212_0.all (qdOk prog_6_method_7_code) = true := by decide +kernel
theorem qd212_1 : qi212_1.all (qdOk prog_6_method_7_code) = true := by decide +kernel
theorem qd212 : qi212.all (qdOk prog_6_method_7_code) = true := qall_app qd212_0 (qd212_1)
theorem qd213_0 : qi213_0.all (qdOk prog_6_method_9_code) = true := by decide +kernel
theorem qd213_1 : qi213_1.all (qdOk prog_6_method_9_code) = true := by decide +kernel
theorem qd213_2 : qi213_2.all (qdOk prog_6_method_9_code) = true := by decide +kernel
theorem qd213_3 : qi213_3.all (qdOk prog_6_method_9_code) = true := by decide +kernel
theorem qd213 : qi213.all (qdOk prog_6_method_9_code) = true := qall_app qd213_0 (qall_app qd213_1 (qall_app qd213_2 (qd213_3)))
theorem qd214_0 : qi214_0.all (qdOk prog_6_method_2_code) = true := by decide +kernel
theorem qd214 : qi214.all (qdOk prog_6_method_2_code) = true := qd214_0
theorem qd215_0 : qi215_0.all (qdOk prog_6_method_3_code) = true := by decide +kernel
theorem qd215 : qi215.all (qdOk prog_6_method_3_code) = true := qd215_0
theorem qd216_0 : qi216_0.all (qdOk prog_6_method_4_code) = true := by decide +kernel
theorem qd216 : qi216.all (qdOk prog_6_method_4_code) = true := qd216_0
theorem qd217_0 : qi217_0.all (qdOk prog_6_method_1_code) = true := by decide +kernel
theorem qd217_1 : qi217_1.all (qdOk prog_6_method_1_code) = true := by decide +kernel
theorem qd217_2 : qi217_2.all (qdOk prog_6_method_1_code) = true := by decide +kernel
theorem qd217 : qi217.all (qdOk prog_6_method_1_code) = true := qall_app qd217_0 (qall_app qd217_1 (qd217_2))
theorem qd218_0 : qi218_0.all (qdOk prog_6_method_8_code) = true := by decide +kernel
theorem qd218 : qi218.all (qdOk prog_6_method_8_code) = true := qd218_0
theorem qd219_0 : qi219_0.all (qdOk prog_7_method_2_code) = true := by decide +kernel
theorem qd219 : qi219.all (qdOk prog_7_method_2_code) = true := qd219_0
theorem qd220_0 : qi220_0.all (qdOk prog_7_method_8_code) = true := by decide +kernel
theorem qd220_1 : qi220_1.all (qdOk prog_7_method_8_code) = true := by decide +kernel
theorem qd220_2 : qi220_2.all (qdOk prog_7_method_8_code) = true := by decide +kernel
theorem qd220_3 : qi220_3.all (qdOk prog_7_method_8_code) = true := by decide +kernel
theorem qd220 : qi220.all (qdOk prog_7_method_8_code) = true := qall_app qd220_0 (qall_app qd220_1 (qall_app qd220_2 (qd220_3)))
theorem qd221_0 : qi221_0.all (qdOk prog_7_method_9_code) = true := by decide +kernel
theorem qd221_1 : qi221_1.all (qdOk prog_7_method_9_code) = true := by decide +kernel
theorem qd221_2 : qi221_2.all (qdOk prog_7_method_9_code) = true := by decide +kernel
theorem qd221_3 : qi221_3.all (qdOk prog_7_method_9_code) = true := by decide +kernel
theorem qd221 : qi221.all (qdOk prog_7_method_9_code) = true := qall_app qd221_0 (qall_app qd221_1 (qall_app qd221_2 (qd221_3)))
theorem qd222_0 : qi222_0.all (qdOk prog_7_method_4_code) = true := by decide +kernel
theorem qd222_1 : qi222_1.all (qdOk prog_7_method_4_code) = true := by decide +kernel
theorem qd222_2 : qi222_2.all (qdOk prog_7_method_4_code) = true := by decide +kernel
theorem qd222 : qi222.all (qdOk prog_7_method_4_code) = true := qall_app qd222_0 (qall_app qd222_1 (qd222_2))
theorem qd223_0 : qi223_0.all (qdOk prog_7_method_1_code) = true := by decide +kernel
theorem qd223 : qi223.all (qdOk prog_7_method_1_code) = true := qd223_0
theorem qd224_0 : qi224_0.all (qdOk prog_7_method_6_code) = true := by decide +kernel
theorem qd224_1 : qi224_1.all (qdOk prog_7_method_6_code) = true := by decide +kernel
theorem qd224 : qi224.all (qdOk prog_7_method_6_code) = true := qall_app qd224_0 (qd224_1)
theorem qd225_0 : qi225_0.all (qdOk prog_7_method_3_code) = true := by decide +kernel
theorem qd225_1 : qi225_1.all (qdOk prog_7_method_3_code) = true := by decide +kernel
theorem qd225_2 : qi225_2.all (qdOk prog_7_method_3_code) = true := by decide +kernel
theorem qd225 : qi225.all (qdOk prog_7_method_3_code) = true := qall_app qd225_0 (qall_app qd225_1 (qd225_2))
theorem qd226_0 : qi226_0.all (qdOk prog_7_method_7_code) = true := by decide +kernel
theorem qd226 : qi226.all (qdOk prog_7_method_7_code) = true := qd226_0
theorem qd227_0 : qi227_0.all (qdOk prog_7_method_5_code) = true := by decide +kernel
theorem qd227_1 : qi227_1.all (qdOk prog_7_method_5_code) = true := by decide +kernel
theorem qd227 : qi227.all (qdOk prog_7_method_5_code) = true := qall_app qd227_0 (qd227_1)
theorem qd228_0 : qi228_0.all (qdOk prog_8_method_5_code) = true := by decide +kernel
theorem qd228_1 : qi228_1.all (qdOk prog_8_method_5_code) = true := by decide +kernel
theorem qd228 : qi228.all (qdOk prog_8_method_5_code) = true := qall_app qd228_0 (qd228_1)
theorem qd229_0 : qi229_0.all (qdOk prog_8_method_1_code) = true := by decide +kernel
theorem qd229_1 : qi229_1.all (qdOk prog_8_method_1_code) = true := by decide +kernel
theorem qd229 : qi229.all (qdOk prog_8_method_1_code) = true := qall_app qd229_0 (qd229_1)
theorem qd230_0 : qi230_0.all (qdOk prog_8_method_2_code) = true := by decide +kernel
theorem qd230 : qi230.all (qdOk prog_8_method_2_code) = true := qd230_0
theorem qd231_0 : qi231_0.all (qdOk prog_8_method_4_code) = true := by decide +kernel
theorem qd231_1 : qi231_1.all (qdOk prog_8_method_4_code) = true := by decide +kernel
theorem qd231 : qi231.all (qdOk prog_8_method_4_code) = true := qall_app qd231_0 (qd231_1)
theorem qd232_0 : qi232_0.all (qdOk prog_8_method_3_code) = true := by decide +kernel
theorem qd232_1 : qi232_1.all (qdOk prog_8_method_3_code) = true := by decide +kernel
theorem qd232 : qi232.all (qdOk prog_8_method_3_code) = true := qall_app qd232_0 (qd232_1)
theorem qd233_0 : qi233_0.all (qdOk prog_9_method_4_code) = true := by decide +kernel
theorem qd233_1 : qi233_1.all (qdOk prog_9_method_4_code) = true := by decide +kernel
theorem qd233_2 : qi233_2.all (qdOk prog_9_method_4_code) = true := by decide +kernel
theorem qd233_3 : qi233_3.all (qdOk prog_9_method_4_code) = true := by decide +kernel
theorem qd233 : qi233.all (qdOk prog_9_method_4_code) = true := qall_app qd233_0 (qall_app qd233_1 (qall_app qd233_2 (qd233_3)))
theorem qd234_0 : qi234_0.all (qdOk prog_9_method_8_code) = true := by decide +kernel
theorem qd234_1 : qi234_1.all (qdOk prog_9_method_8_code) = true := by decide +kernel
theorem qd234_2 : qi234_2.all (qdOk prog_9_method_8_code) = true := by decide +kernel
theorem qd234 : qi234.all (qdOk prog_9_method_8_code) = true := qall_app qd234_0 (qall_app qd234_1 (qd234_2))
theorem qd235_0 : qi235_0.all (qdOk prog_9_method_6_code) = true := by decide +kernel
theorem qd235_1 : qi235_1.all (qdOk prog_9_method_6_code) = true := by decide +kernel
theorem qd235_2 : qi235_2.all (qdOk prog_9_method_6_code) = true := by decide +kernel
theorem qd235_3 : qi235_3.all (qdOk prog_9_method_6_code) = true := by decide +kernel
theorem qd235 : qi235.all (qdOk prog_9_method_6_code) = true := qall_app qd235_0 (qall_app qd235_1 (qall_app qd235_2 (qd235_3)))
theorem qd236_0 : qi236_0.all (qdOk prog_9_method_1_code) = true := by decide +kernel
theorem qd236_1 : qi236_1.all (qdOk prog_9_method_1_code) = true := by decide +kernel
theorem qd236 : qi236.all (qdOk prog_9_method_1_code) = true := qall_app qd236_0 (qd236_1)
theorem qd237_0 : qi237_0.all (qdOk prog_9_method_7_code) = true := by decide +kernel
theorem qd237_1 : qi237_1.all (qdOk prog_9_method_7_code) = true := by decide +kernel
theorem qd237_2 : qi237_2.all (qdOk prog_9_method_7_code) = true := by decide +kernel
theorem qd237 : qi237.all (qdOk prog_9_method_7_code) = true := qall_app qd237_0 (qall_app qd237_1 (qd237_2))
theorem qd238_0 : qi238_0.all (qdOk prog_9_method_2_code) = true := by decide +kernel
theorem qd238_1 : qi238_1.all (qdOk prog_9_method_2_code) = true := by decide +kernel
theorem qd238 : qi238.all (qdOk prog_9_method_2_code) = true := qall_app qd238_0 (qd238_1)
theorem qd239_0 : qi239_0.all (qdOk prog_9_method_3_code) = true := by decide +kernel
theorem qd239_1 : qi239_1.all (qdOk prog_9_method_3_code) = true := by decide +kernel
theorem qd239_2 : qi239_2.all (qdOk prog_9_method_3_code) = true := by decide +kernel
theorem qd239_3 : qi239_3.all (qdOk prog_9_method_3_code) = true := by decide +kernel
theorem qd239_4 : qi239_4.all (qdOk prog_9_method_3_code) = true := by decide +kernel
theorem qd239 : qi239.all (qdOk prog_9_method_3_code) = true := qall_app qd239_0 (qall_app qd239_1 (qall_app qd239_2 (qall_app qd239_3 (qd239_4))))
theorem qd240_0 : qi240_0.all (qdOk prog_9_method_5_code) = true := by decide +kernel
theorem qd240_1 : qi240_1.all (qdOk prog_9_method_5_code) = true := by decide +kernel
theorem qd240_2 : qi240_2.all (qdOk prog_9_method_5_code) = true := by decide +kernel
theorem qd240_3 : qi240_3.all (qdOk prog_9_method_5_code) = true := by decide +kernel
theorem qd240 : qi240.all (qdOk prog_9_method_5_code) = true := qall_app qd240_0 (qall_app qd240_1 (qall_app qd240_2 (qd240_3)))
theorem qd241_0 : qi241_0.all (qdOk prog_10_method_2_code) = true := by decide +kernel
theorem qd241_1 : qi241_1.all (qdOk prog_10_method_2_code) = true := by decide +kernel
theorem qd241 : qi241.all (qdOk prog_10_method_2_code) = true := qall_app qd241_0 (qd241_1)
theorem qd242_0 : qi242_0.all (qdOk prog_10_method_1_code) = true := by decide +kernel
theorem qd242 : qi242.all (qdOk prog_10_method_1_code) = true := qd242_0
theorem qd243_0 : qi243_0.all (qdOk prog_10_method_3_code) = true := by decide +kernel
theorem qd243 : qi243.all (qdOk prog_10_method_3_code) = true := qd243_0
theorem qd244_0 : qi244_0.all (qdOk prog_10_method_5_code) = true := by decide +kernel
theorem qd244 : qi244.all (qdOk prog_10_method_5_code) = true := qd244_0
theorem qd245_0 : qi245_0.all (qdOk prog_10_method_4_code) = true := by decide +kernel
theorem qd245 : qi245.all (qdOk prog_10_method_4_code) = true := qd245_0
theorem qd246_0 : qi246_0.all (qdOk prog_11_method_3_code) = true := by decide +kernel
theorem qd246 : qi246.all (qdOk prog_11_method_3_code) = true := qd246_0
theorem qd247_0 : qi247_0.all (qdOk prog_11_method_2_code) = true := by decide +kernel
theorem qd247 : qi247.all (qdOk prog_11_method_2_code) = true := qd247_0
theorem qd248_0 : qi248_0.all (qdOk prog_11_method_1_code) = true := by decide +kernel
theorem qd248 : qi248.all (qdOk prog_11_method_1_code) = true := qd248_0
theorem qd249_0 : qi249_0.all (qdOk prog_11_method_4_code) = true := by decide +kernel
theorem qd249_1 : qi249_1.all (qdOk prog_11_method_4_code) = true := by decide +kernel
theorem qd249 : qi249.all (qdOk prog_11_method_4_code) = true := qall_app qd249_0 (qd249_1)
theorem qd250_0 : qi250_0.all (qdOk prog_12_method_9_code) = true := by decide +kernel
theorem qd250 : qi250.all (qdOk prog_12_method_9_code) = true := qd250_0
