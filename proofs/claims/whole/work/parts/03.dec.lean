/-- an instruction's length, as the rows of the kit have it -/
def ma_il (i : Instr) (n : Nat) : Bool := match i with
  | .aload _ => Nat.beq n 2
  | .aload_n _ => Nat.beq n 1
  | .iload _ => Nat.beq n 2
  | .iload_n _ => Nat.beq n 1
  | .lload _ => Nat.beq n 2
  | .lload_n _ => Nat.beq n 1
  | .istore _ => Nat.beq n 2
  | .istore_n _ => Nat.beq n 1
  | .lstore _ => Nat.beq n 2
  | .lstore_n _ => Nat.beq n 1
  | .astore _ => Nat.beq n 2
  | .astore_n _ => Nat.beq n 1
  | .iinc _ _ => Nat.beq n 3
  | .iconst _ => Nat.beq n 1
  | .bipush _ => Nat.beq n 2
  | .sipush _ => Nat.beq n 3
  | .lconst _ => Nat.beq n 1
  | .ldc _ => Nat.beq n 2
  | .ldc_w _ => Nat.beq n 3
  | .ldc2_w _ => Nat.beq n 3
  | .getfield _ => Nat.beq n 3
  | .putfield _ => Nat.beq n 3
  | .getstatic _ => Nat.beq n 3
  | .invokevirtual _ => Nat.beq n 3
  | .invokestatic _ => Nat.beq n 3
  | .invokespecial _ => Nat.beq n 3
  | .new _ => Nat.beq n 3
  | .newarray _ => Nat.beq n 2
  | .anewarray _ => Nat.beq n 3
  | .goto _ => Nat.beq n 3
  | .if_icmp _ _ => Nat.beq n 3
  | .ifCond _ _ => Nat.beq n 3
  | .tableswitch _ _ _ _ => true
  | _ => Nat.beq n 1
def ma_dok (cc : ByteArray) (q : Nat × Instr × Nat) : Bool := decide (decode cc q.1 = .ok q.2) && ma_il q.2.1 q.2.2
theorem ma_alls {α : Type} {f : α → Bool} {l : List α} (n : Nat) (h1 : (l.take n).all f = true) (h2 : (l.drop n).all f = true) : l.all f = true := by
  rw [← List.take_append_drop n l, List.all_append, h1, h2]; rfl
theorem mt_d0 : mt_p0.all (ma_dok prog_2_method_1_code) = true := by decide +kernel
theorem mt_d1 : mt_p1.all (ma_dok prog_2_method_2_code) = true := by decide +kernel
theorem mt_d2 : mt_p2.all (ma_dok prog_2_method_3_code) = true := by decide +kernel
theorem mt_d3 : mt_p3.all (ma_dok prog_3_method_1_code) = true := by decide +kernel
theorem mt_d4 : mt_p4.all (ma_dok prog_3_method_2_code) = true := by decide +kernel
theorem mt_d5 : mt_p5.all (ma_dok prog_3_method_3_code) = true := by decide +kernel
theorem mt_d6 : mt_p6.all (ma_dok prog_3_method_4_code) = true := by decide +kernel
theorem mt_d7 : mt_p7.all (ma_dok prog_3_method_5_code) = true := by decide +kernel
theorem mt_d8 : mt_p8.all (ma_dok prog_3_method_6_code) = true := by decide +kernel
theorem mt_d9 : mt_p9.all (ma_dok prog_3_method_7_code) = true := by decide +kernel
theorem mt_d10 : mt_p10.all (ma_dok prog_3_method_8_code) = true := by decide +kernel
theorem mt_d11 : mt_p11.all (ma_dok prog_3_method_9_code) = true := by decide +kernel
theorem mt_d12 : mt_p12.all (ma_dok prog_4_method_1_code) = true := by decide +kernel
theorem mt_d13 : mt_p13.all (ma_dok prog_4_method_2_code) = true := by decide +kernel
theorem mt_d14 : mt_p14.all (ma_dok prog_4_method_3_code) = true := by decide +kernel
theorem mt_d15 : mt_p15.all (ma_dok prog_4_method_4_code) = true := by decide +kernel
theorem mt_d16 : mt_p16.all (ma_dok prog_4_method_5_code) = true := by decide +kernel
theorem mt_d17 : mt_p17.all (ma_dok prog_4_method_6_code) = true := by decide +kernel
theorem mt_d18 : mt_p18.all (ma_dok prog_4_method_7_code) = true := by decide +kernel
theorem mt_d19 : mt_p19.all (ma_dok prog_4_method_8_code) = true := by decide +kernel
theorem mt_d20 : mt_p20.all (ma_dok prog_4_method_9_code) = true := by decide +kernel
theorem mt_d21 : mt_p21.all (ma_dok prog_4_method_10_code) = true := by decide +kernel
theorem mt_d22 : mt_p22.all (ma_dok prog_4_method_11_code) = true := by decide +kernel
theorem mt_d23 : mt_p23.all (ma_dok prog_4_method_12_code) = true := by decide +kernel
theorem mt_d24 : mt_p24.all (ma_dok prog_4_method_13_code) = true := by decide +kernel
theorem mt_d25 : mt_p25.all (ma_dok prog_4_method_14_code) = true := by decide +kernel
theorem mt_d26 : mt_p26.all (ma_dok prog_4_method_15_code) = true := by decide +kernel
theorem mt_d27 : mt_p27.all (ma_dok prog_4_method_16_code) = true := by decide +kernel
theorem mt_d28 : mt_p28.all (ma_dok prog_4_method_16_code) = true := by decide +kernel
theorem mt_d29 : mt_p29.all (ma_dok prog_5_method_1_code) = true := by decide +kernel
theorem mt_d30 : mt_p30.all (ma_dok prog_5_method_2_code) = true := by decide +kernel
theorem mt_d31 : mt_p31.all (ma_dok prog_5_method_3_code) = true := by decide +kernel
theorem mt_d32 : mt_p32.all (ma_dok prog_5_method_4_code) = true := by decide +kernel
theorem mt_d33 : mt_p33.all (ma_dok prog_5_method_5_code) = true := by decide +kernel
theorem mt_d34 : mt_p34.all (ma_dok prog_5_method_6_code) = true := by decide +kernel
theorem mt_d35 : mt_p35.all (ma_dok prog_5_method_7_code) = true := by decide +kernel
theorem mt_d36 : mt_p36.all (ma_dok prog_5_method_8_code) = true := by decide +kernel
theorem mt_d37 : mt_p37.all (ma_dok prog_6_method_1_code) = true := by decide +kernel
theorem mt_d38 : mt_p38.all (ma_dok prog_6_method_2_code) = true := by decide +kernel
theorem mt_d39 : mt_p39.all (ma_dok prog_6_method_3_code) = true := by decide +kernel
theorem mt_d40 : mt_p40.all (ma_dok prog_6_method_4_code) = true := by decide +kernel
theorem mt_d41 : mt_p41.all (ma_dok prog_6_method_5_code) = true := by decide +kernel
theorem mt_d42 : mt_p42.all (ma_dok prog_7_method_1_code) = true := by decide +kernel
theorem mt_d43 : mt_p43.all (ma_dok prog_7_method_2_code) = true := by decide +kernel
theorem mt_d44 : mt_p44.all (ma_dok prog_7_method_3_code) = true := by decide +kernel
theorem mt_d45 : mt_p45.all (ma_dok prog_7_method_4_code) = true := by decide +kernel
theorem mt_d46 : mt_p46.all (ma_dok prog_7_method_5_code) = true := by decide +kernel
theorem mt_d47 : mt_p47.all (ma_dok prog_7_method_6_code) = true := by decide +kernel
theorem mt_d48 : mt_p48.all (ma_dok prog_7_method_7_code) = true := by decide +kernel
theorem mt_d49 : mt_p49.all (ma_dok prog_7_method_8_code) = true := by decide +kernel
theorem mt_d50 : mt_p50.all (ma_dok prog_7_method_9_code) = true := by decide +kernel
theorem mt_d51 : mt_p51.all (ma_dok prog_8_method_1_code) = true := by decide +kernel
theorem mt_d52 : mt_p52.all (ma_dok prog_8_method_2_code) = true := by decide +kernel
theorem mt_d53 : mt_p53.all (ma_dok prog_8_method_3_code) = true := by decide +kernel
theorem mt_d54 : mt_p54.all (ma_dok prog_8_method_4_code) = true := by decide +kernel
theorem mt_d55_0 : ((mt_p55.drop 0).take 100).all (ma_dok prog_8_method_5_code) = true := by decide +kernel
theorem mt_e55_100 : (mt_p55.drop 100).all (ma_dok prog_8_method_5_code) = true := by decide +kernel
theorem mt_d55 : mt_p55.all (ma_dok prog_8_method_5_code) = true := ma_alls 100 mt_d55_0 mt_e55_100
theorem mt_d56 : mt_p56.all (ma_dok prog_9_method_1_code) = true := by decide +kernel
theorem mt_d57 : mt_p57.all (ma_dok prog_9_method_2_code) = true := by decide +kernel
theorem mt_d58 : mt_p58.all (ma_dok prog_9_method_3_code) = true := by decide +kernel
theorem mt_d59 : mt_p59.all (ma_dok prog_9_method_4_code) = true := by decide +kernel
theorem mt_d60 : mt_p60.all (ma_dok prog_9_method_5_code) = true := by decide +kernel
theorem mt_d61 : mt_p61.all (ma_dok prog_9_method_6_code) = true := by decide +kernel
theorem mt_d62 : mt_p62.all (ma_dok prog_9_method_7_code) = true := by decide +kernel
theorem mt_d63 : mt_p63.all (ma_dok prog_1_method_1_code) = true := by decide +kernel
theorem mt_d64 : mt_p64.all (ma_dok prog_1_method_2_code) = true := by decide +kernel
theorem mt_d65 : mt_p65.all (ma_dok prog_1_method_3_code) = true := by decide +kernel
theorem mt_d66 : mt_p66.all (ma_dok prog_1_method_4_code) = true := by decide +kernel
theorem mt_d67 : mt_p67.all (ma_dok prog_1_method_5_code) = true := by decide +kernel
theorem mt_d68 : mt_p68.all (ma_dok prog_1_method_6_code) = true := by decide +kernel
theorem mt_d69 : mt_p69.all (ma_dok prog_1_method_7_code) = true := by decide +kernel
theorem mt_d70 : mt_p70.all (ma_dok prog_1_method_8_code) = true := by decide +kernel
theorem mt_d71 : mt_p71.all (ma_dok prog_1_method_9_code) = true := by decide +kernel
theorem mt_d72 : mt_p72.all (ma_dok prog_1_method_10_code) = true := by decide +kernel
theorem mt_d73 : mt_p73.all (ma_dok prog_1_method_11_code) = true := by decide +kernel
theorem mt_d74 : mt_p74.all (ma_dok prog_1_method_12_code) = true := by decide +kernel
theorem mt_d75 : mt_p75.all (ma_dok prog_1_method_13_code) = true := by decide +kernel
theorem mt_d76 : mt_p76.all (ma_dok prog_1_method_14_code) = true := by decide +kernel
theorem mt_d77 : mt_p77.all (ma_dok prog_1_method_15_code) = true := by decide +kernel
theorem mt_d78 : mt_p78.all (ma_dok prog_1_method_16_code) = true := by decide +kernel
theorem mt_d79 : mt_p79.all (ma_dok prog_1_method_17_code) = true := by decide +kernel
theorem mt_d80 : mt_p80.all (ma_dok prog_1_method_18_code) = true := by decide +kernel
theorem mt_d81 : mt_p81.all (ma_dok prog_1_method_19_code) = true := by decide +kernel
theorem mt_d82 : mt_p82.all (ma_dok prog_1_method_20_code) = true := by decide +kernel
theorem mt_d83 : mt_p83.all (ma_dok prog_1_method_21_code) = true := by decide +kernel
theorem mt_d84 : mt_p84.all (ma_dok prog_1_method_22_code) = true := by decide +kernel
theorem mt_d85 : mt_p85.all (ma_dok prog_1_method_23_code) = true := by decide +kernel
theorem mt_d86 : mt_p86.all (ma_dok prog_1_method_24_code) = true := by decide +kernel
theorem mt_d87 : mt_p87.all (ma_dok prog_1_method_25_code) = true := by decide +kernel
theorem mt_d88 : mt_p88.all (ma_dok prog_1_method_26_code) = true := by decide +kernel
theorem mt_d89 : mt_p89.all (ma_dok prog_1_method_27_code) = true := by decide +kernel
theorem mt_d90 : mt_p90.all (ma_dok prog_1_method_28_code) = true := by decide +kernel
theorem mt_d91 : mt_p91.all (ma_dok prog_1_method_29_code) = true := by decide +kernel
theorem mt_d92 : mt_p92.all (ma_dok prog_1_method_30_code) = true := by decide +kernel
theorem mt_d93 : mt_p93.all (ma_dok prog_1_method_31_code) = true := by decide +kernel
theorem mt_d94 : mt_p94.all (ma_dok prog_1_method_32_code) = true := by decide +kernel
theorem mt_d95 : mt_p95.all (ma_dok prog_1_method_33_code) = true := by decide +kernel
theorem mt_d96 : mt_p96.all (ma_dok prog_1_method_34_code) = true := by decide +kernel
theorem mt_d97 : mt_p97.all (ma_dok prog_1_method_35_code) = true := by decide +kernel
theorem mt_d98 : mt_p98.all (ma_dok prog_1_method_36_code) = true := by decide +kernel
theorem mt_d99 : mt_p99.all (ma_dok prog_1_method_37_code) = true := by decide +kernel
theorem mt_d100 : mt_p100.all (ma_dok prog_1_method_38_code) = true := by decide +kernel
theorem mt_d101 : mt_p101.all (ma_dok prog_1_method_39_code) = true := by decide +kernel
theorem mt_d102 : mt_p102.all (ma_dok prog_1_method_40_code) = true := by decide +kernel
theorem mt_d103 : mt_p103.all (ma_dok prog_1_method_41_code) = true := by decide +kernel
theorem mt_d104 : mt_p104.all (ma_dok prog_1_method_42_code) = true := by decide +kernel
theorem mt_d105 : mt_p105.all (ma_dok prog_1_method_43_code) = true := by decide +kernel
theorem mt_d106 : mt_p106.all (ma_dok prog_1_method_44_code) = true := by decide +kernel
theorem mt_d107 : mt_p107.all (ma_dok prog_1_method_45_code) = true := by decide +kernel
theorem mt_d108 : mt_p108.all (ma_dok prog_1_method_46_code) = true := by decide +kernel
theorem mt_d109 : mt_p109.all (ma_dok prog_1_method_47_code) = true := by decide +kernel
theorem mt_d110 : mt_p110.all (ma_dok prog_1_method_48_code) = true := by decide +kernel
theorem mt_d111 : mt_p111.all (ma_dok prog_1_method_49_code) = true := by decide +kernel
theorem mt_d112 : mt_p112.all (ma_dok prog_1_method_50_code) = true := by decide +kernel
theorem mt_d113 : mt_p113.all (ma_dok prog_1_method_51_code) = true := by decide +kernel
theorem mt_d114 : mt_p114.all (ma_dok prog_1_method_52_code) = true := by decide +kernel
theorem mt_d115 : mt_p115.all (ma_dok prog_1_method_53_code) = true := by decide +kernel
theorem mt_d116 : mt_p116.all (ma_dok prog_1_method_54_code) = true := by decide +kernel
theorem mt_d117 : mt_p117.all (ma_dok prog_1_method_55_code) = true := by decide +kernel
theorem mt_d118 : mt_p118.all (ma_dok prog_11_method_1_code) = true := by decide +kernel
theorem mt_d119 : mt_p119.all (ma_dok prog_11_method_2_code) = true := by decide +kernel
theorem mt_d120 : mt_p120.all (ma_dok prog_11_method_3_code) = true := by decide +kernel
theorem mt_d121 : mt_p121.all (ma_dok prog_11_method_4_code) = true := by decide +kernel
theorem mt_d122 : mt_p122.all (ma_dok prog_11_method_5_code) = true := by decide +kernel
theorem mt_d123 : mt_p123.all (ma_dok prog_11_method_6_code) = true := by decide +kernel
theorem mt_d124 : mt_p124.all (ma_dok prog_11_method_7_code) = true := by decide +kernel
theorem mt_d125 : mt_p125.all (ma_dok prog_11_method_8_code) = true := by decide +kernel
theorem mt_d126 : mt_p126.all (ma_dok prog_11_method_9_code) = true := by decide +kernel
theorem mt_d127 : mt_p127.all (ma_dok prog_11_method_10_code) = true := by decide +kernel
theorem mt_d128 : mt_p128.all (ma_dok prog_11_method_11_code) = true := by decide +kernel
theorem mt_d129 : mt_p129.all (ma_dok prog_11_method_12_code) = true := by decide +kernel
theorem mt_d130 : mt_p130.all (ma_dok prog_11_method_13_code) = true := by decide +kernel
theorem mt_d131 : mt_p131.all (ma_dok prog_11_method_14_code) = true := by decide +kernel
theorem mt_d132 : mt_p132.all (ma_dok prog_11_method_15_code) = true := by decide +kernel
theorem mt_d133 : mt_p133.all (ma_dok prog_11_method_16_code) = true := by decide +kernel
theorem mt_d134 : mt_p134.all (ma_dok prog_11_method_17_code) = true := by decide +kernel
theorem mt_d135 : mt_p135.all (ma_dok prog_11_method_18_code) = true := by decide +kernel
theorem mt_d136 : mt_p136.all (ma_dok prog_11_method_19_code) = true := by decide +kernel
theorem mt_d137 : mt_p137.all (ma_dok prog_11_method_20_code) = true := by decide +kernel
theorem mt_d138 : mt_p138.all (ma_dok prog_11_method_21_code) = true := by decide +kernel
theorem mt_d139 : mt_p139.all (ma_dok prog_11_method_22_code) = true := by decide +kernel
theorem mt_d140 : mt_p140.all (ma_dok prog_11_method_23_code) = true := by decide +kernel
theorem mt_d141 : mt_p141.all (ma_dok prog_11_method_24_code) = true := by decide +kernel
theorem mt_d142 : mt_p142.all (ma_dok prog_11_method_25_code) = true := by decide +kernel
theorem mt_d143 : mt_p143.all (ma_dok prog_11_method_26_code) = true := by decide +kernel
theorem mt_d144 : mt_p144.all (ma_dok prog_11_method_27_code) = true := by decide +kernel
theorem mt_d145 : mt_p145.all (ma_dok prog_11_method_28_code) = true := by decide +kernel
theorem mt_d146 : mt_p146.all (ma_dok prog_11_method_29_code) = true := by decide +kernel
theorem mt_d147 : mt_p147.all (ma_dok prog_11_method_30_code) = true := by decide +kernel
theorem mt_d148 : mt_p148.all (ma_dok prog_11_method_31_code) = true := by decide +kernel
theorem mt_d149 : mt_p149.all (ma_dok prog_11_method_32_code) = true := by decide +kernel
theorem mt_d150 : mt_p150.all (ma_dok prog_11_method_33_code) = true := by decide +kernel
theorem mt_d151 : mt_p151.all (ma_dok prog_11_method_34_code) = true := by decide +kernel
theorem mt_d152 : mt_p152.all (ma_dok prog_11_method_35_code) = true := by decide +kernel
theorem mt_d153 : mt_p153.all (ma_dok prog_11_method_36_code) = true := by decide +kernel
theorem mt_d154 : mt_p154.all (ma_dok prog_11_method_37_code) = true := by decide +kernel
theorem mt_d155_0 : ((mt_p155.drop 0).take 100).all (ma_dok prog_11_method_38_code) = true := by decide +kernel
theorem mt_d155_100 : ((mt_p155.drop 100).take 100).all (ma_dok prog_11_method_38_code) = true := by decide +kernel
theorem mt_d155_200 : ((mt_p155.drop 200).take 100).all (ma_dok prog_11_method_38_code) = true := by decide +kernel
theorem mt_d155_300 : ((mt_p155.drop 300).take 100).all (ma_dok prog_11_method_38_code) = true := by decide +kernel
theorem mt_e155_400 : (mt_p155.drop 400).all (ma_dok prog_11_method_38_code) = true := by decide +kernel
theorem mt_e155_300 : (mt_p155.drop 300).all (ma_dok prog_11_method_38_code) = true := ma_alls 100 mt_d155_300 (by rw [List.drop_drop]; exact mt_e155_400)
theorem mt_e155_200 : (mt_p155.drop 200).all (ma_dok prog_11_method_38_code) = true := ma_alls 100 mt_d155_200 (by rw [List.drop_drop]; exact mt_e155_300)
theorem mt_e155_100 : (mt_p155.drop 100).all (ma_dok prog_11_method_38_code) = true := ma_alls 100 mt_d155_100 (by rw [List.drop_drop]; exact mt_e155_200)
theorem mt_d155 : mt_p155.all (ma_dok prog_11_method_38_code) = true := ma_alls 100 mt_d155_0 mt_e155_100
theorem mt_d156 : mt_p156.all (ma_dok prog_11_method_39_code) = true := by decide +kernel
theorem mt_d157_0 : ((mt_p157.drop 0).take 100).all (ma_dok prog_11_method_40_code) = true := by decide +kernel
theorem mt_e157_100 : (mt_p157.drop 100).all (ma_dok prog_11_method_40_code) = true := by decide +kernel
theorem mt_d157 : mt_p157.all (ma_dok prog_11_method_40_code) = true := ma_alls 100 mt_d157_0 mt_e157_100
theorem mt_d158_0 : ((mt_p158.drop 0).take 100).all (ma_dok prog_11_method_41_code) = true := by decide +kernel
theorem mt_e158_100 : (mt_p158.drop 100).all (ma_dok prog_11_method_41_code) = true := by decide +kernel
theorem mt_d158 : mt_p158.all (ma_dok prog_11_method_41_code) = true := ma_alls 100 mt_d158_0 mt_e158_100
theorem mt_d159 : mt_p159.all (ma_dok prog_11_method_42_code) = true := by decide +kernel
theorem mt_d160 : mt_p160.all (ma_dok prog_11_method_43_code) = true := by decide +kernel
theorem mt_d161 : mt_p161.all (ma_dok prog_11_method_44_code) = true := by decide +kernel
theorem mt_d162_0 : ((mt_p162.drop 0).take 100).all (ma_dok prog_11_method_45_code) = true := by decide +kernel
theorem mt_e162_100 : (mt_p162.drop 100).all (ma_dok prog_11_method_45_code) = true := by decide +kernel
theorem mt_d162 : mt_p162.all (ma_dok prog_11_method_45_code) = true := ma_alls 100 mt_d162_0 mt_e162_100
theorem mt_d163 : mt_p163.all (ma_dok prog_11_method_46_code) = true := by decide +kernel
theorem mt_d164 : mt_p164.all (ma_dok prog_11_method_47_code) = true := by decide +kernel
theorem mt_d165 : mt_p165.all (ma_dok prog_11_method_48_code) = true := by decide +kernel
theorem mt_d166 : mt_p166.all (ma_dok prog_11_method_49_code) = true := by decide +kernel
theorem mt_d167 : mt_p167.all (ma_dok prog_11_method_50_code) = true := by decide +kernel
theorem mt_d168_0 : ((mt_p168.drop 0).take 100).all (ma_dok prog_11_method_51_code) = true := by decide +kernel
theorem mt_e168_100 : (mt_p168.drop 100).all (ma_dok prog_11_method_51_code) = true := by decide +kernel
theorem mt_d168 : mt_p168.all (ma_dok prog_11_method_51_code) = true := ma_alls 100 mt_d168_0 mt_e168_100
theorem mt_d169 : mt_p169.all (ma_dok prog_11_method_52_code) = true := by decide +kernel
theorem mt_d170 : mt_p170.all (ma_dok prog_11_method_53_code) = true := by decide +kernel
theorem mt_d171 : mt_p171.all (ma_dok prog_11_method_54_code) = true := by decide +kernel
theorem mt_d172 : mt_p172.all (ma_dok prog_11_method_55_code) = true := by decide +kernel
theorem mt_d173 : mt_p173.all (ma_dok prog_11_method_56_code) = true := by decide +kernel
theorem mt_d174 : mt_p174.all (ma_dok prog_11_method_57_code) = true := by decide +kernel
theorem mt_d175 : mt_p175.all (ma_dok prog_11_method_58_code) = true := by decide +kernel
theorem mt_d176 : mt_p176.all (ma_dok prog_11_method_59_code) = true := by decide +kernel
theorem mt_d177 : mt_p177.all (ma_dok prog_11_method_60_code) = true := by decide +kernel
theorem mt_d178 : mt_p178.all (ma_dok prog_11_method_61_code) = true := by decide +kernel
theorem mt_d179 : mt_p179.all (ma_dok prog_11_method_62_code) = true := by decide +kernel
theorem mt_d180 : mt_p180.all (ma_dok prog_11_method_63_code) = true := by decide +kernel
theorem mt_d181 : mt_p181.all (ma_dok prog_11_method_64_code) = true := by decide +kernel
theorem mt_d182 : mt_p182.all (ma_dok prog_11_method_65_code) = true := by decide +kernel
theorem mt_d183 : mt_p183.all (ma_dok prog_11_method_66_code) = true := by decide +kernel
theorem mt_d184 : mt_p184.all (ma_dok prog_12_method_49_code) = true := by decide +kernel
theorem mt_d185 : mt_p185.all (ma_dok prog_14_method_54_code) = true := by decide +kernel
theorem mt_d186 : mt_p186.all (ma_dok prog_14_method_56_code) = true := by decide +kernel
theorem mt_d187 : mt_p187.all (ma_dok prog_14_method_152_code) = true := by decide +kernel
theorem mt_d188 : mt_p188.all (ma_dok prog_14_method_154_code) = true := by decide +kernel
theorem mt_d189 : mt_p189.all (ma_dok prog_14_method_155_code) = true := by decide +kernel
theorem mt_d190 : mt_p190.all (ma_dok prog_15_method_2_code) = true := by decide +kernel
theorem mt_d191 : mt_p191.all (ma_dok prog_18_method_11_code) = true := by decide +kernel
theorem mt_d192_0 : ((mt_p192.drop 0).take 100).all (ma_dok code) = true := by decide +kernel
theorem mt_d192_100 : ((mt_p192.drop 100).take 100).all (ma_dok code) = true := by decide +kernel
theorem mt_d192_200 : ((mt_p192.drop 200).take 100).all (ma_dok code) = true := by decide +kernel
theorem mt_d192_300 : ((mt_p192.drop 300).take 100).all (ma_dok code) = true := by decide +kernel
theorem mt_d192_400 : ((mt_p192.drop 400).take 100).all (ma_dok code) = true := by decide +kernel
theorem mt_d192_500 : ((mt_p192.drop 500).take 100).all (ma_dok code) = true := by decide +kernel
theorem mt_d192_600 : ((mt_p192.drop 600).take 100).all (ma_dok code) = true := by decide +kernel
theorem mt_e192_700 : (mt_p192.drop 700).all (ma_dok code) = true := by decide +kernel
theorem mt_e192_600 : (mt_p192.drop 600).all (ma_dok code) = true := ma_alls 100 mt_d192_600 (by rw [List.drop_drop]; exact mt_e192_700)
theorem mt_e192_500 : (mt_p192.drop 500).all (ma_dok code) = true := ma_alls 100 mt_d192_500 (by rw [List.drop_drop]; exact mt_e192_600)
theorem mt_e192_400 : (mt_p192.drop 400).all (ma_dok code) = true := ma_alls 100 mt_d192_400 (by rw [List.drop_drop]; exact mt_e192_500)
theorem mt_e192_300 : (mt_p192.drop 300).all (ma_dok code) = true := ma_alls 100 mt_d192_300 (by rw [List.drop_drop]; exact mt_e192_400)
theorem mt_e192_200 : (mt_p192.drop 200).all (ma_dok code) = true := ma_alls 100 mt_d192_200 (by rw [List.drop_drop]; exact mt_e192_300)
theorem mt_e192_100 : (mt_p192.drop 100).all (ma_dok code) = true := ma_alls 100 mt_d192_100 (by rw [List.drop_drop]; exact mt_e192_200)
theorem mt_d192 : mt_p192.all (ma_dok code) = true := ma_alls 100 mt_d192_0 mt_e192_100
