def lp_L_acts_1137 (fu : Nat) (M : MM) (v : Int32) (w : Int32) (b : Int32) (k : Int32) : Option (Int32 × MM) := match fu with
  | 0 => none
  | n + 1 => (bnd2 (f_X10_count M 5) fun r9001 Mw9002 => (if (r9001 : Int32) = 0 then (if (r9001 : Int32) = 0 then (bnd2 (f_X10_count Mw9002 6) fun r9075 Mw9076 => (bnd2 (f_L_low Mw9076 v 2) fun r9078 Mw9079 => (if (r9078 : Int32) = 0 then (bnd2 (f_X10_cancel Mw9079 0) fun r9095 Mw9096 => (if (r9001 : Int32) = 0 then (if (r9095 : Int32) = (-1 : Int32) then (bnd2 (f_L_low Mw9096 v 3) fun r9100 Mw9101 => (bnd2 (f_L_low Mw9101 w 50) fun r9103 Mw9104 => (bnd2 (f_X10_set Mw9104 ((4) + (r9100)) ((1) + (r9103))) fun r9106 Mw9107 => (if (r9106 : Int32) < 0 then none else some (1, Mw9107))))) else none) else none)) else (if (r9001 : Int32) = 0 then (if (r9001 : Int32) = 0 then (if (-1 : Int32) = (-1 : Int32) then (bnd2 (f_L_low Mw9079 v 3) fun r9085 Mw9086 => (bnd2 (f_L_low Mw9086 w 50) fun r9088 Mw9089 => (bnd2 (f_X10_set Mw9089 ((4) + (r9085)) ((1) + (r9088))) fun r9091 Mw9092 => (if (r9091 : Int32) < 0 then none else some (1, Mw9092))))) else none) else none) else none)))) else none) else (bnd2 (f_L_low Mw9002 w r9001) fun r9005 Mw9006 => (if (r9001 : Int32) = 0 then none else (bnd2 (f_X10_orderOf Mw9006 r9005 3) fun r9009 Mw9010 => (bnd2 (f_X10_count Mw9010 6) fun r9012 Mw9013 => (bnd2 (f_L_low Mw9013 v 2) fun r9015 Mw9016 => (if (r9015 : Int32) = 0 then (bnd2 (f_X10_cancel Mw9016 r9005) fun r9047 Mw9048 => (if (r9001 : Int32) = 0 then none else (if (r9009 : Int32) ≤ 0 then (if (r9047 : Int32) = ((r9012) - (1) : Int32) then (bnd2 (f_L_low Mw9048 v 3) fun r9053 Mw9054 => (bnd2 (f_L_low Mw9054 w 50) fun r9056 Mw9057 => (bnd2 (f_X10_set Mw9057 ((4) + (r9053)) ((1) + (r9056))) fun r9059 Mw9060 => (if (r9059 : Int32) < 0 then none else some (1, Mw9060))))) else none) else (if (r9047 : Int32) = (-2 : Int32) then (bnd2 (f_L_low Mw9048 v 3) fun r9064 Mw9065 => (bnd2 (f_L_low Mw9065 w 50) fun r9067 Mw9068 => (bnd2 (f_X10_set Mw9068 ((4) + (r9064)) ((1) + (r9067))) fun r9070 Mw9071 => (if (r9070 : Int32) < 0 then none else some (1, Mw9071))))) else none)))) else (if (r9001 : Int32) = 0 then none else (if (r9009 : Int32) ≤ 0 then (if (r9001 : Int32) = 0 then none else (if (r9009 : Int32) ≤ 0 then (if ((r9012) - (1) : Int32) = ((r9012) - (1) : Int32) then (bnd2 (f_L_low Mw9016 v 3) fun r9024 Mw9025 => (bnd2 (f_L_low Mw9025 w 50) fun r9027 Mw9028 => (bnd2 (f_X10_set Mw9028 ((4) + (r9024)) ((1) + (r9027))) fun r9030 Mw9031 => (if (r9030 : Int32) < 0 then none else some (1, Mw9031))))) else none) else none)) else (if (r9001 : Int32) = 0 then none else (if (r9009 : Int32) ≤ 0 then none else (if (-2 : Int32) = (-2 : Int32) then (bnd2 (f_L_low Mw9016 v 3) fun r9037 Mw9038 => (bnd2 (f_L_low Mw9038 w 50) fun r9040 Mw9041 => (bnd2 (f_X10_set Mw9041 ((4) + (r9037)) ((1) + (r9040))) fun r9043 Mw9044 => (if (r9043 : Int32) < 0 then none else some (1, Mw9044))))) else none)))))))))))))
def lp_L_acts_966 (fu : Nat) (M : MM) (v : Int32) (w : Int32) (b : Int32) (k : Int32) : Option (Int32 × MM) := match fu with
  | 0 => none
  | n + 1 => (bnd2 (f_X10_count M 0) fun r8001 Mw8002 => (if (r8001 : Int32) = 0 then (if (r8001 : Int32) = 0 then (if (r8001 : Int32) ≤ 0 then (bnd2 (f_X10_scrap Mw8002 0) fun r8070 Mw8071 => (if (r8001 : Int32) = 0 then (if (r8070 : Int32) = (-1 : Int32) then some (1, Mw8071) else none) else none)) else (bnd2 (f_X10_lot Mw8002 0 4) fun r8075 Mw8076 => (if (r8075 : Int32) = (1 : Int32) then (bnd2 (f_X10_scrap Mw8076 0) fun r8084 Mw8085 => (if (r8001 : Int32) = 0 then (if (r8084 : Int32) = (-1 : Int32) then some (1, Mw8085) else none) else none)) else (bnd2 (f_X10_scrap Mw8076 0) fun r8079 Mw8080 => (if (r8001 : Int32) = 0 then (if (r8079 : Int32) = (-1 : Int32) then some (1, Mw8080) else none) else none))))) else none) else (bnd2 (f_L_low Mw8002 v r8001) fun r8005 Mw8006 => (if (r8001 : Int32) = 0 then none else (bnd2 (f_X10_melt Mw8006 2) fun r8009 Mw8010 => (bnd2 (f_X10_lot Mw8010 r8005 2) fun r8012 Mw8013 => (if (r8001 : Int32) ≤ 0 then (bnd2 (f_X10_scrap Mw8013 r8005) fun r8016 Mw8017 => (if (r8001 : Int32) = 0 then none else (if ((r8009) + (r8012) : Int32) ≤ (20000 : Int32) then (bnd2 (f_X10_melt Mw8017 2) fun r8021 Mw8022 => (if (r8016 : Int32) = (r8021 : Int32) then (if (0 : Int32) = 0 then (if (r8016 : Int32) = ((r8009) + (r8012) : Int32) then (bnd2 (f_X10_count Mw8022 0) fun r8027 Mw8028 => (if (r8027 : Int32) = ((r8001) - (1) : Int32) then some (1, Mw8028) else none)) else none) else none) else none)) else (if (r8016 : Int32) = (-3 : Int32) then some (1, Mw8017) else none)))) else (bnd2 (f_X10_lot Mw8013 r8005 4) fun r8032 Mw8033 => (if (r8032 : Int32) = (1 : Int32) then (bnd2 (f_X10_scrap Mw8033 r8005) fun r8052 Mw8053 => (if (r8001 : Int32) = 0 then none else (if ((r8009) + (r8012) : Int32) ≤ (20000 : Int32) then (bnd2 (f_X10_melt Mw8053 2) fun r8057 Mw8058 => (if (r8052 : Int32) = (r8057 : Int32) then (if (1 : Int32) = 0 then none else (if ((r8009) + (r8012) : Int32) < (r8052 : Int32) then none else (bnd2 (f_X10_count Mw8058 0) fun r8063 Mw8064 => (if (r8063 : Int32) = ((r8001) - (1) : Int32) then some (1, Mw8064) else none)))) else none)) else (if (r8052 : Int32) = (-3 : Int32) then some (1, Mw8053) else none)))) else (bnd2 (f_X10_scrap Mw8033 r8005) fun r8036 Mw8037 => (if (r8001 : Int32) = 0 then none else (if ((r8009) + (r8012) : Int32) ≤ (20000 : Int32) then (bnd2 (f_X10_melt Mw8037 2) fun r8041 Mw8042 => (if (r8036 : Int32) = (r8041 : Int32) then (if (0 : Int32) = 0 then (if (r8036 : Int32) = ((r8009) + (r8012) : Int32) then (bnd2 (f_X10_count Mw8042 0) fun r8047 Mw8048 => (if (r8047 : Int32) = ((r8001) - (1) : Int32) then some (1, Mw8048) else none)) else none) else none) else none)) else (if (r8036 : Int32) = (-3 : Int32) then some (1, Mw8037) else none)))))))))))))
def lp_L_acts_803 (fu : Nat) (M : MM) (v : Int32) (w : Int32) (b : Int32) (k : Int32) : Option (Int32 × MM) := match fu with
  | 0 => none
  | n + 1 => (bnd2 (f_X10_count M 5) fun r7001 Mw7002 => (if (r7001 : Int32) = 0 then (if (b : Int32) ≤ 0 then (bnd2 (f_X10_send Mw7002 k 0) fun r7081 Mw7082 => (if (b : Int32) = 0 then (if (r7081 : Int32) = (-1 : Int32) then some (1, Mw7082) else none) else (if (r7001 : Int32) = 0 then (if (r7081 : Int32) = (-1 : Int32) then some (1, Mw7082) else none) else none))) else (if (r7001 : Int32) ≤ 0 then (bnd2 (f_X10_send Mw7002 k 0) fun r7089 Mw7090 => (if (b : Int32) = 0 then (if (r7089 : Int32) = (-1 : Int32) then some (1, Mw7090) else none) else (if (r7001 : Int32) = 0 then (if (r7089 : Int32) = (-1 : Int32) then some (1, Mw7090) else none) else none))) else (bnd2 (f_X10_tuneFor Mw7002 k 0) fun r7096 Mw7097 => (if (r7096 : Int32) = 0 then (bnd2 (f_X10_orderOf Mw7097 0 3) fun r7107 Mw7108 => (if (r7107 : Int32) = 0 then (bnd2 (f_X10_bell Mw7108 k 2) fun r7118 Mw7119 => (bnd2 (f_X10_count Mw7119 26) fun r7121 Mw7122 => (if (r7121 : Int32) < (r7118 : Int32) then (bnd2 (f_X10_send Mw7122 k 0) fun r7125 Mw7126 => (if (b : Int32) = 0 then (if (r7125 : Int32) = (-1 : Int32) then some (1, Mw7126) else none) else (if (r7001 : Int32) = 0 then (if (r7125 : Int32) = (-1 : Int32) then some (1, Mw7126) else none) else none))) else (bnd2 (f_X10_send Mw7122 k 0) fun r7132 Mw7133 => (if (b : Int32) = 0 then (if (r7132 : Int32) = (-1 : Int32) then some (1, Mw7133) else none) else (if (r7001 : Int32) = 0 then (if (r7132 : Int32) = (-1 : Int32) then some (1, Mw7133) else none) else none)))))) else (bnd2 (f_X10_send Mw7108 k 0) fun r7111 Mw7112 => (if (b : Int32) = 0 then (if (r7111 : Int32) = (-1 : Int32) then some (1, Mw7112) else none) else (if (r7001 : Int32) = 0 then (if (r7111 : Int32) = (-1 : Int32) then some (1, Mw7112) else none) else none))))) else (bnd2 (f_X10_send Mw7097 k 0) fun r7100 Mw7101 => (if (b : Int32) = 0 then (if (r7100 : Int32) = (-1 : Int32) then some (1, Mw7101) else none) else (if (r7001 : Int32) = 0 then (if (r7100 : Int32) = (-1 : Int32) then some (1, Mw7101) else none) else none))))))) else (bnd2 (f_L_low Mw7002 w r7001) fun r7005 Mw7006 => (if (b : Int32) ≤ 0 then (bnd2 (f_X10_send Mw7006 k r7005) fun r7009 Mw7010 => (if (b : Int32) = 0 then (if (r7009 : Int32) = (-1 : Int32) then some (1, Mw7010) else none) else (if (r7001 : Int32) = 0 then none else (if (0 : Int32) = 0 then (if (r7009 : Int32) = (-2 : Int32) then some (1, Mw7010) else none) else none)))) else (if (r7001 : Int32) ≤ 0 then (bnd2 (f_X10_send Mw7006 k r7005) fun r7018 Mw7019 => (if (b : Int32) = 0 then (if (r7018 : Int32) = (-1 : Int32) then some (1, Mw7019) else none) else (if (r7001 : Int32) = 0 then none else (if (0 : Int32) = 0 then (if (r7018 : Int32) = (-2 : Int32) then some (1, Mw7019) else none) else none)))) else (bnd2 (f_X10_tuneFor Mw7006 k r7005) fun r7026 Mw7027 => (if (r7026 : Int32) = 0 then (bnd2 (f_X10_orderOf Mw7027 r7005 3) fun r7038 Mw7039 => (if (r7038 : Int32) = 0 then (bnd2 (f_X10_bell Mw7039 k 2) fun r7050 Mw7051 => (bnd2 (f_X10_count Mw7051 26) fun r7053 Mw7054 => (if (r7053 : Int32) < (r7050 : Int32) then (bnd2 (f_X10_send Mw7054 k r7005) fun r7057 Mw7058 => (if (b : Int32) = 0 then (if (r7057 : Int32) = (-1 : Int32) then some (1, Mw7058) else none) else (if (r7001 : Int32) = 0 then none else (if (0 : Int32) = 0 then (if (r7057 : Int32) = (-2 : Int32) then some (1, Mw7058) else none) else none)))) else (bnd2 (f_X10_send Mw7054 k r7005) fun r7065 Mw7066 => (if (b : Int32) = 0 then (if (r7065 : Int32) = (-1 : Int32) then some (1, Mw7066) else none) else (if (r7001 : Int32) = 0 then none else (if (1 : Int32) = 0 then none else (bnd2 (f_X10_bell Mw7066 k 2) fun r7072 Mw7073 => (if (r7065 : Int32) = (r7072 : Int32) then (bnd2 (f_X10_bell Mw7073 k 9) fun r7076 Mw7077 => (if (r7076 : Int32) = (r7005 : Int32) then some (1, Mw7077) else none)) else none))))))))) else (bnd2 (f_X10_send Mw7039 k r7005) fun r7042 Mw7043 => (if (b : Int32) = 0 then (if (r7042 : Int32) = (-1 : Int32) then some (1, Mw7043) else none) else (if (r7001 : Int32) = 0 then none else (if (0 : Int32) = 0 then (if (r7042 : Int32) = (-2 : Int32) then some (1, Mw7043) else none) else none)))))) else (bnd2 (f_X10_send Mw7027 k r7005) fun r7030 Mw7031 => (if (b : Int32) = 0 then (if (r7030 : Int32) = (-1 : Int32) then some (1, Mw7031) else none) else (if (r7001 : Int32) = 0 then none else (if (0 : Int32) = 0 then (if (r7030 : Int32) = (-2 : Int32) then some (1, Mw7031) else none) else none)))))))))))
def lp_L_acts_666 (fu : Nat) (M : MM) (v : Int32) (w : Int32) (b : Int32) (k : Int32) : Option (Int32 × MM) := match fu with
  | 0 => none
  | n + 1 => (bnd2 (f_X10_count M 5) fun r6001 Mw6002 => (if (b : Int32) = 0 then (if (b : Int32) = 0 then (if (1 : Int32) ≤ (800 : Int32) then (bnd2 (f_L_low Mw6002 ((w) >>> ((6) &&& 31)) 20) fun r6034 Mw6035 => (bnd2 (f_X10_order Mw6035 0 800 r6034) fun r6037 Mw6038 => (if (r6037 : Int32) = (-3 : Int32) then (bnd2 (f_X10_count Mw6038 6) fun r6046 Mw6047 => (if (r6046 : Int32) = (8 : Int32) then some (1, Mw6047) else (if (r6001 : Int32) = (100 : Int32) then some (1, Mw6047) else none))) else (if (r6037 : Int32) = (r6001 : Int32) then (bnd2 (f_X10_orderOf Mw6038 r6001 3) fun r6042 Mw6043 => (if (r6042 : Int32) = 0 then some (1, Mw6043) else none)) else none)))) else none) else none) else (bnd2 (f_X10_bell Mw6002 k 4) fun r6005 Mw6006 => (if (b : Int32) = 0 then none else (bnd2 (f_X10_bell Mw6006 k 5) fun r6009 Mw6010 => (bnd2 (f_L_low Mw6010 w 60) fun r6012 Mw6013 => (bnd2 (f_L_low Mw6013 ((w) >>> ((6) &&& 31)) 20) fun r6015 Mw6016 => (bnd2 (f_X10_order Mw6016 r6005 (if (1 : Int32) ≤ ((r6009) - (r6012) : Int32) then ((r6009) - (r6012) : Int32) else (1 : Int32)) r6015) fun r6018 Mw6019 => (if (r6018 : Int32) = (-3 : Int32) then (bnd2 (f_X10_count Mw6019 6) fun r6027 Mw6028 => (if (r6027 : Int32) = (8 : Int32) then some (1, Mw6028) else (if (r6001 : Int32) = (100 : Int32) then some (1, Mw6028) else none))) else (if (r6018 : Int32) = (r6001 : Int32) then (bnd2 (f_X10_orderOf Mw6019 r6001 3) fun r6023 Mw6024 => (if (r6023 : Int32) = 0 then some (1, Mw6024) else none)) else none))))))))))
def lp_L_acts_578 (fu : Nat) (M : MM) (v : Int32) (w : Int32) (b : Int32) (k : Int32) : Option (Int32 × MM) := match fu with
  | 0 => none
  | n + 1 => (if (b : Int32) = 0 then (bnd2 (f_X10_smash M k) fun r5002 Mw5003 => (if (b : Int32) = 0 then (if (r5002 : Int32) = (-1 : Int32) then some (1, Mw5003) else none) else none)) else (bnd2 (f_X10_bell M k 8) fun r5007 Mw5008 => (if (r5007 : Int32) ≤ (1 : Int32) then (bnd2 (f_X10_bell Mw5008 k 2) fun r5011 Mw5012 => (bnd2 (f_X10_smash Mw5012 k) fun r5014 Mw5015 => (if (b : Int32) = 0 then none else (if (r5014 : Int32) = (r5011 : Int32) then (if (r5014 : Int32) < 0 then some (1, Mw5015) else (bnd2 (f_X10_bell Mw5015 k 8) fun r5020 Mw5021 => (if (r5020 : Int32) = (3 : Int32) then some (1, Mw5021) else none))) else none)))) else (bnd2 (f_X10_smash Mw5008 k) fun r5024 Mw5025 => (if (b : Int32) = 0 then none else (if (r5024 : Int32) = (-2 : Int32) then (if (r5024 : Int32) < 0 then some (1, Mw5025) else (bnd2 (f_X10_bell Mw5025 k 8) fun r5030 Mw5031 => (if (r5030 : Int32) = (3 : Int32) then some (1, Mw5031) else none))) else none))))))
def lp_L_acts_417 (fu : Nat) (M : MM) (v : Int32) (w : Int32) (b : Int32) (k : Int32) : Option (Int32 × MM) := match fu with
  | 0 => none
  | n + 1 => (bnd2 (f_L_low M w 30) fun r4001 Mw4002 => (if (b : Int32) = 0 then (if (b : Int32) = 0 then (if (b : Int32) = 0 then (bnd2 (f_X10_tune Mw4002 k ((1) + (r4001))) fun r4035 Mw4036 => (if (b : Int32) = 0 then (if (r4035 : Int32) = (-1 : Int32) then some (1, Mw4036) else none) else none)) else none) else none) else (bnd2 (f_X10_bell Mw4002 k 8) fun r4005 Mw4006 => (if (b : Int32) = 0 then none else (bnd2 (f_X10_bell Mw4006 k 5) fun r4009 Mw4010 => (if (b : Int32) = 0 then none else (bnd2 (f_X10_bell Mw4010 k 2) fun r4013 Mw4014 => (bnd2 (f_X10_tune Mw4014 k ((1) + (r4001))) fun r4016 Mw4017 => (if (b : Int32) = 0 then none else (if 0 < (r4005 : Int32) then (if (r4016 : Int32) = (-2 : Int32) then some (1, Mw4017) else none) else (if ((1) + (r4001) : Int32) < (r4013 : Int32) then (bnd2 (f_X10_bell Mw4017 k 5) fun r4023 Mw4024 => (if (r4016 : Int32) = (r4023 : Int32) then (if (r4009 : Int32) < (r4016 : Int32) then none else (bnd2 (f_X10_bell Mw4024 k 2) fun r4028 Mw4029 => (if (r4028 : Int32) = ((r4013) - ((1) + (r4001)) : Int32) then some (1, Mw4029) else none))) else none)) else (if (r4016 : Int32) = (-2 : Int32) then some (1, Mw4017) else none))))))))))))
def lp_L_acts_276 (fu : Nat) (M : MM) (v : Int32) (w : Int32) (b : Int32) (k : Int32) : Option (Int32 × MM) := match fu with
  | 0 => none
  | n + 1 => (bnd2 (f_L_low M w 700) fun r3001 Mw3002 => (bnd2 (f_X10_count Mw3002 24) fun r3004 Mw3005 => (bnd2 (f_L_low Mw3005 v 4) fun r3008 Mw3009 => (bnd2 (f_X10_pour Mw3009 r3008 ((1) + (r3001))) fun r3011 Mw3012 => (if 0 ≤ (r3011 : Int32) then (if (r3011 : Int32) = (b : Int32) then (bnd2 (f_X10_bell Mw3012 b 2) fun r3016 Mw3017 => (if (r3016 : Int32) = ((1) + (r3001) : Int32) then (bnd2 (f_X10_bell Mw3017 b 4) fun r3020 Mw3021 => (bnd2 (f_L_low Mw3021 v 4) fun r3023 Mw3024 => (if (r3020 : Int32) = (r3023 : Int32) then some (1, Mw3024) else none))) else none)) else none) else (if (r3011 : Int32) = (-3 : Int32) then (bnd2 (f_X10_count Mw3012 2) fun r3033 Mw3034 => (if (r3033 : Int32) = (12 : Int32) then some (1, Mw3034) else none)) else (if (r3011 : Int32) = (-2 : Int32) then (bnd2 (f_X10_melt Mw3012 4) fun r3029 Mw3030 => (if (((1) + (r3001)) + (((((1) + (r3001)) * (r3004)) + (999)) / (1000)) : Int32) ≤ (r3029 : Int32) then none else some (1, Mw3030))) else none)))))))
def lp_L_acts_172 (fu : Nat) (M : MM) (v : Int32) (w : Int32) (b : Int32) (k : Int32) : Option (Int32 × MM) := match fu with
  | 0 => none
  | n + 1 => (bnd2 (f_L_low M v 4) fun r2001 Mw2002 => (bnd2 (f_L_low Mw2002 w (if (if (r2001 : Int32) = 0 then (1 : Int32) else (0 : Int32) : Int32) = (1 : Int32) then (900 : Int32) else (4000 : Int32))) fun r2004 Mw2005 => (bnd2 (f_X10_melt Mw2005 2) fun r2007 Mw2008 => (bnd2 (f_X10_account Mw2008 (if (r2001 : Int32) = 0 then (1 : Int32) else (0 : Int32)) 1) fun r2010 Mw2011 => (bnd2 (f_X10_charge Mw2011 (if (r2001 : Int32) = 0 then (1 : Int32) else (0 : Int32)) ((1) + (r2004))) fun r2013 Mw2014 => (if ((1) + (r2004) : Int32) ≤ (r2010 : Int32) then (if ((r2007) + ((1) + (r2004)) : Int32) ≤ (20000 : Int32) then (if (r2013 : Int32) = ((r2007) + ((1) + (r2004)) : Int32) then some (1, Mw2014) else none) else (if (r2013 : Int32) = (-3 : Int32) then some (1, Mw2014) else none)) else (if (r2013 : Int32) = (-2 : Int32) then some (1, Mw2014) else none)))))))
def lp_L_acts_88 (fu : Nat) (M : MM) (v : Int32) (w : Int32) (b : Int32) (k : Int32) : Option (Int32 × MM) := match fu with
  | 0 => none
  | n + 1 => (bnd2 (f_L_low M v 4) fun r1001 Mw1002 => (bnd2 (f_L_low Mw1002 w (if (if (r1001 : Int32) = 0 then (1 : Int32) else (0 : Int32) : Int32) = (1 : Int32) then (900 : Int32) else (4000 : Int32))) fun r1004 Mw1005 => (bnd2 (f_X10_account Mw1005 (if (r1001 : Int32) = 0 then (1 : Int32) else (0 : Int32)) 1) fun r1007 Mw1008 => (bnd2 (f_X10_buy Mw1008 (if (r1001 : Int32) = 0 then (1 : Int32) else (0 : Int32)) ((1) + (r1004))) fun r1010 Mw1011 => (if (r1010 : Int32) = ((r1007) + ((1) + (r1004)) : Int32) then (bnd2 (f_X10_account Mw1011 (if (r1001 : Int32) = 0 then (1 : Int32) else (0 : Int32)) 1) fun r1014 Mw1015 => (if (r1014 : Int32) = ((r1007) + ((1) + (r1004)) : Int32) then some (1, Mw1015) else none)) else none)))))
def f_L_acts (M : MM) (x : Int32) (v : Int32) (w : Int32) : Option (Int32 × MM) := (bnd2 (f_X10_count M 1) fun r1 Mw2 => (if (r1 : Int32) = 0 then (if (x : Int32) = 0 then (lp_L_acts_88 FU Mw2 v w r1 0) else (if (x : Int32) = 1 then (lp_L_acts_172 FU Mw2 v w r1 0) else (if (x : Int32) = 2 then (lp_L_acts_276 FU Mw2 v w r1 0) else (if (x : Int32) = 3 then (lp_L_acts_276 FU Mw2 v w r1 0) else (if (x : Int32) = 4 then (lp_L_acts_276 FU Mw2 v w r1 0) else (if (x : Int32) = 5 then (lp_L_acts_417 FU Mw2 v w r1 0) else (if (x : Int32) = 6 then (lp_L_acts_417 FU Mw2 v w r1 0) else (if (x : Int32) = 7 then (lp_L_acts_578 FU Mw2 v w r1 0) else (if (x : Int32) = 8 then (lp_L_acts_666 FU Mw2 v w r1 0) else (if (x : Int32) = 9 then (lp_L_acts_666 FU Mw2 v w r1 0) else (if (x : Int32) = 10 then (lp_L_acts_803 FU Mw2 v w r1 0) else (if (x : Int32) = 11 then (lp_L_acts_966 FU Mw2 v w r1 0) else (lp_L_acts_1137 FU Mw2 v w r1 0))))))))))))) else (bnd2 (f_L_low Mw2 v r1) fun r5 Mw6 => (if (x : Int32) = 0 then (lp_L_acts_88 FU Mw6 v w r1 r5) else (if (x : Int32) = 1 then (lp_L_acts_172 FU Mw6 v w r1 r5) else (if (x : Int32) = 2 then (lp_L_acts_276 FU Mw6 v w r1 r5) else (if (x : Int32) = 3 then (lp_L_acts_276 FU Mw6 v w r1 r5) else (if (x : Int32) = 4 then (lp_L_acts_276 FU Mw6 v w r1 r5) else (if (x : Int32) = 5 then (lp_L_acts_417 FU Mw6 v w r1 r5) else (if (x : Int32) = 6 then (lp_L_acts_417 FU Mw6 v w r1 r5) else (if (x : Int32) = 7 then (lp_L_acts_578 FU Mw6 v w r1 r5) else (if (x : Int32) = 8 then (lp_L_acts_666 FU Mw6 v w r1 r5) else (if (x : Int32) = 9 then (lp_L_acts_666 FU Mw6 v w r1 r5) else (if (x : Int32) = 10 then (lp_L_acts_803 FU Mw6 v w r1 r5) else (if (x : Int32) = 11 then (lp_L_acts_966 FU Mw6 v w r1 r5) else (lp_L_acts_1137 FU Mw6 v w r1 r5))))))))))))))))
set_option maxHeartbeats 4000000 in
set_option maxRecDepth 100000 in
theorem t_L_acts_1137 (l : Launch) (g : GD)  {p : Program} {e : Env} {s : State} {m : MethodId} {av : Array Value} {below : List Frame} {meth : Method} {c : Code} (n : Nat) : ∀ (M : MM) (v : Int32) (w : Int32) (b : Int32) (k : Int32) (r : Int32) (M2 : MM), lp_L_acts_1137 n M v w b k = some (r, M2) → CX p s m av c cL_acts 11 RL g → meth.sig.returnType = (some .boolean) → meth.locks = false → ∀ (H : Heap) (locs : List Loc), Wd g M H → sU g s H locs → ∀ ls : Array Slot, lv_has ls 11 [(0, rf g (0)), (2, .int (v)), (3, .int (w)), (4, .int (b)), (5, .int (k))] → W p l e (RM 5 128) s m av below meth c H locs 0 0 (MQ below (QU g (fun v w0 => v = .int r ∧ M2 = w0)) av s 0 0 (AU g)) (F0 m 1137 ls []) := by
  induction n with
  | zero => intro M v w b k r M2 h; cases h
  | succ n ih0 =>
    intro M v w b k r M2 h C hr hlk H locs hW hS ls hl
    have ih : ∀ (M : MM) (v : Int32) (w : Int32) (b : Int32) (k : Int32), lp_L_acts_1137 n M v w b k = some (r, M2) → ∀ (H : Heap) (locs : List Loc), Wd g M H → sU g s H locs → ∀ ls : Array Slot, lv_has ls 11 [(0, rf g (0)), (2, .int (v)), (3, .int (w)), (4, .int (b)), (5, .int (k))] → W p l e (RM 5 128) s m av below meth c H locs 0 0 (MQ below (QU g (fun v w0 => v = .int r ∧ M2 = w0)) av s 0 0 (AU g)) (F0 m 1137 ls []) := fun M v w b k h H locs hW hS ls hl => ih0 M v w b k r M2 h C hr hlk H locs hW hS ls hl
    unfold lp_L_acts_1137 at h
    try dsimp only at h
    have hx := C.1
    have hb := C.2.1
    have hts := C.2.2.2.2.1
    refine lv_aload_n hx hb dL_acts_1137 rfl (lv_at hl 0 rfl) ?_
    refine lv_iconst (v := 5) hx hb dL_acts_1138 (by decide) ?_
    obtain ⟨r9001, Mw9002, h9003, h⟩ := bind2 h
    refine cBackC C.2.2.2.2.2.2.2.2 (runVU (As := [.int (5)]) (rest := []) C hW hS (c_X10_count l g M 5 _ _ h9003) kV_X10_count ml_L_13 (by decide) tm_BF rfl rfl rfl hl.1 rfl (Nat.le_of_ble_eq_true rfl) ⟨Nat.le_of_ble_eq_true rfl, Nat.le_of_ble_eq_true rfl⟩ ⟨Nat.zero_le _, Nat.zero_le _⟩ dL_acts_1139) hS (fun v0 w0 H locs hp hW hS hq => ?_)
    obtain ⟨rfl, rfl⟩ := hp
    refine lv_istore (lv' := [(6, .int (r9001)), (0, rf g (0)), (2, .int (v)), (3, .int (w)), (4, .int (b)), (5, .int (k))]) hx hb dL_acts_1142 hl (by decide) rfl (fun ls hl => ?_)
    refine lv_iload hx hb dL_acts_1144 (lv_at hl 0 rfl) ?_
    refine lv_if_ne (tgt := 1153) hx hb dL_acts_1146 (by decide) (fun c9004 => ?_) (fun c9004 => ?_)
    · rw [if_neg c9004] at h
      refine lv_iload_n hx hb dL_acts_1153 rfl (lv_at hl 3 rfl) ?_
      refine lv_iload hx hb dL_acts_1154 (lv_at hl 0 rfl) ?_
      obtain ⟨r9005, Mw9006, h9007, h⟩ := bind2 h
      refine cBackL C.2.2.2.2.2.2.2.2 (runSU (As := [.int (w), .int (r9001)]) (rest := []) C hW hS (c_L_low l g Mw9002 w r9001 _ _ h9007) kS_L_low ml_L_96 rfl hl.1 rfl (Nat.le_of_ble_eq_true rfl) ⟨Nat.le_of_ble_eq_true rfl, Nat.le_of_ble_eq_true rfl⟩ ⟨Nat.zero_le _, Nat.zero_le _⟩ dL_acts_1156) hS (fun v0 w0 H locs hp hW hS => ?_)
      obtain ⟨rfl, rfl⟩ := hp
      refine lv_istore (lv' := [(7, .int (r9005)), (6, .int (r9001)), (0, rf g (0)), (2, .int (v)), (3, .int (w)), (4, .int (b)), (5, .int (k))]) hx hb dL_acts_1159 hl (by decide) rfl (fun ls hl => ?_)
      refine lv_iload hx hb dL_acts_1161 (lv_at hl 1 rfl) ?_
      refine lv_if_ne (tgt := 1170) hx hb dL_acts_1163 (by decide) (fun c9008 => ?_) (fun c9008 => ?_)
      · rw [if_neg c9008] at h
        refine lv_aload_n hx hb dL_acts_1170 rfl (lv_at hl 2 rfl) ?_
        refine lv_iload hx hb dL_acts_1171 (lv_at hl 0 rfl) ?_
        refine lv_iconst (v := 3) hx hb dL_acts_1173 (by decide) ?_
        obtain ⟨r9009, Mw9010, h9011, h⟩ := bind2 h
        refine cBackC C.2.2.2.2.2.2.2.2 (runVU (As := [.int (r9005), .int (3)]) (rest := []) C hW hS (c_X10_orderOf l g Mw9006 r9005 3 _ _ h9011) kV_X10_orderOf ml_L_29 (by decide) tm_BF rfl rfl rfl hl.1 rfl (Nat.le_of_ble_eq_true rfl) ⟨Nat.le_of_ble_eq_true rfl, Nat.le_of_ble_eq_true rfl⟩ ⟨Nat.zero_le _, Nat.zero_le _⟩ dL_acts_1174) hS (fun v0 w0 H locs hp hW hS hq => ?_)
        obtain ⟨rfl, rfl⟩ := hp
        refine lv_istore (lv' := [(8, .int (r9009)), (7, .int (r9005)), (6, .int (r9001)), (0, rf g (0)), (2, .int (v)), (3, .int (w)), (4, .int (b)), (5, .int (k))]) hx hb dL_acts_1177 hl (by decide) rfl (fun ls hl => ?_)
        refine lv_aload_n hx hb dL_acts_1179 rfl (lv_at hl 3 rfl) ?_
        refine lv_bipush (v := 6) hx hb dL_acts_1180 (by decide) ?_
        obtain ⟨r9012, Mw9013, h9014, h⟩ := bind2 h
        refine cBackC C.2.2.2.2.2.2.2.2 (runVU (As := [.int (6)]) (rest := []) C hW hS (c_X10_count l g Mw9010 6 _ _ h9014) kV_X10_count ml_L_13 (by decide) tm_BF rfl rfl rfl hl.1 rfl (Nat.le_of_ble_eq_true rfl) ⟨Nat.le_of_ble_eq_true rfl, Nat.le_of_ble_eq_true rfl⟩ ⟨Nat.zero_le _, Nat.zero_le _⟩ dL_acts_1182) hS (fun v0 w0 H locs hp hW hS hq => ?_)
        obtain ⟨rfl, rfl⟩ := hp
        refine lv_istore (lv' := [(9, .int (r9012)), (8, .int (r9009)), (7, .int (r9005)), (6, .int (r9001)), (0, rf g (0)), (2, .int (v)), (3, .int (w)), (4, .int (b)), (5, .int (k))]) hx hb dL_acts_1185 hl (by decide) rfl (fun ls hl => ?_)
        refine lv_iload_n hx hb dL_acts_1187 rfl (lv_at hl 5 rfl) ?_
        refine lv_iconst (v := 2) hx hb dL_acts_1188 (by decide) ?_
        obtain ⟨r9015, Mw9016, h9017, h⟩ := bind2 h
        refine cBackL C.2.2.2.2.2.2.2.2 (runSU (As := [.int (v), .int (2)]) (rest := []) C hW hS (c_L_low l g Mw9013 v 2 _ _ h9017) kS_L_low ml_L_96 rfl hl.1 rfl (Nat.le_of_ble_eq_true rfl) ⟨Nat.le_of_ble_eq_true rfl, Nat.le_of_ble_eq_true rfl⟩ ⟨Nat.zero_le _, Nat.zero_le _⟩ dL_acts_1189) hS (fun v0 w0 H locs hp hW hS => ?_)
        obtain ⟨rfl, rfl⟩ := hp
        refine lv_if_ne (tgt := 1204) hx hb dL_acts_1192 (by decide) (fun c9018 => ?_) (fun c9018 => ?_)
        · rw [if_neg c9018] at h
          refine lv_iload hx hb dL_acts_1204 (lv_at hl 3 rfl) ?_
          refine lv_if_ne (tgt := 1213) hx hb dL_acts_1206 (by decide) (fun c9019 => ?_) (fun c9019 => ?_)
          · rw [if_neg c9019] at h
            refine lv_iload hx hb dL_acts_1213 (lv_at hl 1 rfl) ?_
            refine lv_if_le (tgt := 1223) hx hb dL_acts_1215 (by decide) (fun c9020 => ?_) (fun c9020 => ?_)
            · rw [if_pos c9020] at h
              refine lv_iload hx hb dL_acts_1223 (lv_at hl 0 rfl) ?_
              refine lv_iconst (v := 1) hx hb dL_acts_1225 (by decide) ?_
              refine lv_isub hx hb dL_acts_1226 ?_
              refine lv_istore (lv' := [(10, .int ((r9012) - (1))), (9, .int (r9012)), (8, .int (r9009)), (7, .int (r9005)), (6, .int (r9001)), (0, rf g (0)), (2, .int (v)), (3, .int (w)), (4, .int (b)), (5, .int (k))]) hx hb dL_acts_1227 hl (by decide) rfl (fun ls hl => ?_)
              refine lv_iload hx hb dL_acts_1229 (lv_at hl 0 rfl) ?_
              refine lv_iload hx hb dL_acts_1231 (lv_at hl 4 rfl) ?_
              refine lv_if_ne (tgt := 1240) hx hb dL_acts_1233 (by decide) (fun c9021 => ?_) (fun c9021 => ?_)
              · rw [if_neg c9021] at h
                refine lv_iload hx hb dL_acts_1240 (lv_at hl 2 rfl) ?_
                refine lv_if_le (tgt := 1250) hx hb dL_acts_1242 (by decide) (fun c9022 => ?_) (fun c9022 => ?_)
                · rw [if_pos c9022] at h
                  refine lv_iload hx hb dL_acts_1250 (lv_at hl 1 rfl) ?_
                  refine lv_iconst (v := 1) hx hb dL_acts_1252 (by decide) ?_
                  refine lv_isub hx hb dL_acts_1253 ?_
                  refine lv_icmp_ne (tgt := 1283) hx hb dL_acts_1254 (by decide) (fun c9023 => ?_) (fun c9023 => ?_)
                  · rw [if_neg c9023] at h
                    refine lv_iconst (v := 0) hx hb dL_acts_1283 (by decide) ?_
                    cases h
                  · rw [if_pos c9023] at h
                    refine lv_aload_n hx hb dL_acts_1257 rfl (lv_at hl 5 rfl) ?_
                    refine lv_iconst (v := 4) hx hb dL_acts_1258 (by decide) ?_
                    refine lv_iload_n hx hb dL_acts_1259 rfl (lv_at hl 6 rfl) ?_
                    refine lv_iconst (v := 3) hx hb dL_acts_1260 (by decide) ?_
                    obtain ⟨r9024, Mw9025, h9026, h⟩ := bind2 h
                    refine cBackL C.2.2.2.2.2.2.2.2 (runSU (As := [.int (v), .int (3)]) (rest := [.int (4), rf g (0)]) C hW hS (c_L_low l g Mw9016 v 3 _ _ h9026) kS_L_low ml_L_96 rfl hl.1 rfl (Nat.le_of_ble_eq_true rfl) ⟨Nat.le_of_ble_eq_true rfl, Nat.le_of_ble_eq_true rfl⟩ ⟨Nat.zero_le _, Nat.zero_le _⟩ dL_acts_1261) hS (fun v0 w0 H locs hp hW hS => ?_)
                    obtain ⟨rfl, rfl⟩ := hp
                    refine lv_iadd hx hb dL_acts_1264 ?_
                    refine lv_iconst (v := 1) hx hb dL_acts_1265 (by decide) ?_
                    refine lv_iload_n hx hb dL_acts_1266 rfl (lv_at hl 7 rfl) ?_
                    refine lv_bipush (v := 50) hx hb dL_acts_1267 (by decide) ?_
                    obtain ⟨r9027, Mw9028, h9029, h⟩ := bind2 h
                    refine cBackL C.2.2.2.2.2.2.2.2 (runSU (As := [.int (w), .int (50)]) (rest := [.int (1), .int ((4) + (r9024)), rf g (0)]) C hW hS (c_L_low l g Mw9025 w 50 _ _ h9029) kS_L_low ml_L_96 rfl hl.1 rfl (Nat.le_of_ble_eq_true rfl) ⟨Nat.le_of_ble_eq_true rfl, Nat.le_of_ble_eq_true rfl⟩ ⟨Nat.zero_le _, Nat.zero_le _⟩ dL_acts_1269) hS (fun v0 w0 H locs hp hW hS => ?_)
                    obtain ⟨rfl, rfl⟩ := hp
                    refine lv_iadd hx hb dL_acts_1272 ?_
                    obtain ⟨r9030, Mw9031, h9032, h⟩ := bind2 h
                    refine cBackC C.2.2.2.2.2.2.2.2 (runVU (As := [.int ((4) + (r9024)), .int ((1) + (r9027))]) (rest := []) C hW hS (c_X10_set l g Mw9028 ((4) + (r9024)) ((1) + (r9027)) _ _ h9032) kV_X10_set ml_L_50 (by decide) tm_BF rfl rfl rfl hl.1 rfl (Nat.le_of_ble_eq_true rfl) ⟨Nat.le_of_ble_eq_true rfl, Nat.le_of_ble_eq_true rfl⟩ ⟨Nat.zero_le _, Nat.zero_le _⟩ dL_acts_1273) hS (fun v0 w0 H locs hp hW hS hq => ?_)
                    obtain ⟨rfl, rfl⟩ := hp
                    refine lv_if_lt (tgt := 1283) hx hb dL_acts_1276 (by decide) (fun c9033 => ?_) (fun c9033 => ?_)
                    · rw [if_pos c9033] at h
                      refine lv_iconst (v := 0) hx hb dL_acts_1283 (by decide) ?_
                      cases h
                    · rw [if_neg c9033] at h
                      refine lv_iconst (v := 1) hx hb dL_acts_1279 (by decide) ?_
                      refine lv_goto (tgt := 1284) hx hb dL_acts_1280 (by decide) ?_
                      cases h
                      exact rZU C hr hlk dL_acts_1284 hW hS rfl ⟨rfl, rfl⟩
                · rw [if_neg c9022] at h
                  cases h
              · rw [if_pos c9021] at h
                cases h
            · rw [if_neg c9020] at h
              refine lv_bipush (v := -2) hx hb dL_acts_1218 (by decide) ?_
              refine lv_goto (tgt := 1227) hx hb dL_acts_1220 (by decide) ?_
              refine lv_istore (lv' := [(10, .int (-2)), (9, .int (r9012)), (8, .int (r9009)), (7, .int (r9005)), (6, .int (r9001)), (0, rf g (0)), (2, .int (v)), (3, .int (w)), (4, .int (b)), (5, .int (k))]) hx hb dL_acts_1227 hl (by decide) rfl (fun ls hl => ?_)
              refine lv_iload hx hb dL_acts_1229 (lv_at hl 0 rfl) ?_
              refine lv_iload hx hb dL_acts_1231 (lv_at hl 4 rfl) ?_
              refine lv_if_ne (tgt := 1240) hx hb dL_acts_1233 (by decide) (fun c9034 => ?_) (fun c9034 => ?_)
              · rw [if_neg c9034] at h
                refine lv_iload hx hb dL_acts_1240 (lv_at hl 2 rfl) ?_
                refine lv_if_le (tgt := 1250) hx hb dL_acts_1242 (by decide) (fun c9035 => ?_) (fun c9035 => ?_)
                · rw [if_pos c9035] at h
                  cases h
                · rw [if_neg c9035] at h
                  refine lv_bipush (v := -2) hx hb dL_acts_1245 (by decide) ?_
                  refine lv_goto (tgt := 1254) hx hb dL_acts_1247 (by decide) ?_
                  refine lv_icmp_ne (tgt := 1283) hx hb dL_acts_1254 (by decide) (fun c9036 => ?_) (fun c9036 => ?_)
                  · rw [if_neg c9036] at h
                    cases h
                  · rw [if_pos c9036] at h
                    refine lv_aload_n hx hb dL_acts_1257 rfl (lv_at hl 5 rfl) ?_
                    refine lv_iconst (v := 4) hx hb dL_acts_1258 (by decide) ?_
                    refine lv_iload_n hx hb dL_acts_1259 rfl (lv_at hl 6 rfl) ?_
                    refine lv_iconst (v := 3) hx hb dL_acts_1260 (by decide) ?_
                    obtain ⟨r9037, Mw9038, h9039, h⟩ := bind2 h
                    refine cBackL C.2.2.2.2.2.2.2.2 (runSU (As := [.int (v), .int (3)]) (rest := [.int (4), rf g (0)]) C hW hS (c_L_low l g Mw9016 v 3 _ _ h9039) kS_L_low ml_L_96 rfl hl.1 rfl (Nat.le_of_ble_eq_true rfl) ⟨Nat.le_of_ble_eq_true rfl, Nat.le_of_ble_eq_true rfl⟩ ⟨Nat.zero_le _, Nat.zero_le _⟩ dL_acts_1261) hS (fun v0 w0 H locs hp hW hS => ?_)
                    obtain ⟨rfl, rfl⟩ := hp
                    refine lv_iadd hx hb dL_acts_1264 ?_
                    refine lv_iconst (v := 1) hx hb dL_acts_1265 (by decide) ?_
                    refine lv_iload_n hx hb dL_acts_1266 rfl (lv_at hl 7 rfl) ?_
                    refine lv_bipush (v := 50) hx hb dL_acts_1267 (by decide) ?_
                    obtain ⟨r9040, Mw9041, h9042, h⟩ := bind2 h
                    refine cBackL C.2.2.2.2.2.2.2.2 (runSU (As := [.int (w), .int (50)]) (rest := [.int (1), .int ((4) + (r9037)), rf g (0)]) C hW hS (c_L_low l g Mw9038 w 50 _ _ h9042) kS_L_low ml_L_96 rfl hl.1 rfl (Nat.le_of_ble_eq_true rfl) ⟨Nat.le_of_ble_eq_true rfl, Nat.le_of_ble_eq_true rfl⟩ ⟨Nat.zero_le _, Nat.zero_le _⟩ dL_acts_1269) hS (fun v0 w0 H locs hp hW hS => ?_)
                    obtain ⟨rfl, rfl⟩ := hp
                    refine lv_iadd hx hb dL_acts_1272 ?_
                    obtain ⟨r9043, Mw9044, h9045, h⟩ := bind2 h
                    refine cBackC C.2.2.2.2.2.2.2.2 (runVU (As := [.int ((4) + (r9037)), .int ((1) + (r9040))]) (rest := []) C hW hS (c_X10_set l g Mw9041 ((4) + (r9037)) ((1) + (r9040)) _ _ h9045) kV_X10_set ml_L_50 (by decide) tm_BF rfl rfl rfl hl.1 rfl (Nat.le_of_ble_eq_true rfl) ⟨Nat.le_of_ble_eq_true rfl, Nat.le_of_ble_eq_true rfl⟩ ⟨Nat.zero_le _, Nat.zero_le _⟩ dL_acts_1273) hS (fun v0 w0 H locs hp hW hS hq => ?_)
                    obtain ⟨rfl, rfl⟩ := hp
                    refine lv_if_lt (tgt := 1283) hx hb dL_acts_1276 (by decide) (fun c9046 => ?_) (fun c9046 => ?_)
                    · rw [if_pos c9046] at h
                      refine lv_iconst (v := 0) hx hb dL_acts_1283 (by decide) ?_
                      cases h
                    · rw [if_neg c9046] at h
                      refine lv_iconst (v := 1) hx hb dL_acts_1279 (by decide) ?_
                      refine lv_goto (tgt := 1284) hx hb dL_acts_1280 (by decide) ?_
                      cases h
                      exact rZU C hr hlk dL_acts_1284 hW hS rfl ⟨rfl, rfl⟩
              · rw [if_pos c9034] at h
                cases h
          · rw [if_pos c9019] at h
            cases h
        · rw [if_pos c9018] at h
          refine lv_aload_n hx hb dL_acts_1195 rfl (lv_at hl 4 rfl) ?_
          refine lv_iload hx hb dL_acts_1196 (lv_at hl 2 rfl) ?_
          obtain ⟨r9047, Mw9048, h9049, h⟩ := bind2 h
          refine cBackC C.2.2.2.2.2.2.2.2 (runVU (As := [.int (r9005)]) (rest := []) C hW hS (c_X10_cancel l g Mw9016 r9005 _ _ h9049) kV_X10_cancel ml_L_66 (by decide) tm_BF rfl rfl rfl hl.1 rfl (Nat.le_of_ble_eq_true rfl) ⟨Nat.le_of_ble_eq_true rfl, Nat.le_of_ble_eq_true rfl⟩ ⟨Nat.zero_le _, Nat.zero_le _⟩ dL_acts_1198) hS (fun v0 w0 H locs hp hW hS hq => ?_)
          obtain ⟨rfl, rfl⟩ := hp
          refine lv_goto (tgt := 1227) hx hb dL_acts_1201 (by decide) ?_
          refine lv_istore (lv' := [(10, .int (r9047)), (9, .int (r9012)), (8, .int (r9009)), (7, .int (r9005)), (6, .int (r9001)), (0, rf g (0)), (2, .int (v)), (3, .int (w)), (4, .int (b)), (5, .int (k))]) hx hb dL_acts_1227 hl (by decide) rfl (fun ls hl => ?_)
          refine lv_iload hx hb dL_acts_1229 (lv_at hl 0 rfl) ?_
          refine lv_iload hx hb dL_acts_1231 (lv_at hl 4 rfl) ?_
          refine lv_if_ne (tgt := 1240) hx hb dL_acts_1233 (by decide) (fun c9050 => ?_) (fun c9050 => ?_)
          · rw [if_neg c9050] at h
            refine lv_iload hx hb dL_acts_1240 (lv_at hl 2 rfl) ?_
            refine lv_if_le (tgt := 1250) hx hb dL_acts_1242 (by decide) (fun c9051 => ?_) (fun c9051 => ?_)
            · rw [if_pos c9051] at h
              refine lv_iload hx hb dL_acts_1250 (lv_at hl 1 rfl) ?_
              refine lv_iconst (v := 1) hx hb dL_acts_1252 (by decide) ?_
              refine lv_isub hx hb dL_acts_1253 ?_
              refine lv_icmp_ne (tgt := 1283) hx hb dL_acts_1254 (by decide) (fun c9052 => ?_) (fun c9052 => ?_)
              · rw [if_neg c9052] at h
                refine lv_iconst (v := 0) hx hb dL_acts_1283 (by decide) ?_
                cases h
              · rw [if_pos c9052] at h
                refine lv_aload_n hx hb dL_acts_1257 rfl (lv_at hl 5 rfl) ?_
                refine lv_iconst (v := 4) hx hb dL_acts_1258 (by decide) ?_
                refine lv_iload_n hx hb dL_acts_1259 rfl (lv_at hl 6 rfl) ?_
                refine lv_iconst (v := 3) hx hb dL_acts_1260 (by decide) ?_
                obtain ⟨r9053, Mw9054, h9055, h⟩ := bind2 h
                refine cBackL C.2.2.2.2.2.2.2.2 (runSU (As := [.int (v), .int (3)]) (rest := [.int (4), rf g (0)]) C hW hS (c_L_low l g Mw9048 v 3 _ _ h9055) kS_L_low ml_L_96 rfl hl.1 rfl (Nat.le_of_ble_eq_true rfl) ⟨Nat.le_of_ble_eq_true rfl, Nat.le_of_ble_eq_true rfl⟩ ⟨Nat.zero_le _, Nat.zero_le _⟩ dL_acts_1261) hS (fun v0 w0 H locs hp hW hS => ?_)
                obtain ⟨rfl, rfl⟩ := hp
                refine lv_iadd hx hb dL_acts_1264 ?_
                refine lv_iconst (v := 1) hx hb dL_acts_1265 (by decide) ?_
                refine lv_iload_n hx hb dL_acts_1266 rfl (lv_at hl 7 rfl) ?_
                refine lv_bipush (v := 50) hx hb dL_acts_1267 (by decide) ?_
                obtain ⟨r9056, Mw9057, h9058, h⟩ := bind2 h
                refine cBackL C.2.2.2.2.2.2.2.2 (runSU (As := [.int (w), .int (50)]) (rest := [.int (1), .int ((4) + (r9053)), rf g (0)]) C hW hS (c_L_low l g Mw9054 w 50 _ _ h9058) kS_L_low ml_L_96 rfl hl.1 rfl (Nat.le_of_ble_eq_true rfl) ⟨Nat.le_of_ble_eq_true rfl, Nat.le_of_ble_eq_true rfl⟩ ⟨Nat.zero_le _, Nat.zero_le _⟩ dL_acts_1269) hS (fun v0 w0 H locs hp hW hS => ?_)
                obtain ⟨rfl, rfl⟩ := hp
                refine lv_iadd hx hb dL_acts_1272 ?_
                obtain ⟨r9059, Mw9060, h9061, h⟩ := bind2 h
                refine cBackC C.2.2.2.2.2.2.2.2 (runVU (As := [.int ((4) + (r9053)), .int ((1) + (r9056))]) (rest := []) C hW hS (c_X10_set l g Mw9057 ((4) + (r9053)) ((1) + (r9056)) _ _ h9061) kV_X10_set ml_L_50 (by decide) tm_BF rfl rfl rfl hl.1 rfl (Nat.le_of_ble_eq_true rfl) ⟨Nat.le_of_ble_eq_true rfl, Nat.le_of_ble_eq_true rfl⟩ ⟨Nat.zero_le _, Nat.zero_le _⟩ dL_acts_1273) hS (fun v0 w0 H locs hp hW hS hq => ?_)
                obtain ⟨rfl, rfl⟩ := hp
                refine lv_if_lt (tgt := 1283) hx hb dL_acts_1276 (by decide) (fun c9062 => ?_) (fun c9062 => ?_)
                · rw [if_pos c9062] at h
                  refine lv_iconst (v := 0) hx hb dL_acts_1283 (by decide) ?_
                  cases h
                · rw [if_neg c9062] at h
                  refine lv_iconst (v := 1) hx hb dL_acts_1279 (by decide) ?_
                  refine lv_goto (tgt := 1284) hx hb dL_acts_1280 (by decide) ?_
                  cases h
                  exact rZU C hr hlk dL_acts_1284 hW hS rfl ⟨rfl, rfl⟩
            · rw [if_neg c9051] at h
              refine lv_bipush (v := -2) hx hb dL_acts_1245 (by decide) ?_
              refine lv_goto (tgt := 1254) hx hb dL_acts_1247 (by decide) ?_
              refine lv_icmp_ne (tgt := 1283) hx hb dL_acts_1254 (by decide) (fun c9063 => ?_) (fun c9063 => ?_)
              · rw [if_neg c9063] at h
                refine lv_iconst (v := 0) hx hb dL_acts_1283 (by decide) ?_
                cases h
              · rw [if_pos c9063] at h
                refine lv_aload_n hx hb dL_acts_1257 rfl (lv_at hl 5 rfl) ?_
                refine lv_iconst (v := 4) hx hb dL_acts_1258 (by decide) ?_
                refine lv_iload_n hx hb dL_acts_1259 rfl (lv_at hl 6 rfl) ?_
                refine lv_iconst (v := 3) hx hb dL_acts_1260 (by decide) ?_
                obtain ⟨r9064, Mw9065, h9066, h⟩ := bind2 h
                refine cBackL C.2.2.2.2.2.2.2.2 (runSU (As := [.int (v), .int (3)]) (rest := [.int (4), rf g (0)]) C hW hS (c_L_low l g Mw9048 v 3 _ _ h9066) kS_L_low ml_L_96 rfl hl.1 rfl (Nat.le_of_ble_eq_true rfl) ⟨Nat.le_of_ble_eq_true rfl, Nat.le_of_ble_eq_true rfl⟩ ⟨Nat.zero_le _, Nat.zero_le _⟩ dL_acts_1261) hS (fun v0 w0 H locs hp hW hS => ?_)
                obtain ⟨rfl, rfl⟩ := hp
                refine lv_iadd hx hb dL_acts_1264 ?_
                refine lv_iconst (v := 1) hx hb dL_acts_1265 (by decide) ?_
                refine lv_iload_n hx hb dL_acts_1266 rfl (lv_at hl 7 rfl) ?_
                refine lv_bipush (v := 50) hx hb dL_acts_1267 (by decide) ?_
                obtain ⟨r9067, Mw9068, h9069, h⟩ := bind2 h
                refine cBackL C.2.2.2.2.2.2.2.2 (runSU (As := [.int (w), .int (50)]) (rest := [.int (1), .int ((4) + (r9064)), rf g (0)]) C hW hS (c_L_low l g Mw9065 w 50 _ _ h9069) kS_L_low ml_L_96 rfl hl.1 rfl (Nat.le_of_ble_eq_true rfl) ⟨Nat.le_of_ble_eq_true rfl, Nat.le_of_ble_eq_true rfl⟩ ⟨Nat.zero_le _, Nat.zero_le _⟩ dL_acts_1269) hS (fun v0 w0 H locs hp hW hS => ?_)
                obtain ⟨rfl, rfl⟩ := hp
                refine lv_iadd hx hb dL_acts_1272 ?_
                obtain ⟨r9070, Mw9071, h9072, h⟩ := bind2 h
                refine cBackC C.2.2.2.2.2.2.2.2 (runVU (As := [.int ((4) + (r9064)), .int ((1) + (r9067))]) (rest := []) C hW hS (c_X10_set l g Mw9068 ((4) + (r9064)) ((1) + (r9067)) _ _ h9072) kV_X10_set ml_L_50 (by decide) tm_BF rfl rfl rfl hl.1 rfl (Nat.le_of_ble_eq_true rfl) ⟨Nat.le_of_ble_eq_true rfl, Nat.le_of_ble_eq_true rfl⟩ ⟨Nat.zero_le _, Nat.zero_le _⟩ dL_acts_1273) hS (fun v0 w0 H locs hp hW hS hq => ?_)
                obtain ⟨rfl, rfl⟩ := hp
                refine lv_if_lt (tgt := 1283) hx hb dL_acts_1276 (by decide) (fun c9073 => ?_) (fun c9073 => ?_)
                · rw [if_pos c9073] at h
                  refine lv_iconst (v := 0) hx hb dL_acts_1283 (by decide) ?_
                  cases h
                · rw [if_neg c9073] at h
                  refine lv_iconst (v := 1) hx hb dL_acts_1279 (by decide) ?_
                  refine lv_goto (tgt := 1284) hx hb dL_acts_1280 (by decide) ?_
                  cases h
                  exact rZU C hr hlk dL_acts_1284 hW hS rfl ⟨rfl, rfl⟩
          · rw [if_pos c9050] at h
            cases h
      · rw [if_pos c9008] at h
        cases h
    · rw [if_pos c9004] at h
      refine lv_iconst (v := 0) hx hb dL_acts_1149 (by decide) ?_
      refine lv_goto (tgt := 1159) hx hb dL_acts_1150 (by decide) ?_
      refine lv_istore (lv' := [(7, .int (0)), (6, .int (r9001)), (0, rf g (0)), (2, .int (v)), (3, .int (w)), (4, .int (b)), (5, .int (k))]) hx hb dL_acts_1159 hl (by decide) rfl (fun ls hl => ?_)
      refine lv_iload hx hb dL_acts_1161 (lv_at hl 1 rfl) ?_
      refine lv_if_ne (tgt := 1170) hx hb dL_acts_1163 (by decide) (fun c9074 => ?_) (fun c9074 => ?_)
      · rw [if_neg c9074] at h
        cases h
      · rw [if_pos c9074] at h
        refine lv_iconst (v := 0) hx hb dL_acts_1166 (by decide) ?_
        refine lv_goto (tgt := 1177) hx hb dL_acts_1167 (by decide) ?_
        refine lv_istore (lv' := [(8, .int (0)), (7, .int (0)), (6, .int (r9001)), (0, rf g (0)), (2, .int (v)), (3, .int (w)), (4, .int (b)), (5, .int (k))]) hx hb dL_acts_1177 hl (by decide) rfl (fun ls hl => ?_)
        refine lv_aload_n hx hb dL_acts_1179 rfl (lv_at hl 3 rfl) ?_
        refine lv_bipush (v := 6) hx hb dL_acts_1180 (by decide) ?_
        obtain ⟨r9075, Mw9076, h9077, h⟩ := bind2 h
        refine cBackC C.2.2.2.2.2.2.2.2 (runVU (As := [.int (6)]) (rest := []) C hW hS (c_X10_count l g Mw9002 6 _ _ h9077) kV_X10_count ml_L_13 (by decide) tm_BF rfl rfl rfl hl.1 rfl (Nat.le_of_ble_eq_true rfl) ⟨Nat.le_of_ble_eq_true rfl, Nat.le_of_ble_eq_true rfl⟩ ⟨Nat.zero_le _, Nat.zero_le _⟩ dL_acts_1182) hS (fun v0 w0 H locs hp hW hS hq => ?_)
        obtain ⟨rfl, rfl⟩ := hp
        refine lv_istore (lv' := [(9, .int (r9075)), (8, .int (0)), (7, .int (0)), (6, .int (r9001)), (0, rf g (0)), (2, .int (v)), (3, .int (w)), (4, .int (b)), (5, .int (k))]) hx hb dL_acts_1185 hl (by decide) rfl (fun ls hl => ?_)
        refine lv_iload_n hx hb dL_acts_1187 rfl (lv_at hl 5 rfl) ?_
        refine lv_iconst (v := 2) hx hb dL_acts_1188 (by decide) ?_
        obtain ⟨r9078, Mw9079, h9080, h⟩ := bind2 h
        refine cBackL C.2.2.2.2.2.2.2.2 (runSU (As := [.int (v), .int (2)]) (rest := []) C hW hS (c_L_low l g Mw9076 v 2 _ _ h9080) kS_L_low ml_L_96 rfl hl.1 rfl (Nat.le_of_ble_eq_true rfl) ⟨Nat.le_of_ble_eq_true rfl, Nat.le_of_ble_eq_true rfl⟩ ⟨Nat.zero_le _, Nat.zero_le _⟩ dL_acts_1189) hS (fun v0 w0 H locs hp hW hS => ?_)
        obtain ⟨rfl, rfl⟩ := hp
        refine lv_if_ne (tgt := 1204) hx hb dL_acts_1192 (by decide) (fun c9081 => ?_) (fun c9081 => ?_)
        · rw [if_neg c9081] at h
          refine lv_iload hx hb dL_acts_1204 (lv_at hl 3 rfl) ?_
          refine lv_if_ne (tgt := 1213) hx hb dL_acts_1206 (by decide) (fun c9082 => ?_) (fun c9082 => ?_)
          · rw [if_neg c9082] at h
            cases h
          · rw [if_pos c9082] at h
            refine lv_iconst (v := -1) hx hb dL_acts_1209 (by decide) ?_
            refine lv_goto (tgt := 1227) hx hb dL_acts_1210 (by decide) ?_
            refine lv_istore (lv' := [(10, .int (-1)), (9, .int (r9075)), (8, .int (0)), (7, .int (0)), (6, .int (r9001)), (0, rf g (0)), (2, .int (v)), (3, .int (w)), (4, .int (b)), (5, .int (k))]) hx hb dL_acts_1227 hl (by decide) rfl (fun ls hl => ?_)
            refine lv_iload hx hb dL_acts_1229 (lv_at hl 0 rfl) ?_
            refine lv_iload hx hb dL_acts_1231 (lv_at hl 4 rfl) ?_
            refine lv_if_ne (tgt := 1240) hx hb dL_acts_1233 (by decide) (fun c9083 => ?_) (fun c9083 => ?_)
            · rw [if_neg c9083] at h
              cases h
            · rw [if_pos c9083] at h
              refine lv_iconst (v := -1) hx hb dL_acts_1236 (by decide) ?_
              refine lv_goto (tgt := 1254) hx hb dL_acts_1237 (by decide) ?_
              refine lv_icmp_ne (tgt := 1283) hx hb dL_acts_1254 (by decide) (fun c9084 => ?_) (fun c9084 => ?_)
              · rw [if_neg c9084] at h
                cases h
              · rw [if_pos c9084] at h
                refine lv_aload_n hx hb dL_acts_1257 rfl (lv_at hl 5 rfl) ?_
                refine lv_iconst (v := 4) hx hb dL_acts_1258 (by decide) ?_
                refine lv_iload_n hx hb dL_acts_1259 rfl (lv_at hl 6 rfl) ?_
                refine lv_iconst (v := 3) hx hb dL_acts_1260 (by decide) ?_
                obtain ⟨r9085, Mw9086, h9087, h⟩ := bind2 h
                refine cBackL C.2.2.2.2.2.2.2.2 (runSU (As := [.int (v), .int (3)]) (rest := [.int (4), rf g (0)]) C hW hS (c_L_low l g Mw9079 v 3 _ _ h9087) kS_L_low ml_L_96 rfl hl.1 rfl (Nat.le_of_ble_eq_true rfl) ⟨Nat.le_of_ble_eq_true rfl, Nat.le_of_ble_eq_true rfl⟩ ⟨Nat.zero_le _, Nat.zero_le _⟩ dL_acts_1261) hS (fun v0 w0 H locs hp hW hS => ?_)
                obtain ⟨rfl, rfl⟩ := hp
                refine lv_iadd hx hb dL_acts_1264 ?_
                refine lv_iconst (v := 1) hx hb dL_acts_1265 (by decide) ?_
                refine lv_iload_n hx hb dL_acts_1266 rfl (lv_at hl 7 rfl) ?_
                refine lv_bipush (v := 50) hx hb dL_acts_1267 (by decide) ?_
                obtain ⟨r9088, Mw9089, h9090, h⟩ := bind2 h
                refine cBackL C.2.2.2.2.2.2.2.2 (runSU (As := [.int (w), .int (50)]) (rest := [.int (1), .int ((4) + (r9085)), rf g (0)]) C hW hS (c_L_low l g Mw9086 w 50 _ _ h9090) kS_L_low ml_L_96 rfl hl.1 rfl (Nat.le_of_ble_eq_true rfl) ⟨Nat.le_of_ble_eq_true rfl, Nat.le_of_ble_eq_true rfl⟩ ⟨Nat.zero_le _, Nat.zero_le _⟩ dL_acts_1269) hS (fun v0 w0 H locs hp hW hS => ?_)
                obtain ⟨rfl, rfl⟩ := hp
                refine lv_iadd hx hb dL_acts_1272 ?_
                obtain ⟨r9091, Mw9092, h9093, h⟩ := bind2 h
                refine cBackC C.2.2.2.2.2.2.2.2 (runVU (As := [.int ((4) + (r9085)), .int ((1) + (r9088))]) (rest := []) C hW hS (c_X10_set l g Mw9089 ((4) + (r9085)) ((1) + (r9088)) _ _ h9093) kV_X10_set ml_L_50 (by decide) tm_BF rfl rfl rfl hl.1 rfl (Nat.le_of_ble_eq_true rfl) ⟨Nat.le_of_ble_eq_true rfl, Nat.le_of_ble_eq_true rfl⟩ ⟨Nat.zero_le _, Nat.zero_le _⟩ dL_acts_1273) hS (fun v0 w0 H locs hp hW hS hq => ?_)
                obtain ⟨rfl, rfl⟩ := hp
                refine lv_if_lt (tgt := 1283) hx hb dL_acts_1276 (by decide) (fun c9094 => ?_) (fun c9094 => ?_)
                · rw [if_pos c9094] at h
                  refine lv_iconst (v := 0) hx hb dL_acts_1283 (by decide) ?_
                  cases h
                · rw [if_neg c9094] at h
                  refine lv_iconst (v := 1) hx hb dL_acts_1279 (by decide) ?_
                  refine lv_goto (tgt := 1284) hx hb dL_acts_1280 (by decide) ?_
                  cases h
                  exact rZU C hr hlk dL_acts_1284 hW hS rfl ⟨rfl, rfl⟩
        · rw [if_pos c9081] at h
          refine lv_aload_n hx hb dL_acts_1195 rfl (lv_at hl 4 rfl) ?_
          refine lv_iload hx hb dL_acts_1196 (lv_at hl 2 rfl) ?_
          obtain ⟨r9095, Mw9096, h9097, h⟩ := bind2 h
          refine cBackC C.2.2.2.2.2.2.2.2 (runVU (As := [.int (0)]) (rest := []) C hW hS (c_X10_cancel l g Mw9079 0 _ _ h9097) kV_X10_cancel ml_L_66 (by decide) tm_BF rfl rfl rfl hl.1 rfl (Nat.le_of_ble_eq_true rfl) ⟨Nat.le_of_ble_eq_true rfl, Nat.le_of_ble_eq_true rfl⟩ ⟨Nat.zero_le _, Nat.zero_le _⟩ dL_acts_1198) hS (fun v0 w0 H locs hp hW hS hq => ?_)
          obtain ⟨rfl, rfl⟩ := hp
          refine lv_goto (tgt := 1227) hx hb dL_acts_1201 (by decide) ?_
          refine lv_istore (lv' := [(10, .int (r9095)), (9, .int (r9075)), (8, .int (0)), (7, .int (0)), (6, .int (r9001)), (0, rf g (0)), (2, .int (v)), (3, .int (w)), (4, .int (b)), (5, .int (k))]) hx hb dL_acts_1227 hl (by decide) rfl (fun ls hl => ?_)
          refine lv_iload hx hb dL_acts_1229 (lv_at hl 0 rfl) ?_
          refine lv_iload hx hb dL_acts_1231 (lv_at hl 4 rfl) ?_
          refine lv_if_ne (tgt := 1240) hx hb dL_acts_1233 (by decide) (fun c9098 => ?_) (fun c9098 => ?_)
          · rw [if_neg c9098] at h
            cases h
          · rw [if_pos c9098] at h
            refine lv_iconst (v := -1) hx hb dL_acts_1236 (by decide) ?_
            refine lv_goto (tgt := 1254) hx hb dL_acts_1237 (by decide) ?_
            refine lv_icmp_ne (tgt := 1283) hx hb dL_acts_1254 (by decide) (fun c9099 => ?_) (fun c9099 => ?_)
            · rw [if_neg c9099] at h
              refine lv_iconst (v := 0) hx hb dL_acts_1283 (by decide) ?_
              cases h
            · rw [if_pos c9099] at h
              refine lv_aload_n hx hb dL_acts_1257 rfl (lv_at hl 5 rfl) ?_
              refine lv_iconst (v := 4) hx hb dL_acts_1258 (by decide) ?_
              refine lv_iload_n hx hb dL_acts_1259 rfl (lv_at hl 6 rfl) ?_
              refine lv_iconst (v := 3) hx hb dL_acts_1260 (by decide) ?_
              obtain ⟨r9100, Mw9101, h9102, h⟩ := bind2 h
              refine cBackL C.2.2.2.2.2.2.2.2 (runSU (As := [.int (v), .int (3)]) (rest := [.int (4), rf g (0)]) C hW hS (c_L_low l g Mw9096 v 3 _ _ h9102) kS_L_low ml_L_96 rfl hl.1 rfl (Nat.le_of_ble_eq_true rfl) ⟨Nat.le_of_ble_eq_true rfl, Nat.le_of_ble_eq_true rfl⟩ ⟨Nat.zero_le _, Nat.zero_le _⟩ dL_acts_1261) hS (fun v0 w0 H locs hp hW hS => ?_)
              obtain ⟨rfl, rfl⟩ := hp
              refine lv_iadd hx hb dL_acts_1264 ?_
              refine lv_iconst (v := 1) hx hb dL_acts_1265 (by decide) ?_
              refine lv_iload_n hx hb dL_acts_1266 rfl (lv_at hl 7 rfl) ?_
              refine lv_bipush (v := 50) hx hb dL_acts_1267 (by decide) ?_
              obtain ⟨r9103, Mw9104, h9105, h⟩ := bind2 h
              refine cBackL C.2.2.2.2.2.2.2.2 (runSU (As := [.int (w), .int (50)]) (rest := [.int (1), .int ((4) + (r9100)), rf g (0)]) C hW hS (c_L_low l g Mw9101 w 50 _ _ h9105) kS_L_low ml_L_96 rfl hl.1 rfl (Nat.le_of_ble_eq_true rfl) ⟨Nat.le_of_ble_eq_true rfl, Nat.le_of_ble_eq_true rfl⟩ ⟨Nat.zero_le _, Nat.zero_le _⟩ dL_acts_1269) hS (fun v0 w0 H locs hp hW hS => ?_)
              obtain ⟨rfl, rfl⟩ := hp
              refine lv_iadd hx hb dL_acts_1272 ?_
              obtain ⟨r9106, Mw9107, h9108, h⟩ := bind2 h
              refine cBackC C.2.2.2.2.2.2.2.2 (runVU (As := [.int ((4) + (r9100)), .int ((1) + (r9103))]) (rest := []) C hW hS (c_X10_set l g Mw9104 ((4) + (r9100)) ((1) + (r9103)) _ _ h9108) kV_X10_set ml_L_50 (by decide) tm_BF rfl rfl rfl hl.1 rfl (Nat.le_of_ble_eq_true rfl) ⟨Nat.le_of_ble_eq_true rfl, Nat.le_of_ble_eq_true rfl⟩ ⟨Nat.zero_le _, Nat.zero_le _⟩ dL_acts_1273) hS (fun v0 w0 H locs hp hW hS hq => ?_)
              obtain ⟨rfl, rfl⟩ := hp
              refine lv_if_lt (tgt := 1283) hx hb dL_acts_1276 (by decide) (fun c9109 => ?_) (fun c9109 => ?_)
              · rw [if_pos c9109] at h
                refine lv_iconst (v := 0) hx hb dL_acts_1283 (by decide) ?_
                cases h
              · rw [if_neg c9109] at h
                refine lv_iconst (v := 1) hx hb dL_acts_1279 (by decide) ?_
                refine lv_goto (tgt := 1284) hx hb dL_acts_1280 (by decide) ?_
                cases h
                exact rZU C hr hlk dL_acts_1284 hW hS rfl ⟨rfl, rfl⟩
set_option maxHeartbeats 4000000 in
set_option maxRecDepth 100000 in
theorem t_L_acts_966 (l : Launch) (g : GD)  {p : Program} {e : Env} {s : State} {m : MethodId} {av : Array Value} {below : List Frame} {meth : Method} {c : Code} (n : Nat) : ∀ (M : MM) (v : Int32) (w : Int32) (b : Int32) (k : Int32) (r : Int32) (M2 : MM), lp_L_acts_966 n M v w b k = some (r, M2) → CX p s m av c cL_acts 11 RL g → meth.sig.returnType = (some .boolean) → meth.locks = false → ∀ (H : Heap) (locs : List Loc), Wd g M H → sU g s H locs → ∀ ls : Array Slot, lv_has ls 11 [(0, rf g (0)), (2, .int (v)), (3, .int (w)), (4, .int (b)), (5, .int (k))] → W p l e (RM 5 128) s m av below meth c H locs 0 0 (MQ below (QU g (fun v w0 => v = .int r ∧ M2 = w0)) av s 0 0 (AU g)) (F0 m 966 ls []) := by
  induction n with
  | zero => intro M v w b k r M2 h; cases h
  | succ n ih0 =>
    intro M v w b k r M2 h C hr hlk H locs hW hS ls hl
    have ih : ∀ (M : MM) (v : Int32) (w : Int32) (b : Int32) (k : Int32), lp_L_acts_966 n M v w b k = some (r, M2) → ∀ (H : Heap) (locs : List Loc), Wd g M H → sU g s H locs → ∀ ls : Array Slot, lv_has ls 11 [(0, rf g (0)), (2, .int (v)), (3, .int (w)), (4, .int (b)), (5, .int (k))] → W p l e (RM 5 128) s m av below meth c H locs 0 0 (MQ below (QU g (fun v w0 => v = .int r ∧ M2 = w0)) av s 0 0 (AU g)) (F0 m 966 ls []) := fun M v w b k h H locs hW hS ls hl => ih0 M v w b k r M2 h C hr hlk H locs hW hS ls hl
    unfold lp_L_acts_966 at h
    try dsimp only at h
    have hx := C.1
    have hb := C.2.1
    have hts := C.2.2.2.2.1
    refine lv_aload_n hx hb dL_acts_966 rfl (lv_at hl 0 rfl) ?_
    refine lv_iconst (v := 0) hx hb dL_acts_967 (by decide) ?_
    obtain ⟨r8001, Mw8002, h8003, h⟩ := bind2 h
    refine cBackC C.2.2.2.2.2.2.2.2 (runVU (As := [.int (0)]) (rest := []) C hW hS (c_X10_count l g M 0 _ _ h8003) kV_X10_count ml_L_13 (by decide) tm_BF rfl rfl rfl hl.1 rfl (Nat.le_of_ble_eq_true rfl) ⟨Nat.le_of_ble_eq_true rfl, Nat.le_of_ble_eq_true rfl⟩ ⟨Nat.zero_le _, Nat.zero_le _⟩ dL_acts_968) hS (fun v0 w0 H locs hp hW hS hq => ?_)
    obtain ⟨rfl, rfl⟩ := hp
    refine lv_istore (lv' := [(6, .int (r8001)), (0, rf g (0)), (2, .int (v)), (3, .int (w)), (4, .int (b)), (5, .int (k))]) hx hb dL_acts_971 hl (by decide) rfl (fun ls hl => ?_)
    refine lv_iload hx hb dL_acts_973 (lv_at hl 0 rfl) ?_
    refine lv_if_ne (tgt := 982) hx hb dL_acts_975 (by decide) (fun c8004 => ?_) (fun c8004 => ?_)
    · rw [if_neg c8004] at h
      refine lv_iload_n hx hb dL_acts_982 rfl (lv_at hl 2 rfl) ?_
      refine lv_iload hx hb dL_acts_983 (lv_at hl 0 rfl) ?_
      obtain ⟨r8005, Mw8006, h8007, h⟩ := bind2 h
      refine cBackL C.2.2.2.2.2.2.2.2 (runSU (As := [.int (v), .int (r8001)]) (rest := []) C hW hS (c_L_low l g Mw8002 v r8001 _ _ h8007) kS_L_low ml_L_96 rfl hl.1 rfl (Nat.le_of_ble_eq_true rfl) ⟨Nat.le_of_ble_eq_true rfl, Nat.le_of_ble_eq_true rfl⟩ ⟨Nat.zero_le _, Nat.zero_le _⟩ dL_acts_985) hS (fun v0 w0 H locs hp hW hS => ?_)
      obtain ⟨rfl, rfl⟩ := hp
      refine lv_istore (lv' := [(7, .int (r8005)), (6, .int (r8001)), (0, rf g (0)), (2, .int (v)), (3, .int (w)), (4, .int (b)), (5, .int (k))]) hx hb dL_acts_988 hl (by decide) rfl (fun ls hl => ?_)
      refine lv_iload hx hb dL_acts_990 (lv_at hl 1 rfl) ?_
      refine lv_if_ne (tgt := 999) hx hb dL_acts_992 (by decide) (fun c8008 => ?_) (fun c8008 => ?_)
      · rw [if_neg c8008] at h
        refine lv_aload_n hx hb dL_acts_999 rfl (lv_at hl 2 rfl) ?_
        refine lv_iconst (v := 2) hx hb dL_acts_1000 (by decide) ?_
        obtain ⟨r8009, Mw8010, h8011, h⟩ := bind2 h
        refine cBackC C.2.2.2.2.2.2.2.2 (runVU (As := [.int (2)]) (rest := []) C hW hS (c_X10_melt l g Mw8006 2 _ _ h8011) kV_X10_melt ml_L_47 (by decide) tm_BF rfl rfl rfl hl.1 rfl (Nat.le_of_ble_eq_true rfl) ⟨Nat.le_of_ble_eq_true rfl, Nat.le_of_ble_eq_true rfl⟩ ⟨Nat.zero_le _, Nat.zero_le _⟩ dL_acts_1001) hS (fun v0 w0 H locs hp hW hS hq => ?_)
        obtain ⟨rfl, rfl⟩ := hp
        refine lv_aload_n hx hb dL_acts_1004 rfl (lv_at hl 2 rfl) ?_
        refine lv_iload hx hb dL_acts_1005 (lv_at hl 0 rfl) ?_
        refine lv_iconst (v := 2) hx hb dL_acts_1007 (by decide) ?_
        obtain ⟨r8012, Mw8013, h8014, h⟩ := bind2 h
        refine cBackC C.2.2.2.2.2.2.2.2 (runVU (As := [.int (r8005), .int (2)]) (rest := [.int (r8009)]) C hW hS (c_X10_lot l g Mw8010 r8005 2 _ _ h8014) kV_X10_lot ml_L_23 (by decide) tm_BF rfl rfl rfl hl.1 rfl (Nat.le_of_ble_eq_true rfl) ⟨Nat.le_of_ble_eq_true rfl, Nat.le_of_ble_eq_true rfl⟩ ⟨Nat.zero_le _, Nat.zero_le _⟩ dL_acts_1008) hS (fun v0 w0 H locs hp hW hS hq => ?_)
        obtain ⟨rfl, rfl⟩ := hp
        refine lv_iadd hx hb dL_acts_1011 ?_
        refine lv_istore (lv' := [(8, .int ((r8009) + (r8012))), (7, .int (r8005)), (6, .int (r8001)), (0, rf g (0)), (2, .int (v)), (3, .int (w)), (4, .int (b)), (5, .int (k))]) hx hb dL_acts_1012 hl (by decide) rfl (fun ls hl => ?_)
        refine lv_iload hx hb dL_acts_1014 (lv_at hl 2 rfl) ?_
        refine lv_if_le (tgt := 1034) hx hb dL_acts_1016 (by decide) (fun c8015 => ?_) (fun c8015 => ?_)
        · rw [if_pos c8015] at h
          refine lv_iconst (v := 0) hx hb dL_acts_1034 (by decide) ?_
          refine lv_istore (lv' := [(9, .int (0)), (8, .int ((r8009) + (r8012))), (7, .int (r8005)), (6, .int (r8001)), (0, rf g (0)), (2, .int (v)), (3, .int (w)), (4, .int (b)), (5, .int (k))]) hx hb dL_acts_1035 hl (by decide) rfl (fun ls hl => ?_)
          refine lv_aload_n hx hb dL_acts_1037 rfl (lv_at hl 4 rfl) ?_
          refine lv_iload hx hb dL_acts_1038 (lv_at hl 2 rfl) ?_
          obtain ⟨r8016, Mw8017, h8018, h⟩ := bind2 h
          refine cBackC C.2.2.2.2.2.2.2.2 (runVU (As := [.int (r8005)]) (rest := []) C hW hS (c_X10_scrap l g Mw8013 r8005 _ _ h8018) kV_X10_scrap ml_L_44 (by decide) tm_BF rfl rfl rfl hl.1 rfl (Nat.le_of_ble_eq_true rfl) ⟨Nat.le_of_ble_eq_true rfl, Nat.le_of_ble_eq_true rfl⟩ ⟨Nat.zero_le _, Nat.zero_le _⟩ dL_acts_1040) hS (fun v0 w0 H locs hp hW hS hq => ?_)
          obtain ⟨rfl, rfl⟩ := hp
          refine lv_istore (lv' := [(10, .int (r8016)), (9, .int (0)), (8, .int ((r8009) + (r8012))), (7, .int (r8005)), (6, .int (r8001)), (0, rf g (0)), (2, .int (v)), (3, .int (w)), (4, .int (b)), (5, .int (k))]) hx hb dL_acts_1043 hl (by decide) rfl (fun ls hl => ?_)
          refine lv_iload hx hb dL_acts_1045 (lv_at hl 4 rfl) ?_
          refine lv_if_ne (tgt := 1064) hx hb dL_acts_1047 (by decide) (fun c8019 => ?_) (fun c8019 => ?_)
          · rw [if_neg c8019] at h
            refine lv_iload hx hb dL_acts_1064 (lv_at hl 2 rfl) ?_
            refine lv_sipush (v := 20000) hx hb dL_acts_1066 (by decide) ?_
            refine lv_icmp_le (tgt := 1087) hx hb dL_acts_1069 (by decide) (fun c8020 => ?_) (fun c8020 => ?_)
            · rw [if_pos c8020] at h
              refine lv_iload hx hb dL_acts_1087 (lv_at hl 0 rfl) ?_
              refine lv_aload_n hx hb dL_acts_1089 rfl (lv_at hl 5 rfl) ?_
              refine lv_iconst (v := 2) hx hb dL_acts_1090 (by decide) ?_
              obtain ⟨r8021, Mw8022, h8023, h⟩ := bind2 h
              refine cBackC C.2.2.2.2.2.2.2.2 (runVU (As := [.int (2)]) (rest := [.int (r8016)]) C hW hS (c_X10_melt l g Mw8017 2 _ _ h8023) kV_X10_melt ml_L_47 (by decide) tm_BF rfl rfl rfl hl.1 rfl (Nat.le_of_ble_eq_true rfl) ⟨Nat.le_of_ble_eq_true rfl, Nat.le_of_ble_eq_true rfl⟩ ⟨Nat.zero_le _, Nat.zero_le _⟩ dL_acts_1091) hS (fun v0 w0 H locs hp hW hS hq => ?_)
              obtain ⟨rfl, rfl⟩ := hp
              refine lv_icmp_ne (tgt := 1135) hx hb dL_acts_1094 (by decide) (fun c8024 => ?_) (fun c8024 => ?_)
              · rw [if_neg c8024] at h
                refine lv_iconst (v := 0) hx hb dL_acts_1135 (by decide) ?_
                cases h
              · rw [if_pos c8024] at h
                refine lv_iload hx hb dL_acts_1097 (lv_at hl 1 rfl) ?_
                refine lv_if_eq (tgt := 1112) hx hb dL_acts_1099 (by decide) (fun c8025 => ?_) (fun c8025 => ?_)
                · rw [if_pos c8025] at h
                  refine lv_iload hx hb dL_acts_1112 (lv_at hl 0 rfl) ?_
                  refine lv_iload hx hb dL_acts_1114 (lv_at hl 2 rfl) ?_
                  refine lv_icmp_ne (tgt := 1135) hx hb dL_acts_1116 (by decide) (fun c8026 => ?_) (fun c8026 => ?_)
                  · rw [if_neg c8026] at h
                    refine lv_iconst (v := 0) hx hb dL_acts_1135 (by decide) ?_
                    cases h
                  · rw [if_pos c8026] at h
                    refine lv_aload_n hx hb dL_acts_1119 rfl (lv_at hl 5 rfl) ?_
                    refine lv_iconst (v := 0) hx hb dL_acts_1120 (by decide) ?_
                    obtain ⟨r8027, Mw8028, h8029, h⟩ := bind2 h
                    refine cBackC C.2.2.2.2.2.2.2.2 (runVU (As := [.int (0)]) (rest := []) C hW hS (c_X10_count l g Mw8022 0 _ _ h8029) kV_X10_count ml_L_13 (by decide) tm_BF rfl rfl rfl hl.1 rfl (Nat.le_of_ble_eq_true rfl) ⟨Nat.le_of_ble_eq_true rfl, Nat.le_of_ble_eq_true rfl⟩ ⟨Nat.zero_le _, Nat.zero_le _⟩ dL_acts_1121) hS (fun v0 w0 H locs hp hW hS hq => ?_)
                    obtain ⟨rfl, rfl⟩ := hp
                    refine lv_iload hx hb dL_acts_1124 (lv_at hl 4 rfl) ?_
                    refine lv_iconst (v := 1) hx hb dL_acts_1126 (by decide) ?_
                    refine lv_isub hx hb dL_acts_1127 ?_
                    refine lv_icmp_ne (tgt := 1135) hx hb dL_acts_1128 (by decide) (fun c8030 => ?_) (fun c8030 => ?_)
                    · rw [if_neg c8030] at h
                      refine lv_iconst (v := 0) hx hb dL_acts_1135 (by decide) ?_
                      cases h
                    · rw [if_pos c8030] at h
                      refine lv_iconst (v := 1) hx hb dL_acts_1131 (by decide) ?_
                      refine lv_goto (tgt := 1136) hx hb dL_acts_1132 (by decide) ?_
                      cases h
                      exact rZU C hr hlk dL_acts_1136 hW hS rfl ⟨rfl, rfl⟩
                · rw [if_neg c8025] at h
                  cases h
            · rw [if_neg c8020] at h
              refine lv_iload hx hb dL_acts_1072 (lv_at hl 0 rfl) ?_
              refine lv_bipush (v := -3) hx hb dL_acts_1074 (by decide) ?_
              refine lv_icmp_ne (tgt := 1083) hx hb dL_acts_1076 (by decide) (fun c8031 => ?_) (fun c8031 => ?_)
              · rw [if_neg c8031] at h
                refine lv_iconst (v := 0) hx hb dL_acts_1083 (by decide) ?_
                refine lv_goto (tgt := 1136) hx hb dL_acts_1084 (by decide) ?_
                cases h
              · rw [if_pos c8031] at h
                refine lv_iconst (v := 1) hx hb dL_acts_1079 (by decide) ?_
                refine lv_goto (tgt := 1136) hx hb dL_acts_1080 (by decide) ?_
                cases h
                exact rZU C hr hlk dL_acts_1136 hW hS rfl ⟨rfl, rfl⟩
          · rw [if_pos c8019] at h
            cases h
        · rw [if_neg c8015] at h
          refine lv_aload_n hx hb dL_acts_1019 rfl (lv_at hl 3 rfl) ?_
          refine lv_iload hx hb dL_acts_1020 (lv_at hl 1 rfl) ?_
          refine lv_iconst (v := 4) hx hb dL_acts_1022 (by decide) ?_
          obtain ⟨r8032, Mw8033, h8034, h⟩ := bind2 h
          refine cBackC C.2.2.2.2.2.2.2.2 (runVU (As := [.int (r8005), .int (4)]) (rest := []) C hW hS (c_X10_lot l g Mw8013 r8005 4 _ _ h8034) kV_X10_lot ml_L_23 (by decide) tm_BF rfl rfl rfl hl.1 rfl (Nat.le_of_ble_eq_true rfl) ⟨Nat.le_of_ble_eq_true rfl, Nat.le_of_ble_eq_true rfl⟩ ⟨Nat.zero_le _, Nat.zero_le _⟩ dL_acts_1023) hS (fun v0 w0 H locs hp hW hS hq => ?_)
          obtain ⟨rfl, rfl⟩ := hp
          refine lv_iconst (v := 1) hx hb dL_acts_1026 (by decide) ?_
          refine lv_icmp_ne (tgt := 1034) hx hb dL_acts_1027 (by decide) (fun c8035 => ?_) (fun c8035 => ?_)
          · rw [if_neg c8035] at h
            refine lv_iconst (v := 0) hx hb dL_acts_1034 (by decide) ?_
            refine lv_istore (lv' := [(9, .int (0)), (8, .int ((r8009) + (r8012))), (7, .int (r8005)), (6, .int (r8001)), (0, rf g (0)), (2, .int (v)), (3, .int (w)), (4, .int (b)), (5, .int (k))]) hx hb dL_acts_1035 hl (by decide) rfl (fun ls hl => ?_)
            refine lv_aload_n hx hb dL_acts_1037 rfl (lv_at hl 4 rfl) ?_
            refine lv_iload hx hb dL_acts_1038 (lv_at hl 2 rfl) ?_
            obtain ⟨r8036, Mw8037, h8038, h⟩ := bind2 h
            refine cBackC C.2.2.2.2.2.2.2.2 (runVU (As := [.int (r8005)]) (rest := []) C hW hS (c_X10_scrap l g Mw8033 r8005 _ _ h8038) kV_X10_scrap ml_L_44 (by decide) tm_BF rfl rfl rfl hl.1 rfl (Nat.le_of_ble_eq_true rfl) ⟨Nat.le_of_ble_eq_true rfl, Nat.le_of_ble_eq_true rfl⟩ ⟨Nat.zero_le _, Nat.zero_le _⟩ dL_acts_1040) hS (fun v0 w0 H locs hp hW hS hq => ?_)
            obtain ⟨rfl, rfl⟩ := hp
            refine lv_istore (lv' := [(10, .int (r8036)), (9, .int (0)), (8, .int ((r8009) + (r8012))), (7, .int (r8005)), (6, .int (r8001)), (0, rf g (0)), (2, .int (v)), (3, .int (w)), (4, .int (b)), (5, .int (k))]) hx hb dL_acts_1043 hl (by decide) rfl (fun ls hl => ?_)
            refine lv_iload hx hb dL_acts_1045 (lv_at hl 4 rfl) ?_
            refine lv_if_ne (tgt := 1064) hx hb dL_acts_1047 (by decide) (fun c8039 => ?_) (fun c8039 => ?_)
            · rw [if_neg c8039] at h
              refine lv_iload hx hb dL_acts_1064 (lv_at hl 2 rfl) ?_
              refine lv_sipush (v := 20000) hx hb dL_acts_1066 (by decide) ?_
              refine lv_icmp_le (tgt := 1087) hx hb dL_acts_1069 (by decide) (fun c8040 => ?_) (fun c8040 => ?_)
              · rw [if_pos c8040] at h
                refine lv_iload hx hb dL_acts_1087 (lv_at hl 0 rfl) ?_
                refine lv_aload_n hx hb dL_acts_1089 rfl (lv_at hl 5 rfl) ?_
                refine lv_iconst (v := 2) hx hb dL_acts_1090 (by decide) ?_
                obtain ⟨r8041, Mw8042, h8043, h⟩ := bind2 h
                refine cBackC C.2.2.2.2.2.2.2.2 (runVU (As := [.int (2)]) (rest := [.int (r8036)]) C hW hS (c_X10_melt l g Mw8037 2 _ _ h8043) kV_X10_melt ml_L_47 (by decide) tm_BF rfl rfl rfl hl.1 rfl (Nat.le_of_ble_eq_true rfl) ⟨Nat.le_of_ble_eq_true rfl, Nat.le_of_ble_eq_true rfl⟩ ⟨Nat.zero_le _, Nat.zero_le _⟩ dL_acts_1091) hS (fun v0 w0 H locs hp hW hS hq => ?_)
                obtain ⟨rfl, rfl⟩ := hp
                refine lv_icmp_ne (tgt := 1135) hx hb dL_acts_1094 (by decide) (fun c8044 => ?_) (fun c8044 => ?_)
                · rw [if_neg c8044] at h
                  refine lv_iconst (v := 0) hx hb dL_acts_1135 (by decide) ?_
                  cases h
                · rw [if_pos c8044] at h
                  refine lv_iload hx hb dL_acts_1097 (lv_at hl 1 rfl) ?_
                  refine lv_if_eq (tgt := 1112) hx hb dL_acts_1099 (by decide) (fun c8045 => ?_) (fun c8045 => ?_)
                  · rw [if_pos c8045] at h
                    refine lv_iload hx hb dL_acts_1112 (lv_at hl 0 rfl) ?_
                    refine lv_iload hx hb dL_acts_1114 (lv_at hl 2 rfl) ?_
                    refine lv_icmp_ne (tgt := 1135) hx hb dL_acts_1116 (by decide) (fun c8046 => ?_) (fun c8046 => ?_)
                    · rw [if_neg c8046] at h
                      refine lv_iconst (v := 0) hx hb dL_acts_1135 (by decide) ?_
                      cases h
                    · rw [if_pos c8046] at h
                      refine lv_aload_n hx hb dL_acts_1119 rfl (lv_at hl 5 rfl) ?_
                      refine lv_iconst (v := 0) hx hb dL_acts_1120 (by decide) ?_
                      obtain ⟨r8047, Mw8048, h8049, h⟩ := bind2 h
                      refine cBackC C.2.2.2.2.2.2.2.2 (runVU (As := [.int (0)]) (rest := []) C hW hS (c_X10_count l g Mw8042 0 _ _ h8049) kV_X10_count ml_L_13 (by decide) tm_BF rfl rfl rfl hl.1 rfl (Nat.le_of_ble_eq_true rfl) ⟨Nat.le_of_ble_eq_true rfl, Nat.le_of_ble_eq_true rfl⟩ ⟨Nat.zero_le _, Nat.zero_le _⟩ dL_acts_1121) hS (fun v0 w0 H locs hp hW hS hq => ?_)
                      obtain ⟨rfl, rfl⟩ := hp
                      refine lv_iload hx hb dL_acts_1124 (lv_at hl 4 rfl) ?_
                      refine lv_iconst (v := 1) hx hb dL_acts_1126 (by decide) ?_
                      refine lv_isub hx hb dL_acts_1127 ?_
                      refine lv_icmp_ne (tgt := 1135) hx hb dL_acts_1128 (by decide) (fun c8050 => ?_) (fun c8050 => ?_)
                      · rw [if_neg c8050] at h
                        refine lv_iconst (v := 0) hx hb dL_acts_1135 (by decide) ?_
                        cases h
                      · rw [if_pos c8050] at h
                        refine lv_iconst (v := 1) hx hb dL_acts_1131 (by decide) ?_
                        refine lv_goto (tgt := 1136) hx hb dL_acts_1132 (by decide) ?_
                        cases h
                        exact rZU C hr hlk dL_acts_1136 hW hS rfl ⟨rfl, rfl⟩
                  · rw [if_neg c8045] at h
                    cases h
              · rw [if_neg c8040] at h
                refine lv_iload hx hb dL_acts_1072 (lv_at hl 0 rfl) ?_
                refine lv_bipush (v := -3) hx hb dL_acts_1074 (by decide) ?_
                refine lv_icmp_ne (tgt := 1083) hx hb dL_acts_1076 (by decide) (fun c8051 => ?_) (fun c8051 => ?_)
                · rw [if_neg c8051] at h
                  refine lv_iconst (v := 0) hx hb dL_acts_1083 (by decide) ?_
                  refine lv_goto (tgt := 1136) hx hb dL_acts_1084 (by decide) ?_
                  cases h
                · rw [if_pos c8051] at h
                  refine lv_iconst (v := 1) hx hb dL_acts_1079 (by decide) ?_
                  refine lv_goto (tgt := 1136) hx hb dL_acts_1080 (by decide) ?_
                  cases h
                  exact rZU C hr hlk dL_acts_1136 hW hS rfl ⟨rfl, rfl⟩
            · rw [if_pos c8039] at h
              cases h
          · rw [if_pos c8035] at h
            refine lv_iconst (v := 1) hx hb dL_acts_1030 (by decide) ?_
            refine lv_goto (tgt := 1035) hx hb dL_acts_1031 (by decide) ?_
            refine lv_istore (lv' := [(9, .int (1)), (8, .int ((r8009) + (r8012))), (7, .int (r8005)), (6, .int (r8001)), (0, rf g (0)), (2, .int (v)), (3, .int (w)), (4, .int (b)), (5, .int (k))]) hx hb dL_acts_1035 hl (by decide) rfl (fun ls hl => ?_)
            refine lv_aload_n hx hb dL_acts_1037 rfl (lv_at hl 4 rfl) ?_
            refine lv_iload hx hb dL_acts_1038 (lv_at hl 2 rfl) ?_
            obtain ⟨r8052, Mw8053, h8054, h⟩ := bind2 h
            refine cBackC C.2.2.2.2.2.2.2.2 (runVU (As := [.int (r8005)]) (rest := []) C hW hS (c_X10_scrap l g Mw8033 r8005 _ _ h8054) kV_X10_scrap ml_L_44 (by decide) tm_BF rfl rfl rfl hl.1 rfl (Nat.le_of_ble_eq_true rfl) ⟨Nat.le_of_ble_eq_true rfl, Nat.le_of_ble_eq_true rfl⟩ ⟨Nat.zero_le _, Nat.zero_le _⟩ dL_acts_1040) hS (fun v0 w0 H locs hp hW hS hq => ?_)
            obtain ⟨rfl, rfl⟩ := hp
            refine lv_istore (lv' := [(10, .int (r8052)), (9, .int (1)), (8, .int ((r8009) + (r8012))), (7, .int (r8005)), (6, .int (r8001)), (0, rf g (0)), (2, .int (v)), (3, .int (w)), (4, .int (b)), (5, .int (k))]) hx hb dL_acts_1043 hl (by decide) rfl (fun ls hl => ?_)
            refine lv_iload hx hb dL_acts_1045 (lv_at hl 4 rfl) ?_
            refine lv_if_ne (tgt := 1064) hx hb dL_acts_1047 (by decide) (fun c8055 => ?_) (fun c8055 => ?_)
            · rw [if_neg c8055] at h
              refine lv_iload hx hb dL_acts_1064 (lv_at hl 2 rfl) ?_
              refine lv_sipush (v := 20000) hx hb dL_acts_1066 (by decide) ?_
              refine lv_icmp_le (tgt := 1087) hx hb dL_acts_1069 (by decide) (fun c8056 => ?_) (fun c8056 => ?_)
              · rw [if_pos c8056] at h
                refine lv_iload hx hb dL_acts_1087 (lv_at hl 0 rfl) ?_
                refine lv_aload_n hx hb dL_acts_1089 rfl (lv_at hl 5 rfl) ?_
                refine lv_iconst (v := 2) hx hb dL_acts_1090 (by decide) ?_
                obtain ⟨r8057, Mw8058, h8059, h⟩ := bind2 h
                refine cBackC C.2.2.2.2.2.2.2.2 (runVU (As := [.int (2)]) (rest := [.int (r8052)]) C hW hS (c_X10_melt l g Mw8053 2 _ _ h8059) kV_X10_melt ml_L_47 (by decide) tm_BF rfl rfl rfl hl.1 rfl (Nat.le_of_ble_eq_true rfl) ⟨Nat.le_of_ble_eq_true rfl, Nat.le_of_ble_eq_true rfl⟩ ⟨Nat.zero_le _, Nat.zero_le _⟩ dL_acts_1091) hS (fun v0 w0 H locs hp hW hS hq => ?_)
                obtain ⟨rfl, rfl⟩ := hp
                refine lv_icmp_ne (tgt := 1135) hx hb dL_acts_1094 (by decide) (fun c8060 => ?_) (fun c8060 => ?_)
                · rw [if_neg c8060] at h
                  refine lv_iconst (v := 0) hx hb dL_acts_1135 (by decide) ?_
                  cases h
                · rw [if_pos c8060] at h
                  refine lv_iload hx hb dL_acts_1097 (lv_at hl 1 rfl) ?_
                  refine lv_if_eq (tgt := 1112) hx hb dL_acts_1099 (by decide) (fun c8061 => ?_) (fun c8061 => ?_)
                  · rw [if_pos c8061] at h
                    cases h
                  · rw [if_neg c8061] at h
                    refine lv_iload hx hb dL_acts_1102 (lv_at hl 0 rfl) ?_
                    refine lv_iload hx hb dL_acts_1104 (lv_at hl 2 rfl) ?_
                    refine lv_icmp_gt (tgt := 1135) hx hb dL_acts_1106 (by decide) (fun c8062 => ?_) (fun c8062 => ?_)
                    · rw [if_pos c8062] at h
                      refine lv_iconst (v := 0) hx hb dL_acts_1135 (by decide) ?_
                      cases h
                    · rw [if_neg c8062] at h
                      refine lv_goto (tgt := 1119) hx hb dL_acts_1109 (by decide) ?_
                      refine lv_aload_n hx hb dL_acts_1119 rfl (lv_at hl 5 rfl) ?_
                      refine lv_iconst (v := 0) hx hb dL_acts_1120 (by decide) ?_
                      obtain ⟨r8063, Mw8064, h8065, h⟩ := bind2 h
                      refine cBackC C.2.2.2.2.2.2.2.2 (runVU (As := [.int (0)]) (rest := []) C hW hS (c_X10_count l g Mw8058 0 _ _ h8065) kV_X10_count ml_L_13 (by decide) tm_BF rfl rfl rfl hl.1 rfl (Nat.le_of_ble_eq_true rfl) ⟨Nat.le_of_ble_eq_true rfl, Nat.le_of_ble_eq_true rfl⟩ ⟨Nat.zero_le _, Nat.zero_le _⟩ dL_acts_1121) hS (fun v0 w0 H locs hp hW hS hq => ?_)
                      obtain ⟨rfl, rfl⟩ := hp
                      refine lv_iload hx hb dL_acts_1124 (lv_at hl 4 rfl) ?_
                      refine lv_iconst (v := 1) hx hb dL_acts_1126 (by decide) ?_
                      refine lv_isub hx hb dL_acts_1127 ?_
                      refine lv_icmp_ne (tgt := 1135) hx hb dL_acts_1128 (by decide) (fun c8066 => ?_) (fun c8066 => ?_)
                      · rw [if_neg c8066] at h
                        refine lv_iconst (v := 0) hx hb dL_acts_1135 (by decide) ?_
                        cases h
                      · rw [if_pos c8066] at h
                        refine lv_iconst (v := 1) hx hb dL_acts_1131 (by decide) ?_
                        refine lv_goto (tgt := 1136) hx hb dL_acts_1132 (by decide) ?_
                        cases h
                        exact rZU C hr hlk dL_acts_1136 hW hS rfl ⟨rfl, rfl⟩
              · rw [if_neg c8056] at h
                refine lv_iload hx hb dL_acts_1072 (lv_at hl 0 rfl) ?_
                refine lv_bipush (v := -3) hx hb dL_acts_1074 (by decide) ?_
                refine lv_icmp_ne (tgt := 1083) hx hb dL_acts_1076 (by decide) (fun c8067 => ?_) (fun c8067 => ?_)
                · rw [if_neg c8067] at h
                  refine lv_iconst (v := 0) hx hb dL_acts_1083 (by decide) ?_
                  refine lv_goto (tgt := 1136) hx hb dL_acts_1084 (by decide) ?_
                  cases h
                · rw [if_pos c8067] at h
                  refine lv_iconst (v := 1) hx hb dL_acts_1079 (by decide) ?_
                  refine lv_goto (tgt := 1136) hx hb dL_acts_1080 (by decide) ?_
                  cases h
                  exact rZU C hr hlk dL_acts_1136 hW hS rfl ⟨rfl, rfl⟩
            · rw [if_pos c8055] at h
              cases h
      · rw [if_pos c8008] at h
        cases h
    · rw [if_pos c8004] at h
      refine lv_iconst (v := 0) hx hb dL_acts_978 (by decide) ?_
      refine lv_goto (tgt := 988) hx hb dL_acts_979 (by decide) ?_
      refine lv_istore (lv' := [(7, .int (0)), (6, .int (r8001)), (0, rf g (0)), (2, .int (v)), (3, .int (w)), (4, .int (b)), (5, .int (k))]) hx hb dL_acts_988 hl (by decide) rfl (fun ls hl => ?_)
      refine lv_iload hx hb dL_acts_990 (lv_at hl 1 rfl) ?_
      refine lv_if_ne (tgt := 999) hx hb dL_acts_992 (by decide) (fun c8068 => ?_) (fun c8068 => ?_)
      · rw [if_neg c8068] at h
        cases h
      · rw [if_pos c8068] at h
        refine lv_iconst (v := 0) hx hb dL_acts_995 (by decide) ?_
        refine lv_goto (tgt := 1012) hx hb dL_acts_996 (by decide) ?_
        refine lv_istore (lv' := [(8, .int (0)), (7, .int (0)), (6, .int (r8001)), (0, rf g (0)), (2, .int (v)), (3, .int (w)), (4, .int (b)), (5, .int (k))]) hx hb dL_acts_1012 hl (by decide) rfl (fun ls hl => ?_)
        refine lv_iload hx hb dL_acts_1014 (lv_at hl 2 rfl) ?_
        refine lv_if_le (tgt := 1034) hx hb dL_acts_1016 (by decide) (fun c8069 => ?_) (fun c8069 => ?_)
        · rw [if_pos c8069] at h
          refine lv_iconst (v := 0) hx hb dL_acts_1034 (by decide) ?_
          refine lv_istore (lv' := [(9, .int (0)), (8, .int (0)), (7, .int (0)), (6, .int (r8001)), (0, rf g (0)), (2, .int (v)), (3, .int (w)), (4, .int (b)), (5, .int (k))]) hx hb dL_acts_1035 hl (by decide) rfl (fun ls hl => ?_)
          refine lv_aload_n hx hb dL_acts_1037 rfl (lv_at hl 4 rfl) ?_
          refine lv_iload hx hb dL_acts_1038 (lv_at hl 2 rfl) ?_
          obtain ⟨r8070, Mw8071, h8072, h⟩ := bind2 h
          refine cBackC C.2.2.2.2.2.2.2.2 (runVU (As := [.int (0)]) (rest := []) C hW hS (c_X10_scrap l g Mw8002 0 _ _ h8072) kV_X10_scrap ml_L_44 (by decide) tm_BF rfl rfl rfl hl.1 rfl (Nat.le_of_ble_eq_true rfl) ⟨Nat.le_of_ble_eq_true rfl, Nat.le_of_ble_eq_true rfl⟩ ⟨Nat.zero_le _, Nat.zero_le _⟩ dL_acts_1040) hS (fun v0 w0 H locs hp hW hS hq => ?_)
          obtain ⟨rfl, rfl⟩ := hp
          refine lv_istore (lv' := [(10, .int (r8070)), (9, .int (0)), (8, .int (0)), (7, .int (0)), (6, .int (r8001)), (0, rf g (0)), (2, .int (v)), (3, .int (w)), (4, .int (b)), (5, .int (k))]) hx hb dL_acts_1043 hl (by decide) rfl (fun ls hl => ?_)
          refine lv_iload hx hb dL_acts_1045 (lv_at hl 4 rfl) ?_
          refine lv_if_ne (tgt := 1064) hx hb dL_acts_1047 (by decide) (fun c8073 => ?_) (fun c8073 => ?_)
          · rw [if_neg c8073] at h
            cases h
          · rw [if_pos c8073] at h
            refine lv_iload hx hb dL_acts_1050 (lv_at hl 0 rfl) ?_
            refine lv_iconst (v := -1) hx hb dL_acts_1052 (by decide) ?_
            refine lv_icmp_ne (tgt := 1060) hx hb dL_acts_1053 (by decide) (fun c8074 => ?_) (fun c8074 => ?_)
            · rw [if_neg c8074] at h
              refine lv_iconst (v := 0) hx hb dL_acts_1060 (by decide) ?_
              refine lv_goto (tgt := 1136) hx hb dL_acts_1061 (by decide) ?_
              cases h
            · rw [if_pos c8074] at h
              refine lv_iconst (v := 1) hx hb dL_acts_1056 (by decide) ?_
              refine lv_goto (tgt := 1136) hx hb dL_acts_1057 (by decide) ?_
              cases h
              exact rZU C hr hlk dL_acts_1136 hW hS rfl ⟨rfl, rfl⟩
        · rw [if_neg c8069] at h
          refine lv_aload_n hx hb dL_acts_1019 rfl (lv_at hl 3 rfl) ?_
          refine lv_iload hx hb dL_acts_1020 (lv_at hl 1 rfl) ?_
          refine lv_iconst (v := 4) hx hb dL_acts_1022 (by decide) ?_
          obtain ⟨r8075, Mw8076, h8077, h⟩ := bind2 h
          refine cBackC C.2.2.2.2.2.2.2.2 (runVU (As := [.int (0), .int (4)]) (rest := []) C hW hS (c_X10_lot l g Mw8002 0 4 _ _ h8077) kV_X10_lot ml_L_23 (by decide) tm_BF rfl rfl rfl hl.1 rfl (Nat.le_of_ble_eq_true rfl) ⟨Nat.le_of_ble_eq_true rfl, Nat.le_of_ble_eq_true rfl⟩ ⟨Nat.zero_le _, Nat.zero_le _⟩ dL_acts_1023) hS (fun v0 w0 H locs hp hW hS hq => ?_)
          obtain ⟨rfl, rfl⟩ := hp
          refine lv_iconst (v := 1) hx hb dL_acts_1026 (by decide) ?_
          refine lv_icmp_ne (tgt := 1034) hx hb dL_acts_1027 (by decide) (fun c8078 => ?_) (fun c8078 => ?_)
          · rw [if_neg c8078] at h
            refine lv_iconst (v := 0) hx hb dL_acts_1034 (by decide) ?_
            refine lv_istore (lv' := [(9, .int (0)), (8, .int (0)), (7, .int (0)), (6, .int (r8001)), (0, rf g (0)), (2, .int (v)), (3, .int (w)), (4, .int (b)), (5, .int (k))]) hx hb dL_acts_1035 hl (by decide) rfl (fun ls hl => ?_)
            refine lv_aload_n hx hb dL_acts_1037 rfl (lv_at hl 4 rfl) ?_
            refine lv_iload hx hb dL_acts_1038 (lv_at hl 2 rfl) ?_
            obtain ⟨r8079, Mw8080, h8081, h⟩ := bind2 h
            refine cBackC C.2.2.2.2.2.2.2.2 (runVU (As := [.int (0)]) (rest := []) C hW hS (c_X10_scrap l g Mw8076 0 _ _ h8081) kV_X10_scrap ml_L_44 (by decide) tm_BF rfl rfl rfl hl.1 rfl (Nat.le_of_ble_eq_true rfl) ⟨Nat.le_of_ble_eq_true rfl, Nat.le_of_ble_eq_true rfl⟩ ⟨Nat.zero_le _, Nat.zero_le _⟩ dL_acts_1040) hS (fun v0 w0 H locs hp hW hS hq => ?_)
            obtain ⟨rfl, rfl⟩ := hp
            refine lv_istore (lv' := [(10, .int (r8079)), (9, .int (0)), (8, .int (0)), (7, .int (0)), (6, .int (r8001)), (0, rf g (0)), (2, .int (v)), (3, .int (w)), (4, .int (b)), (5, .int (k))]) hx hb dL_acts_1043 hl (by decide) rfl (fun ls hl => ?_)
            refine lv_iload hx hb dL_acts_1045 (lv_at hl 4 rfl) ?_
            refine lv_if_ne (tgt := 1064) hx hb dL_acts_1047 (by decide) (fun c8082 => ?_) (fun c8082 => ?_)
            · rw [if_neg c8082] at h
              cases h
            · rw [if_pos c8082] at h
              refine lv_iload hx hb dL_acts_1050 (lv_at hl 0 rfl) ?_
              refine lv_iconst (v := -1) hx hb dL_acts_1052 (by decide) ?_
              refine lv_icmp_ne (tgt := 1060) hx hb dL_acts_1053 (by decide) (fun c8083 => ?_) (fun c8083 => ?_)
              · rw [if_neg c8083] at h
                refine lv_iconst (v := 0) hx hb dL_acts_1060 (by decide) ?_
                refine lv_goto (tgt := 1136) hx hb dL_acts_1061 (by decide) ?_
                cases h
              · rw [if_pos c8083] at h
                refine lv_iconst (v := 1) hx hb dL_acts_1056 (by decide) ?_
                refine lv_goto (tgt := 1136) hx hb dL_acts_1057 (by decide) ?_
                cases h
                exact rZU C hr hlk dL_acts_1136 hW hS rfl ⟨rfl, rfl⟩
          · rw [if_pos c8078] at h
            refine lv_iconst (v := 1) hx hb dL_acts_1030 (by decide) ?_
            refine lv_goto (tgt := 1035) hx hb dL_acts_1031 (by decide) ?_
            refine lv_istore (lv' := [(9, .int (1)), (8, .int (0)), (7, .int (0)), (6, .int (r8001)), (0, rf g (0)), (2, .int (v)), (3, .int (w)), (4, .int (b)), (5, .int (k))]) hx hb dL_acts_1035 hl (by decide) rfl (fun ls hl => ?_)
            refine lv_aload_n hx hb dL_acts_1037 rfl (lv_at hl 4 rfl) ?_
            refine lv_iload hx hb dL_acts_1038 (lv_at hl 2 rfl) ?_
            obtain ⟨r8084, Mw8085, h8086, h⟩ := bind2 h
            refine cBackC C.2.2.2.2.2.2.2.2 (runVU (As := [.int (0)]) (rest := []) C hW hS (c_X10_scrap l g Mw8076 0 _ _ h8086) kV_X10_scrap ml_L_44 (by decide) tm_BF rfl rfl rfl hl.1 rfl (Nat.le_of_ble_eq_true rfl) ⟨Nat.le_of_ble_eq_true rfl, Nat.le_of_ble_eq_true rfl⟩ ⟨Nat.zero_le _, Nat.zero_le _⟩ dL_acts_1040) hS (fun v0 w0 H locs hp hW hS hq => ?_)
            obtain ⟨rfl, rfl⟩ := hp
            refine lv_istore (lv' := [(10, .int (r8084)), (9, .int (1)), (8, .int (0)), (7, .int (0)), (6, .int (r8001)), (0, rf g (0)), (2, .int (v)), (3, .int (w)), (4, .int (b)), (5, .int (k))]) hx hb dL_acts_1043 hl (by decide) rfl (fun ls hl => ?_)
            refine lv_iload hx hb dL_acts_1045 (lv_at hl 4 rfl) ?_
            refine lv_if_ne (tgt := 1064) hx hb dL_acts_1047 (by decide) (fun c8087 => ?_) (fun c8087 => ?_)
            · rw [if_neg c8087] at h
              cases h
            · rw [if_pos c8087] at h
              refine lv_iload hx hb dL_acts_1050 (lv_at hl 0 rfl) ?_
              refine lv_iconst (v := -1) hx hb dL_acts_1052 (by decide) ?_
              refine lv_icmp_ne (tgt := 1060) hx hb dL_acts_1053 (by decide) (fun c8088 => ?_) (fun c8088 => ?_)
              · rw [if_neg c8088] at h
                refine lv_iconst (v := 0) hx hb dL_acts_1060 (by decide) ?_
                refine lv_goto (tgt := 1136) hx hb dL_acts_1061 (by decide) ?_
                cases h
              · rw [if_pos c8088] at h
                refine lv_iconst (v := 1) hx hb dL_acts_1056 (by decide) ?_
                refine lv_goto (tgt := 1136) hx hb dL_acts_1057 (by decide) ?_
                cases h
                exact rZU C hr hlk dL_acts_1136 hW hS rfl ⟨rfl, rfl⟩
set_option maxHeartbeats 4000000 in
set_option maxRecDepth 100000 in
theorem t_L_acts_803 (l : Launch) (g : GD)  {p : Program} {e : Env} {s : State} {m : MethodId} {av : Array Value} {below : List Frame} {meth : Method} {c : Code} (n : Nat) : ∀ (M : MM) (v : Int32) (w : Int32) (b : Int32) (k : Int32) (r : Int32) (M2 : MM), lp_L_acts_803 n M v w b k = some (r, M2) → CX p s m av c cL_acts 11 RL g → meth.sig.returnType = (some .boolean) → meth.locks = false → ∀ (H : Heap) (locs : List Loc), Wd g M H → sU g s H locs → ∀ ls : Array Slot, lv_has ls 11 [(0, rf g (0)), (2, .int (v)), (3, .int (w)), (4, .int (b)), (5, .int (k))] → W p l e (RM 5 128) s m av below meth c H locs 0 0 (MQ below (QU g (fun v w0 => v = .int r ∧ M2 = w0)) av s 0 0 (AU g)) (F0 m 803 ls []) := by
  induction n with
  | zero => intro M v w b k r M2 h; cases h
  | succ n ih0 =>
    intro M v w b k r M2 h C hr hlk H locs hW hS ls hl
    have ih : ∀ (M : MM) (v : Int32) (w : Int32) (b : Int32) (k : Int32), lp_L_acts_803 n M v w b k = some (r, M2) → ∀ (H : Heap) (locs : List Loc), Wd g M H → sU g s H locs → ∀ ls : Array Slot, lv_has ls 11 [(0, rf g (0)), (2, .int (v)), (3, .int (w)), (4, .int (b)), (5, .int (k))] → W p l e (RM 5 128) s m av below meth c H locs 0 0 (MQ below (QU g (fun v w0 => v = .int r ∧ M2 = w0)) av s 0 0 (AU g)) (F0 m 803 ls []) := fun M v w b k h H locs hW hS ls hl => ih0 M v w b k r M2 h C hr hlk H locs hW hS ls hl
    unfold lp_L_acts_803 at h
    try dsimp only at h
    have hx := C.1
    have hb := C.2.1
    have hts := C.2.2.2.2.1
    refine lv_aload_n hx hb dL_acts_803 rfl (lv_at hl 0 rfl) ?_
    refine lv_iconst (v := 5) hx hb dL_acts_804 (by decide) ?_
    obtain ⟨r7001, Mw7002, h7003, h⟩ := bind2 h
    refine cBackC C.2.2.2.2.2.2.2.2 (runVU (As := [.int (5)]) (rest := []) C hW hS (c_X10_count l g M 5 _ _ h7003) kV_X10_count ml_L_13 (by decide) tm_BF rfl rfl rfl hl.1 rfl (Nat.le_of_ble_eq_true rfl) ⟨Nat.le_of_ble_eq_true rfl, Nat.le_of_ble_eq_true rfl⟩ ⟨Nat.zero_le _, Nat.zero_le _⟩ dL_acts_805) hS (fun v0 w0 H locs hp hW hS hq => ?_)
    obtain ⟨rfl, rfl⟩ := hp
    refine lv_istore (lv' := [(6, .int (r7001)), (0, rf g (0)), (2, .int (v)), (3, .int (w)), (4, .int (b)), (5, .int (k))]) hx hb dL_acts_808 hl (by decide) rfl (fun ls hl => ?_)
    refine lv_iload hx hb dL_acts_810 (lv_at hl 0 rfl) ?_
    refine lv_if_ne (tgt := 819) hx hb dL_acts_812 (by decide) (fun c7004 => ?_) (fun c7004 => ?_)
    · rw [if_neg c7004] at h
      refine lv_iload_n hx hb dL_acts_819 rfl (lv_at hl 3 rfl) ?_
      refine lv_iload hx hb dL_acts_820 (lv_at hl 0 rfl) ?_
      obtain ⟨r7005, Mw7006, h7007, h⟩ := bind2 h
      refine cBackL C.2.2.2.2.2.2.2.2 (runSU (As := [.int (w), .int (r7001)]) (rest := []) C hW hS (c_L_low l g Mw7002 w r7001 _ _ h7007) kS_L_low ml_L_96 rfl hl.1 rfl (Nat.le_of_ble_eq_true rfl) ⟨Nat.le_of_ble_eq_true rfl, Nat.le_of_ble_eq_true rfl⟩ ⟨Nat.zero_le _, Nat.zero_le _⟩ dL_acts_822) hS (fun v0 w0 H locs hp hW hS => ?_)
      obtain ⟨rfl, rfl⟩ := hp
      refine lv_istore (lv' := [(7, .int (r7005)), (6, .int (r7001)), (0, rf g (0)), (2, .int (v)), (3, .int (w)), (4, .int (b)), (5, .int (k))]) hx hb dL_acts_825 hl (by decide) rfl (fun ls hl => ?_)
      refine lv_iload hx hb dL_acts_827 (lv_at hl 5 rfl) ?_
      refine lv_if_le (tgt := 878) hx hb dL_acts_829 (by decide) (fun c7008 => ?_) (fun c7008 => ?_)
      · rw [if_pos c7008] at h
        refine lv_iconst (v := 0) hx hb dL_acts_878 (by decide) ?_
        refine lv_istore (lv' := [(8, .int (0)), (7, .int (r7005)), (6, .int (r7001)), (0, rf g (0)), (2, .int (v)), (3, .int (w)), (4, .int (b)), (5, .int (k))]) hx hb dL_acts_879 hl (by decide) rfl (fun ls hl => ?_)
        refine lv_aload_n hx hb dL_acts_881 rfl (lv_at hl 3 rfl) ?_
        refine lv_iload hx hb dL_acts_882 (lv_at hl 7 rfl) ?_
        refine lv_iload hx hb dL_acts_884 (lv_at hl 1 rfl) ?_
        obtain ⟨r7009, Mw7010, h7011, h⟩ := bind2 h
        refine cBackC C.2.2.2.2.2.2.2.2 (runVU (As := [.int (k), .int (r7005)]) (rest := []) C hW hS (c_X10_send l g Mw7006 k r7005 _ _ h7011) kV_X10_send ml_L_69 (by decide) tm_BF rfl rfl rfl hl.1 rfl (Nat.le_of_ble_eq_true rfl) ⟨Nat.le_of_ble_eq_true rfl, Nat.le_of_ble_eq_true rfl⟩ ⟨Nat.zero_le _, Nat.zero_le _⟩ dL_acts_886) hS (fun v0 w0 H locs hp hW hS hq => ?_)
        obtain ⟨rfl, rfl⟩ := hp
        refine lv_istore (lv' := [(9, .int (r7009)), (8, .int (0)), (7, .int (r7005)), (6, .int (r7001)), (0, rf g (0)), (2, .int (v)), (3, .int (w)), (4, .int (b)), (5, .int (k))]) hx hb dL_acts_889 hl (by decide) rfl (fun ls hl => ?_)
        refine lv_iload hx hb dL_acts_891 (lv_at hl 7 rfl) ?_
        refine lv_if_eq (tgt := 901) hx hb dL_acts_893 (by decide) (fun c7012 => ?_) (fun c7012 => ?_)
        · rw [if_pos c7012] at h
          refine lv_iload hx hb dL_acts_901 (lv_at hl 0 rfl) ?_
          refine lv_iconst (v := -1) hx hb dL_acts_903 (by decide) ?_
          refine lv_icmp_ne (tgt := 911) hx hb dL_acts_904 (by decide) (fun c7013 => ?_) (fun c7013 => ?_)
          · rw [if_neg c7013] at h
            refine lv_iconst (v := 0) hx hb dL_acts_911 (by decide) ?_
            refine lv_goto (tgt := 965) hx hb dL_acts_912 (by decide) ?_
            cases h
          · rw [if_pos c7013] at h
            refine lv_iconst (v := 1) hx hb dL_acts_907 (by decide) ?_
            refine lv_goto (tgt := 965) hx hb dL_acts_908 (by decide) ?_
            cases h
            exact rZU C hr hlk dL_acts_965 hW hS rfl ⟨rfl, rfl⟩
        · rw [if_neg c7012] at h
          refine lv_iload hx hb dL_acts_896 (lv_at hl 3 rfl) ?_
          refine lv_if_ne (tgt := 915) hx hb dL_acts_898 (by decide) (fun c7014 => ?_) (fun c7014 => ?_)
          · rw [if_neg c7014] at h
            refine lv_iload hx hb dL_acts_915 (lv_at hl 1 rfl) ?_
            refine lv_if_eq (tgt := 953) hx hb dL_acts_917 (by decide) (fun c7015 => ?_) (fun c7015 => ?_)
            · rw [if_pos c7015] at h
              refine lv_iload hx hb dL_acts_953 (lv_at hl 0 rfl) ?_
              refine lv_bipush (v := -2) hx hb dL_acts_955 (by decide) ?_
              refine lv_icmp_ne (tgt := 964) hx hb dL_acts_957 (by decide) (fun c7016 => ?_) (fun c7016 => ?_)
              · rw [if_neg c7016] at h
                refine lv_iconst (v := 0) hx hb dL_acts_964 (by decide) ?_
                cases h
              · rw [if_pos c7016] at h
                refine lv_iconst (v := 1) hx hb dL_acts_960 (by decide) ?_
                refine lv_goto (tgt := 965) hx hb dL_acts_961 (by decide) ?_
                cases h
                exact rZU C hr hlk dL_acts_965 hW hS rfl ⟨rfl, rfl⟩
            · rw [if_neg c7015] at h
              cases h
          · rw [if_pos c7014] at h
            cases h
      · rw [if_neg c7008] at h
        refine lv_iload hx hb dL_acts_832 (lv_at hl 1 rfl) ?_
        refine lv_if_le (tgt := 878) hx hb dL_acts_834 (by decide) (fun c7017 => ?_) (fun c7017 => ?_)
        · rw [if_pos c7017] at h
          refine lv_iconst (v := 0) hx hb dL_acts_878 (by decide) ?_
          refine lv_istore (lv' := [(8, .int (0)), (7, .int (r7005)), (6, .int (r7001)), (0, rf g (0)), (2, .int (v)), (3, .int (w)), (4, .int (b)), (5, .int (k))]) hx hb dL_acts_879 hl (by decide) rfl (fun ls hl => ?_)
          refine lv_aload_n hx hb dL_acts_881 rfl (lv_at hl 3 rfl) ?_
          refine lv_iload hx hb dL_acts_882 (lv_at hl 7 rfl) ?_
          refine lv_iload hx hb dL_acts_884 (lv_at hl 1 rfl) ?_
          obtain ⟨r7018, Mw7019, h7020, h⟩ := bind2 h
          refine cBackC C.2.2.2.2.2.2.2.2 (runVU (As := [.int (k), .int (r7005)]) (rest := []) C hW hS (c_X10_send l g Mw7006 k r7005 _ _ h7020) kV_X10_send ml_L_69 (by decide) tm_BF rfl rfl rfl hl.1 rfl (Nat.le_of_ble_eq_true rfl) ⟨Nat.le_of_ble_eq_true rfl, Nat.le_of_ble_eq_true rfl⟩ ⟨Nat.zero_le _, Nat.zero_le _⟩ dL_acts_886) hS (fun v0 w0 H locs hp hW hS hq => ?_)
          obtain ⟨rfl, rfl⟩ := hp
          refine lv_istore (lv' := [(9, .int (r7018)), (8, .int (0)), (7, .int (r7005)), (6, .int (r7001)), (0, rf g (0)), (2, .int (v)), (3, .int (w)), (4, .int (b)), (5, .int (k))]) hx hb dL_acts_889 hl (by decide) rfl (fun ls hl => ?_)
          refine lv_iload hx hb dL_acts_891 (lv_at hl 7 rfl) ?_
          refine lv_if_eq (tgt := 901) hx hb dL_acts_893 (by decide) (fun c7021 => ?_) (fun c7021 => ?_)
          · rw [if_pos c7021] at h
            refine lv_iload hx hb dL_acts_901 (lv_at hl 0 rfl) ?_
            refine lv_iconst (v := -1) hx hb dL_acts_903 (by decide) ?_
            refine lv_icmp_ne (tgt := 911) hx hb dL_acts_904 (by decide) (fun c7022 => ?_) (fun c7022 => ?_)
            · rw [if_neg c7022] at h
              refine lv_iconst (v := 0) hx hb dL_acts_911 (by decide) ?_
              refine lv_goto (tgt := 965) hx hb dL_acts_912 (by decide) ?_
              cases h
            · rw [if_pos c7022] at h
              refine lv_iconst (v := 1) hx hb dL_acts_907 (by decide) ?_
              refine lv_goto (tgt := 965) hx hb dL_acts_908 (by decide) ?_
              cases h
              exact rZU C hr hlk dL_acts_965 hW hS rfl ⟨rfl, rfl⟩
          · rw [if_neg c7021] at h
            refine lv_iload hx hb dL_acts_896 (lv_at hl 3 rfl) ?_
            refine lv_if_ne (tgt := 915) hx hb dL_acts_898 (by decide) (fun c7023 => ?_) (fun c7023 => ?_)
            · rw [if_neg c7023] at h
              refine lv_iload hx hb dL_acts_915 (lv_at hl 1 rfl) ?_
              refine lv_if_eq (tgt := 953) hx hb dL_acts_917 (by decide) (fun c7024 => ?_) (fun c7024 => ?_)
              · rw [if_pos c7024] at h
                refine lv_iload hx hb dL_acts_953 (lv_at hl 0 rfl) ?_
                refine lv_bipush (v := -2) hx hb dL_acts_955 (by decide) ?_
                refine lv_icmp_ne (tgt := 964) hx hb dL_acts_957 (by decide) (fun c7025 => ?_) (fun c7025 => ?_)
                · rw [if_neg c7025] at h
                  refine lv_iconst (v := 0) hx hb dL_acts_964 (by decide) ?_
                  cases h
                · rw [if_pos c7025] at h
                  refine lv_iconst (v := 1) hx hb dL_acts_960 (by decide) ?_
                  refine lv_goto (tgt := 965) hx hb dL_acts_961 (by decide) ?_
                  cases h
                  exact rZU C hr hlk dL_acts_965 hW hS rfl ⟨rfl, rfl⟩
              · rw [if_neg c7024] at h
                cases h
            · rw [if_pos c7023] at h
              cases h
        · rw [if_neg c7017] at h
          refine lv_aload_n hx hb dL_acts_837 rfl (lv_at hl 2 rfl) ?_
          refine lv_iload hx hb dL_acts_838 (lv_at hl 6 rfl) ?_
          refine lv_iload hx hb dL_acts_840 (lv_at hl 0 rfl) ?_
          obtain ⟨r7026, Mw7027, h7028, h⟩ := bind2 h
          refine cBackC C.2.2.2.2.2.2.2.2 (runVU (As := [.int (k), .int (r7005)]) (rest := []) C hW hS (c_X10_tuneFor l g Mw7006 k r7005 _ _ h7028) kV_X10_tuneFor ml_L_72 (by decide) tm_BF rfl rfl rfl hl.1 rfl (Nat.le_of_ble_eq_true rfl) ⟨Nat.le_of_ble_eq_true rfl, Nat.le_of_ble_eq_true rfl⟩ ⟨Nat.zero_le _, Nat.zero_le _⟩ dL_acts_842) hS (fun v0 w0 H locs hp hW hS hq => ?_)
          obtain ⟨rfl, rfl⟩ := hp
          refine lv_if_ne (tgt := 878) hx hb dL_acts_845 (by decide) (fun c7029 => ?_) (fun c7029 => ?_)
          · rw [if_neg c7029] at h
            refine lv_iconst (v := 0) hx hb dL_acts_878 (by decide) ?_
            refine lv_istore (lv' := [(8, .int (0)), (7, .int (r7005)), (6, .int (r7001)), (0, rf g (0)), (2, .int (v)), (3, .int (w)), (4, .int (b)), (5, .int (k))]) hx hb dL_acts_879 hl (by decide) rfl (fun ls hl => ?_)
            refine lv_aload_n hx hb dL_acts_881 rfl (lv_at hl 3 rfl) ?_
            refine lv_iload hx hb dL_acts_882 (lv_at hl 7 rfl) ?_
            refine lv_iload hx hb dL_acts_884 (lv_at hl 1 rfl) ?_
            obtain ⟨r7030, Mw7031, h7032, h⟩ := bind2 h
            refine cBackC C.2.2.2.2.2.2.2.2 (runVU (As := [.int (k), .int (r7005)]) (rest := []) C hW hS (c_X10_send l g Mw7027 k r7005 _ _ h7032) kV_X10_send ml_L_69 (by decide) tm_BF rfl rfl rfl hl.1 rfl (Nat.le_of_ble_eq_true rfl) ⟨Nat.le_of_ble_eq_true rfl, Nat.le_of_ble_eq_true rfl⟩ ⟨Nat.zero_le _, Nat.zero_le _⟩ dL_acts_886) hS (fun v0 w0 H locs hp hW hS hq => ?_)
            obtain ⟨rfl, rfl⟩ := hp
            refine lv_istore (lv' := [(9, .int (r7030)), (8, .int (0)), (7, .int (r7005)), (6, .int (r7001)), (0, rf g (0)), (2, .int (v)), (3, .int (w)), (4, .int (b)), (5, .int (k))]) hx hb dL_acts_889 hl (by decide) rfl (fun ls hl => ?_)
            refine lv_iload hx hb dL_acts_891 (lv_at hl 7 rfl) ?_
            refine lv_if_eq (tgt := 901) hx hb dL_acts_893 (by decide) (fun c7033 => ?_) (fun c7033 => ?_)
            · rw [if_pos c7033] at h
              refine lv_iload hx hb dL_acts_901 (lv_at hl 0 rfl) ?_
              refine lv_iconst (v := -1) hx hb dL_acts_903 (by decide) ?_
              refine lv_icmp_ne (tgt := 911) hx hb dL_acts_904 (by decide) (fun c7034 => ?_) (fun c7034 => ?_)
              · rw [if_neg c7034] at h
                refine lv_iconst (v := 0) hx hb dL_acts_911 (by decide) ?_
                refine lv_goto (tgt := 965) hx hb dL_acts_912 (by decide) ?_
                cases h
              · rw [if_pos c7034] at h
                refine lv_iconst (v := 1) hx hb dL_acts_907 (by decide) ?_
                refine lv_goto (tgt := 965) hx hb dL_acts_908 (by decide) ?_
                cases h
                exact rZU C hr hlk dL_acts_965 hW hS rfl ⟨rfl, rfl⟩
            · rw [if_neg c7033] at h
              refine lv_iload hx hb dL_acts_896 (lv_at hl 3 rfl) ?_
              refine lv_if_ne (tgt := 915) hx hb dL_acts_898 (by decide) (fun c7035 => ?_) (fun c7035 => ?_)
              · rw [if_neg c7035] at h
                refine lv_iload hx hb dL_acts_915 (lv_at hl 1 rfl) ?_
                refine lv_if_eq (tgt := 953) hx hb dL_acts_917 (by decide) (fun c7036 => ?_) (fun c7036 => ?_)
                · rw [if_pos c7036] at h
                  refine lv_iload hx hb dL_acts_953 (lv_at hl 0 rfl) ?_
                  refine lv_bipush (v := -2) hx hb dL_acts_955 (by decide) ?_
                  refine lv_icmp_ne (tgt := 964) hx hb dL_acts_957 (by decide) (fun c7037 => ?_) (fun c7037 => ?_)
                  · rw [if_neg c7037] at h
                    refine lv_iconst (v := 0) hx hb dL_acts_964 (by decide) ?_
                    cases h
                  · rw [if_pos c7037] at h
                    refine lv_iconst (v := 1) hx hb dL_acts_960 (by decide) ?_
                    refine lv_goto (tgt := 965) hx hb dL_acts_961 (by decide) ?_
                    cases h
                    exact rZU C hr hlk dL_acts_965 hW hS rfl ⟨rfl, rfl⟩
                · rw [if_neg c7036] at h
                  cases h
              · rw [if_pos c7035] at h
                cases h
          · rw [if_pos c7029] at h
            refine lv_aload_n hx hb dL_acts_848 rfl (lv_at hl 2 rfl) ?_
            refine lv_iload hx hb dL_acts_849 (lv_at hl 0 rfl) ?_
            refine lv_iconst (v := 3) hx hb dL_acts_851 (by decide) ?_
            obtain ⟨r7038, Mw7039, h7040, h⟩ := bind2 h
            refine cBackC C.2.2.2.2.2.2.2.2 (runVU (As := [.int (r7005), .int (3)]) (rest := []) C hW hS (c_X10_orderOf l g Mw7027 r7005 3 _ _ h7040) kV_X10_orderOf ml_L_29 (by decide) tm_BF rfl rfl rfl hl.1 rfl (Nat.le_of_ble_eq_true rfl) ⟨Nat.le_of_ble_eq_true rfl, Nat.le_of_ble_eq_true rfl⟩ ⟨Nat.zero_le _, Nat.zero_le _⟩ dL_acts_852) hS (fun v0 w0 H locs hp hW hS hq => ?_)
            obtain ⟨rfl, rfl⟩ := hp
            refine lv_if_ne (tgt := 878) hx hb dL_acts_855 (by decide) (fun c7041 => ?_) (fun c7041 => ?_)
            · rw [if_neg c7041] at h
              refine lv_iconst (v := 0) hx hb dL_acts_878 (by decide) ?_
              refine lv_istore (lv' := [(8, .int (0)), (7, .int (r7005)), (6, .int (r7001)), (0, rf g (0)), (2, .int (v)), (3, .int (w)), (4, .int (b)), (5, .int (k))]) hx hb dL_acts_879 hl (by decide) rfl (fun ls hl => ?_)
              refine lv_aload_n hx hb dL_acts_881 rfl (lv_at hl 3 rfl) ?_
              refine lv_iload hx hb dL_acts_882 (lv_at hl 7 rfl) ?_
              refine lv_iload hx hb dL_acts_884 (lv_at hl 1 rfl) ?_
              obtain ⟨r7042, Mw7043, h7044, h⟩ := bind2 h
              refine cBackC C.2.2.2.2.2.2.2.2 (runVU (As := [.int (k), .int (r7005)]) (rest := []) C hW hS (c_X10_send l g Mw7039 k r7005 _ _ h7044) kV_X10_send ml_L_69 (by decide) tm_BF rfl rfl rfl hl.1 rfl (Nat.le_of_ble_eq_true rfl) ⟨Nat.le_of_ble_eq_true rfl, Nat.le_of_ble_eq_true rfl⟩ ⟨Nat.zero_le _, Nat.zero_le _⟩ dL_acts_886) hS (fun v0 w0 H locs hp hW hS hq => ?_)
              obtain ⟨rfl, rfl⟩ := hp
              refine lv_istore (lv' := [(9, .int (r7042)), (8, .int (0)), (7, .int (r7005)), (6, .int (r7001)), (0, rf g (0)), (2, .int (v)), (3, .int (w)), (4, .int (b)), (5, .int (k))]) hx hb dL_acts_889 hl (by decide) rfl (fun ls hl => ?_)
              refine lv_iload hx hb dL_acts_891 (lv_at hl 7 rfl) ?_
              refine lv_if_eq (tgt := 901) hx hb dL_acts_893 (by decide) (fun c7045 => ?_) (fun c7045 => ?_)
              · rw [if_pos c7045] at h
                refine lv_iload hx hb dL_acts_901 (lv_at hl 0 rfl) ?_
                refine lv_iconst (v := -1) hx hb dL_acts_903 (by decide) ?_
                refine lv_icmp_ne (tgt := 911) hx hb dL_acts_904 (by decide) (fun c7046 => ?_) (fun c7046 => ?_)
                · rw [if_neg c7046] at h
                  refine lv_iconst (v := 0) hx hb dL_acts_911 (by decide) ?_
                  refine lv_goto (tgt := 965) hx hb dL_acts_912 (by decide) ?_
                  cases h
                · rw [if_pos c7046] at h
                  refine lv_iconst (v := 1) hx hb dL_acts_907 (by decide) ?_
                  refine lv_goto (tgt := 965) hx hb dL_acts_908 (by decide) ?_
                  cases h
                  exact rZU C hr hlk dL_acts_965 hW hS rfl ⟨rfl, rfl⟩
              · rw [if_neg c7045] at h
                refine lv_iload hx hb dL_acts_896 (lv_at hl 3 rfl) ?_
                refine lv_if_ne (tgt := 915) hx hb dL_acts_898 (by decide) (fun c7047 => ?_) (fun c7047 => ?_)
                · rw [if_neg c7047] at h
                  refine lv_iload hx hb dL_acts_915 (lv_at hl 1 rfl) ?_
                  refine lv_if_eq (tgt := 953) hx hb dL_acts_917 (by decide) (fun c7048 => ?_) (fun c7048 => ?_)
                  · rw [if_pos c7048] at h
                    refine lv_iload hx hb dL_acts_953 (lv_at hl 0 rfl) ?_
                    refine lv_bipush (v := -2) hx hb dL_acts_955 (by decide) ?_
                    refine lv_icmp_ne (tgt := 964) hx hb dL_acts_957 (by decide) (fun c7049 => ?_) (fun c7049 => ?_)
                    · rw [if_neg c7049] at h
                      refine lv_iconst (v := 0) hx hb dL_acts_964 (by decide) ?_
                      cases h
                    · rw [if_pos c7049] at h
                      refine lv_iconst (v := 1) hx hb dL_acts_960 (by decide) ?_
                      refine lv_goto (tgt := 965) hx hb dL_acts_961 (by decide) ?_
                      cases h
                      exact rZU C hr hlk dL_acts_965 hW hS rfl ⟨rfl, rfl⟩
                  · rw [if_neg c7048] at h
                    cases h
                · rw [if_pos c7047] at h
                  cases h
            · rw [if_pos c7041] at h
              refine lv_aload_n hx hb dL_acts_858 rfl (lv_at hl 2 rfl) ?_
              refine lv_iload hx hb dL_acts_859 (lv_at hl 6 rfl) ?_
              refine lv_iconst (v := 2) hx hb dL_acts_861 (by decide) ?_
              obtain ⟨r7050, Mw7051, h7052, h⟩ := bind2 h
              refine cBackC C.2.2.2.2.2.2.2.2 (runVU (As := [.int (k), .int (2)]) (rest := []) C hW hS (c_X10_bell l g Mw7039 k 2 _ _ h7052) kV_X10_bell ml_L_26 (by decide) tm_BF rfl rfl rfl hl.1 rfl (Nat.le_of_ble_eq_true rfl) ⟨Nat.le_of_ble_eq_true rfl, Nat.le_of_ble_eq_true rfl⟩ ⟨Nat.zero_le _, Nat.zero_le _⟩ dL_acts_862) hS (fun v0 w0 H locs hp hW hS hq => ?_)
              obtain ⟨rfl, rfl⟩ := hp
              refine lv_aload_n hx hb dL_acts_865 rfl (lv_at hl 2 rfl) ?_
              refine lv_bipush (v := 26) hx hb dL_acts_866 (by decide) ?_
              obtain ⟨r7053, Mw7054, h7055, h⟩ := bind2 h
              refine cBackC C.2.2.2.2.2.2.2.2 (runVU (As := [.int (26)]) (rest := [.int (r7050)]) C hW hS (c_X10_count l g Mw7051 26 _ _ h7055) kV_X10_count ml_L_13 (by decide) tm_BF rfl rfl rfl hl.1 rfl (Nat.le_of_ble_eq_true rfl) ⟨Nat.le_of_ble_eq_true rfl, Nat.le_of_ble_eq_true rfl⟩ ⟨Nat.zero_le _, Nat.zero_le _⟩ dL_acts_868) hS (fun v0 w0 H locs hp hW hS hq => ?_)
              obtain ⟨rfl, rfl⟩ := hp
              refine lv_icmp_gt (tgt := 878) hx hb dL_acts_871 (by decide) (fun c7056 => ?_) (fun c7056 => ?_)
              · rw [if_pos c7056] at h
                refine lv_iconst (v := 0) hx hb dL_acts_878 (by decide) ?_
                refine lv_istore (lv' := [(8, .int (0)), (7, .int (r7005)), (6, .int (r7001)), (0, rf g (0)), (2, .int (v)), (3, .int (w)), (4, .int (b)), (5, .int (k))]) hx hb dL_acts_879 hl (by decide) rfl (fun ls hl => ?_)
                refine lv_aload_n hx hb dL_acts_881 rfl (lv_at hl 3 rfl) ?_
                refine lv_iload hx hb dL_acts_882 (lv_at hl 7 rfl) ?_
                refine lv_iload hx hb dL_acts_884 (lv_at hl 1 rfl) ?_
                obtain ⟨r7057, Mw7058, h7059, h⟩ := bind2 h
                refine cBackC C.2.2.2.2.2.2.2.2 (runVU (As := [.int (k), .int (r7005)]) (rest := []) C hW hS (c_X10_send l g Mw7054 k r7005 _ _ h7059) kV_X10_send ml_L_69 (by decide) tm_BF rfl rfl rfl hl.1 rfl (Nat.le_of_ble_eq_true rfl) ⟨Nat.le_of_ble_eq_true rfl, Nat.le_of_ble_eq_true rfl⟩ ⟨Nat.zero_le _, Nat.zero_le _⟩ dL_acts_886) hS (fun v0 w0 H locs hp hW hS hq => ?_)
                obtain ⟨rfl, rfl⟩ := hp
                refine lv_istore (lv' := [(9, .int (r7057)), (8, .int (0)), (7, .int (r7005)), (6, .int (r7001)), (0, rf g (0)), (2, .int (v)), (3, .int (w)), (4, .int (b)), (5, .int (k))]) hx hb dL_acts_889 hl (by decide) rfl (fun ls hl => ?_)
                refine lv_iload hx hb dL_acts_891 (lv_at hl 7 rfl) ?_
                refine lv_if_eq (tgt := 901) hx hb dL_acts_893 (by decide) (fun c7060 => ?_) (fun c7060 => ?_)
                · rw [if_pos c7060] at h
                  refine lv_iload hx hb dL_acts_901 (lv_at hl 0 rfl) ?_
                  refine lv_iconst (v := -1) hx hb dL_acts_903 (by decide) ?_
                  refine lv_icmp_ne (tgt := 911) hx hb dL_acts_904 (by decide) (fun c7061 => ?_) (fun c7061 => ?_)
                  · rw [if_neg c7061] at h
                    refine lv_iconst (v := 0) hx hb dL_acts_911 (by decide) ?_
                    refine lv_goto (tgt := 965) hx hb dL_acts_912 (by decide) ?_
                    cases h
                  · rw [if_pos c7061] at h
                    refine lv_iconst (v := 1) hx hb dL_acts_907 (by decide) ?_
                    refine lv_goto (tgt := 965) hx hb dL_acts_908 (by decide) ?_
                    cases h
                    exact rZU C hr hlk dL_acts_965 hW hS rfl ⟨rfl, rfl⟩
                · rw [if_neg c7060] at h
                  refine lv_iload hx hb dL_acts_896 (lv_at hl 3 rfl) ?_
                  refine lv_if_ne (tgt := 915) hx hb dL_acts_898 (by decide) (fun c7062 => ?_) (fun c7062 => ?_)
                  · rw [if_neg c7062] at h
                    refine lv_iload hx hb dL_acts_915 (lv_at hl 1 rfl) ?_
                    refine lv_if_eq (tgt := 953) hx hb dL_acts_917 (by decide) (fun c7063 => ?_) (fun c7063 => ?_)
                    · rw [if_pos c7063] at h
                      refine lv_iload hx hb dL_acts_953 (lv_at hl 0 rfl) ?_
                      refine lv_bipush (v := -2) hx hb dL_acts_955 (by decide) ?_
                      refine lv_icmp_ne (tgt := 964) hx hb dL_acts_957 (by decide) (fun c7064 => ?_) (fun c7064 => ?_)
                      · rw [if_neg c7064] at h
                        refine lv_iconst (v := 0) hx hb dL_acts_964 (by decide) ?_
                        cases h
                      · rw [if_pos c7064] at h
                        refine lv_iconst (v := 1) hx hb dL_acts_960 (by decide) ?_
                        refine lv_goto (tgt := 965) hx hb dL_acts_961 (by decide) ?_
                        cases h
                        exact rZU C hr hlk dL_acts_965 hW hS rfl ⟨rfl, rfl⟩
                    · rw [if_neg c7063] at h
                      cases h
                  · rw [if_pos c7062] at h
                    cases h
              · rw [if_neg c7056] at h
                refine lv_iconst (v := 1) hx hb dL_acts_874 (by decide) ?_
                refine lv_goto (tgt := 879) hx hb dL_acts_875 (by decide) ?_
                refine lv_istore (lv' := [(8, .int (1)), (7, .int (r7005)), (6, .int (r7001)), (0, rf g (0)), (2, .int (v)), (3, .int (w)), (4, .int (b)), (5, .int (k))]) hx hb dL_acts_879 hl (by decide) rfl (fun ls hl => ?_)
                refine lv_aload_n hx hb dL_acts_881 rfl (lv_at hl 3 rfl) ?_
                refine lv_iload hx hb dL_acts_882 (lv_at hl 7 rfl) ?_
                refine lv_iload hx hb dL_acts_884 (lv_at hl 1 rfl) ?_
                obtain ⟨r7065, Mw7066, h7067, h⟩ := bind2 h
                refine cBackC C.2.2.2.2.2.2.2.2 (runVU (As := [.int (k), .int (r7005)]) (rest := []) C hW hS (c_X10_send l g Mw7054 k r7005 _ _ h7067) kV_X10_send ml_L_69 (by decide) tm_BF rfl rfl rfl hl.1 rfl (Nat.le_of_ble_eq_true rfl) ⟨Nat.le_of_ble_eq_true rfl, Nat.le_of_ble_eq_true rfl⟩ ⟨Nat.zero_le _, Nat.zero_le _⟩ dL_acts_886) hS (fun v0 w0 H locs hp hW hS hq => ?_)
                obtain ⟨rfl, rfl⟩ := hp
                refine lv_istore (lv' := [(9, .int (r7065)), (8, .int (1)), (7, .int (r7005)), (6, .int (r7001)), (0, rf g (0)), (2, .int (v)), (3, .int (w)), (4, .int (b)), (5, .int (k))]) hx hb dL_acts_889 hl (by decide) rfl (fun ls hl => ?_)
                refine lv_iload hx hb dL_acts_891 (lv_at hl 7 rfl) ?_
                refine lv_if_eq (tgt := 901) hx hb dL_acts_893 (by decide) (fun c7068 => ?_) (fun c7068 => ?_)
                · rw [if_pos c7068] at h
                  refine lv_iload hx hb dL_acts_901 (lv_at hl 0 rfl) ?_
                  refine lv_iconst (v := -1) hx hb dL_acts_903 (by decide) ?_
                  refine lv_icmp_ne (tgt := 911) hx hb dL_acts_904 (by decide) (fun c7069 => ?_) (fun c7069 => ?_)
                  · rw [if_neg c7069] at h
                    refine lv_iconst (v := 0) hx hb dL_acts_911 (by decide) ?_
                    refine lv_goto (tgt := 965) hx hb dL_acts_912 (by decide) ?_
                    cases h
                  · rw [if_pos c7069] at h
                    refine lv_iconst (v := 1) hx hb dL_acts_907 (by decide) ?_
                    refine lv_goto (tgt := 965) hx hb dL_acts_908 (by decide) ?_
                    cases h
                    exact rZU C hr hlk dL_acts_965 hW hS rfl ⟨rfl, rfl⟩
                · rw [if_neg c7068] at h
                  refine lv_iload hx hb dL_acts_896 (lv_at hl 3 rfl) ?_
                  refine lv_if_ne (tgt := 915) hx hb dL_acts_898 (by decide) (fun c7070 => ?_) (fun c7070 => ?_)
                  · rw [if_neg c7070] at h
                    refine lv_iload hx hb dL_acts_915 (lv_at hl 1 rfl) ?_
                    refine lv_if_eq (tgt := 953) hx hb dL_acts_917 (by decide) (fun c7071 => ?_) (fun c7071 => ?_)
                    · rw [if_pos c7071] at h
                      cases h
                    · rw [if_neg c7071] at h
                      refine lv_iload hx hb dL_acts_920 (lv_at hl 0 rfl) ?_
                      refine lv_aload_n hx hb dL_acts_922 rfl (lv_at hl 4 rfl) ?_
                      refine lv_iload hx hb dL_acts_923 (lv_at hl 8 rfl) ?_
                      refine lv_iconst (v := 2) hx hb dL_acts_925 (by decide) ?_
                      obtain ⟨r7072, Mw7073, h7074, h⟩ := bind2 h
                      refine cBackC C.2.2.2.2.2.2.2.2 (runVU (As := [.int (k), .int (2)]) (rest := [.int (r7065)]) C hW hS (c_X10_bell l g Mw7066 k 2 _ _ h7074) kV_X10_bell ml_L_26 (by decide) tm_BF rfl rfl rfl hl.1 rfl (Nat.le_of_ble_eq_true rfl) ⟨Nat.le_of_ble_eq_true rfl, Nat.le_of_ble_eq_true rfl⟩ ⟨Nat.zero_le _, Nat.zero_le _⟩ dL_acts_926) hS (fun v0 w0 H locs hp hW hS hq => ?_)
                      obtain ⟨rfl, rfl⟩ := hp
                      refine lv_icmp_ne (tgt := 949) hx hb dL_acts_929 (by decide) (fun c7075 => ?_) (fun c7075 => ?_)
                      · rw [if_neg c7075] at h
                        refine lv_iconst (v := 0) hx hb dL_acts_949 (by decide) ?_
                        refine lv_goto (tgt := 965) hx hb dL_acts_950 (by decide) ?_
                        cases h
                      · rw [if_pos c7075] at h
                        refine lv_aload_n hx hb dL_acts_932 rfl (lv_at hl 4 rfl) ?_
                        refine lv_iload hx hb dL_acts_933 (lv_at hl 8 rfl) ?_
                        refine lv_bipush (v := 9) hx hb dL_acts_935 (by decide) ?_
                        obtain ⟨r7076, Mw7077, h7078, h⟩ := bind2 h
                        refine cBackC C.2.2.2.2.2.2.2.2 (runVU (As := [.int (k), .int (9)]) (rest := []) C hW hS (c_X10_bell l g Mw7073 k 9 _ _ h7078) kV_X10_bell ml_L_26 (by decide) tm_BF rfl rfl rfl hl.1 rfl (Nat.le_of_ble_eq_true rfl) ⟨Nat.le_of_ble_eq_true rfl, Nat.le_of_ble_eq_true rfl⟩ ⟨Nat.zero_le _, Nat.zero_le _⟩ dL_acts_937) hS (fun v0 w0 H locs hp hW hS hq => ?_)
                        obtain ⟨rfl, rfl⟩ := hp
                        refine lv_iload hx hb dL_acts_940 (lv_at hl 2 rfl) ?_
                        refine lv_icmp_ne (tgt := 949) hx hb dL_acts_942 (by decide) (fun c7079 => ?_) (fun c7079 => ?_)
                        · rw [if_neg c7079] at h
                          refine lv_iconst (v := 0) hx hb dL_acts_949 (by decide) ?_
                          refine lv_goto (tgt := 965) hx hb dL_acts_950 (by decide) ?_
                          cases h
                        · rw [if_pos c7079] at h
                          refine lv_iconst (v := 1) hx hb dL_acts_945 (by decide) ?_
                          refine lv_goto (tgt := 965) hx hb dL_acts_946 (by decide) ?_
                          cases h
                          exact rZU C hr hlk dL_acts_965 hW hS rfl ⟨rfl, rfl⟩
                  · rw [if_pos c7070] at h
                    cases h
    · rw [if_pos c7004] at h
      refine lv_iconst (v := 0) hx hb dL_acts_815 (by decide) ?_
      refine lv_goto (tgt := 825) hx hb dL_acts_816 (by decide) ?_
      refine lv_istore (lv' := [(7, .int (0)), (6, .int (r7001)), (0, rf g (0)), (2, .int (v)), (3, .int (w)), (4, .int (b)), (5, .int (k))]) hx hb dL_acts_825 hl (by decide) rfl (fun ls hl => ?_)
      refine lv_iload hx hb dL_acts_827 (lv_at hl 5 rfl) ?_
      refine lv_if_le (tgt := 878) hx hb dL_acts_829 (by decide) (fun c7080 => ?_) (fun c7080 => ?_)
      · rw [if_pos c7080] at h
        refine lv_iconst (v := 0) hx hb dL_acts_878 (by decide) ?_
        refine lv_istore (lv' := [(8, .int (0)), (7, .int (0)), (6, .int (r7001)), (0, rf g (0)), (2, .int (v)), (3, .int (w)), (4, .int (b)), (5, .int (k))]) hx hb dL_acts_879 hl (by decide) rfl (fun ls hl => ?_)
        refine lv_aload_n hx hb dL_acts_881 rfl (lv_at hl 3 rfl) ?_
        refine lv_iload hx hb dL_acts_882 (lv_at hl 7 rfl) ?_
        refine lv_iload hx hb dL_acts_884 (lv_at hl 1 rfl) ?_
        obtain ⟨r7081, Mw7082, h7083, h⟩ := bind2 h
        refine cBackC C.2.2.2.2.2.2.2.2 (runVU (As := [.int (k), .int (0)]) (rest := []) C hW hS (c_X10_send l g Mw7002 k 0 _ _ h7083) kV_X10_send ml_L_69 (by decide) tm_BF rfl rfl rfl hl.1 rfl (Nat.le_of_ble_eq_true rfl) ⟨Nat.le_of_ble_eq_true rfl, Nat.le_of_ble_eq_true rfl⟩ ⟨Nat.zero_le _, Nat.zero_le _⟩ dL_acts_886) hS (fun v0 w0 H locs hp hW hS hq => ?_)
        obtain ⟨rfl, rfl⟩ := hp
        refine lv_istore (lv' := [(9, .int (r7081)), (8, .int (0)), (7, .int (0)), (6, .int (r7001)), (0, rf g (0)), (2, .int (v)), (3, .int (w)), (4, .int (b)), (5, .int (k))]) hx hb dL_acts_889 hl (by decide) rfl (fun ls hl => ?_)
        refine lv_iload hx hb dL_acts_891 (lv_at hl 7 rfl) ?_
        refine lv_if_eq (tgt := 901) hx hb dL_acts_893 (by decide) (fun c7084 => ?_) (fun c7084 => ?_)
        · rw [if_pos c7084] at h
          refine lv_iload hx hb dL_acts_901 (lv_at hl 0 rfl) ?_
          refine lv_iconst (v := -1) hx hb dL_acts_903 (by decide) ?_
          refine lv_icmp_ne (tgt := 911) hx hb dL_acts_904 (by decide) (fun c7085 => ?_) (fun c7085 => ?_)
          · rw [if_neg c7085] at h
            refine lv_iconst (v := 0) hx hb dL_acts_911 (by decide) ?_
            refine lv_goto (tgt := 965) hx hb dL_acts_912 (by decide) ?_
            cases h
          · rw [if_pos c7085] at h
            refine lv_iconst (v := 1) hx hb dL_acts_907 (by decide) ?_
            refine lv_goto (tgt := 965) hx hb dL_acts_908 (by decide) ?_
            cases h
            exact rZU C hr hlk dL_acts_965 hW hS rfl ⟨rfl, rfl⟩
        · rw [if_neg c7084] at h
          refine lv_iload hx hb dL_acts_896 (lv_at hl 3 rfl) ?_
          refine lv_if_ne (tgt := 915) hx hb dL_acts_898 (by decide) (fun c7086 => ?_) (fun c7086 => ?_)
          · rw [if_neg c7086] at h
            cases h
          · rw [if_pos c7086] at h
            refine lv_iload hx hb dL_acts_901 (lv_at hl 0 rfl) ?_
            refine lv_iconst (v := -1) hx hb dL_acts_903 (by decide) ?_
            refine lv_icmp_ne (tgt := 911) hx hb dL_acts_904 (by decide) (fun c7087 => ?_) (fun c7087 => ?_)
            · rw [if_neg c7087] at h
              refine lv_iconst (v := 0) hx hb dL_acts_911 (by decide) ?_
              refine lv_goto (tgt := 965) hx hb dL_acts_912 (by decide) ?_
              cases h
            · rw [if_pos c7087] at h
              refine lv_iconst (v := 1) hx hb dL_acts_907 (by decide) ?_
              refine lv_goto (tgt := 965) hx hb dL_acts_908 (by decide) ?_
              cases h
              exact rZU C hr hlk dL_acts_965 hW hS rfl ⟨rfl, rfl⟩
      · rw [if_neg c7080] at h
        refine lv_iload hx hb dL_acts_832 (lv_at hl 1 rfl) ?_
        refine lv_if_le (tgt := 878) hx hb dL_acts_834 (by decide) (fun c7088 => ?_) (fun c7088 => ?_)
        · rw [if_pos c7088] at h
          refine lv_iconst (v := 0) hx hb dL_acts_878 (by decide) ?_
          refine lv_istore (lv' := [(8, .int (0)), (7, .int (0)), (6, .int (r7001)), (0, rf g (0)), (2, .int (v)), (3, .int (w)), (4, .int (b)), (5, .int (k))]) hx hb dL_acts_879 hl (by decide) rfl (fun ls hl => ?_)
          refine lv_aload_n hx hb dL_acts_881 rfl (lv_at hl 3 rfl) ?_
          refine lv_iload hx hb dL_acts_882 (lv_at hl 7 rfl) ?_
          refine lv_iload hx hb dL_acts_884 (lv_at hl 1 rfl) ?_
          obtain ⟨r7089, Mw7090, h7091, h⟩ := bind2 h
          refine cBackC C.2.2.2.2.2.2.2.2 (runVU (As := [.int (k), .int (0)]) (rest := []) C hW hS (c_X10_send l g Mw7002 k 0 _ _ h7091) kV_X10_send ml_L_69 (by decide) tm_BF rfl rfl rfl hl.1 rfl (Nat.le_of_ble_eq_true rfl) ⟨Nat.le_of_ble_eq_true rfl, Nat.le_of_ble_eq_true rfl⟩ ⟨Nat.zero_le _, Nat.zero_le _⟩ dL_acts_886) hS (fun v0 w0 H locs hp hW hS hq => ?_)
          obtain ⟨rfl, rfl⟩ := hp
          refine lv_istore (lv' := [(9, .int (r7089)), (8, .int (0)), (7, .int (0)), (6, .int (r7001)), (0, rf g (0)), (2, .int (v)), (3, .int (w)), (4, .int (b)), (5, .int (k))]) hx hb dL_acts_889 hl (by decide) rfl (fun ls hl => ?_)
          refine lv_iload hx hb dL_acts_891 (lv_at hl 7 rfl) ?_
          refine lv_if_eq (tgt := 901) hx hb dL_acts_893 (by decide) (fun c7092 => ?_) (fun c7092 => ?_)
          · rw [if_pos c7092] at h
            refine lv_iload hx hb dL_acts_901 (lv_at hl 0 rfl) ?_
            refine lv_iconst (v := -1) hx hb dL_acts_903 (by decide) ?_
            refine lv_icmp_ne (tgt := 911) hx hb dL_acts_904 (by decide) (fun c7093 => ?_) (fun c7093 => ?_)
            · rw [if_neg c7093] at h
              refine lv_iconst (v := 0) hx hb dL_acts_911 (by decide) ?_
              refine lv_goto (tgt := 965) hx hb dL_acts_912 (by decide) ?_
              cases h
            · rw [if_pos c7093] at h
              refine lv_iconst (v := 1) hx hb dL_acts_907 (by decide) ?_
              refine lv_goto (tgt := 965) hx hb dL_acts_908 (by decide) ?_
              cases h
              exact rZU C hr hlk dL_acts_965 hW hS rfl ⟨rfl, rfl⟩
          · rw [if_neg c7092] at h
            refine lv_iload hx hb dL_acts_896 (lv_at hl 3 rfl) ?_
            refine lv_if_ne (tgt := 915) hx hb dL_acts_898 (by decide) (fun c7094 => ?_) (fun c7094 => ?_)
            · rw [if_neg c7094] at h
              cases h
            · rw [if_pos c7094] at h
              refine lv_iload hx hb dL_acts_901 (lv_at hl 0 rfl) ?_
              refine lv_iconst (v := -1) hx hb dL_acts_903 (by decide) ?_
              refine lv_icmp_ne (tgt := 911) hx hb dL_acts_904 (by decide) (fun c7095 => ?_) (fun c7095 => ?_)
              · rw [if_neg c7095] at h
                refine lv_iconst (v := 0) hx hb dL_acts_911 (by decide) ?_
                refine lv_goto (tgt := 965) hx hb dL_acts_912 (by decide) ?_
                cases h
              · rw [if_pos c7095] at h
                refine lv_iconst (v := 1) hx hb dL_acts_907 (by decide) ?_
                refine lv_goto (tgt := 965) hx hb dL_acts_908 (by decide) ?_
                cases h
                exact rZU C hr hlk dL_acts_965 hW hS rfl ⟨rfl, rfl⟩
        · rw [if_neg c7088] at h
          refine lv_aload_n hx hb dL_acts_837 rfl (lv_at hl 2 rfl) ?_
          refine lv_iload hx hb dL_acts_838 (lv_at hl 6 rfl) ?_
          refine lv_iload hx hb dL_acts_840 (lv_at hl 0 rfl) ?_
          obtain ⟨r7096, Mw7097, h7098, h⟩ := bind2 h
          refine cBackC C.2.2.2.2.2.2.2.2 (runVU (As := [.int (k), .int (0)]) (rest := []) C hW hS (c_X10_tuneFor l g Mw7002 k 0 _ _ h7098) kV_X10_tuneFor ml_L_72 (by decide) tm_BF rfl rfl rfl hl.1 rfl (Nat.le_of_ble_eq_true rfl) ⟨Nat.le_of_ble_eq_true rfl, Nat.le_of_ble_eq_true rfl⟩ ⟨Nat.zero_le _, Nat.zero_le _⟩ dL_acts_842) hS (fun v0 w0 H locs hp hW hS hq => ?_)
          obtain ⟨rfl, rfl⟩ := hp
          refine lv_if_ne (tgt := 878) hx hb dL_acts_845 (by decide) (fun c7099 => ?_) (fun c7099 => ?_)
          · rw [if_neg c7099] at h
            refine lv_iconst (v := 0) hx hb dL_acts_878 (by decide) ?_
            refine lv_istore (lv' := [(8, .int (0)), (7, .int (0)), (6, .int (r7001)), (0, rf g (0)), (2, .int (v)), (3, .int (w)), (4, .int (b)), (5, .int (k))]) hx hb dL_acts_879 hl (by decide) rfl (fun ls hl => ?_)
            refine lv_aload_n hx hb dL_acts_881 rfl (lv_at hl 3 rfl) ?_
            refine lv_iload hx hb dL_acts_882 (lv_at hl 7 rfl) ?_
            refine lv_iload hx hb dL_acts_884 (lv_at hl 1 rfl) ?_
            obtain ⟨r7100, Mw7101, h7102, h⟩ := bind2 h
            refine cBackC C.2.2.2.2.2.2.2.2 (runVU (As := [.int (k), .int (0)]) (rest := []) C hW hS (c_X10_send l g Mw7097 k 0 _ _ h7102) kV_X10_send ml_L_69 (by decide) tm_BF rfl rfl rfl hl.1 rfl (Nat.le_of_ble_eq_true rfl) ⟨Nat.le_of_ble_eq_true rfl, Nat.le_of_ble_eq_true rfl⟩ ⟨Nat.zero_le _, Nat.zero_le _⟩ dL_acts_886) hS (fun v0 w0 H locs hp hW hS hq => ?_)
            obtain ⟨rfl, rfl⟩ := hp
            refine lv_istore (lv' := [(9, .int (r7100)), (8, .int (0)), (7, .int (0)), (6, .int (r7001)), (0, rf g (0)), (2, .int (v)), (3, .int (w)), (4, .int (b)), (5, .int (k))]) hx hb dL_acts_889 hl (by decide) rfl (fun ls hl => ?_)
            refine lv_iload hx hb dL_acts_891 (lv_at hl 7 rfl) ?_
            refine lv_if_eq (tgt := 901) hx hb dL_acts_893 (by decide) (fun c7103 => ?_) (fun c7103 => ?_)
            · rw [if_pos c7103] at h
              refine lv_iload hx hb dL_acts_901 (lv_at hl 0 rfl) ?_
              refine lv_iconst (v := -1) hx hb dL_acts_903 (by decide) ?_
              refine lv_icmp_ne (tgt := 911) hx hb dL_acts_904 (by decide) (fun c7104 => ?_) (fun c7104 => ?_)
              · rw [if_neg c7104] at h
                refine lv_iconst (v := 0) hx hb dL_acts_911 (by decide) ?_
                refine lv_goto (tgt := 965) hx hb dL_acts_912 (by decide) ?_
                cases h
              · rw [if_pos c7104] at h
                refine lv_iconst (v := 1) hx hb dL_acts_907 (by decide) ?_
                refine lv_goto (tgt := 965) hx hb dL_acts_908 (by decide) ?_
                cases h
                exact rZU C hr hlk dL_acts_965 hW hS rfl ⟨rfl, rfl⟩
            · rw [if_neg c7103] at h
              refine lv_iload hx hb dL_acts_896 (lv_at hl 3 rfl) ?_
              refine lv_if_ne (tgt := 915) hx hb dL_acts_898 (by decide) (fun c7105 => ?_) (fun c7105 => ?_)
              · rw [if_neg c7105] at h
                cases h
              · rw [if_pos c7105] at h
                refine lv_iload hx hb dL_acts_901 (lv_at hl 0 rfl) ?_
                refine lv_iconst (v := -1) hx hb dL_acts_903 (by decide) ?_
                refine lv_icmp_ne (tgt := 911) hx hb dL_acts_904 (by decide) (fun c7106 => ?_) (fun c7106 => ?_)
                · rw [if_neg c7106] at h
                  refine lv_iconst (v := 0) hx hb dL_acts_911 (by decide) ?_
                  refine lv_goto (tgt := 965) hx hb dL_acts_912 (by decide) ?_
                  cases h
                · rw [if_pos c7106] at h
                  refine lv_iconst (v := 1) hx hb dL_acts_907 (by decide) ?_
                  refine lv_goto (tgt := 965) hx hb dL_acts_908 (by decide) ?_
                  cases h
                  exact rZU C hr hlk dL_acts_965 hW hS rfl ⟨rfl, rfl⟩
          · rw [if_pos c7099] at h
            refine lv_aload_n hx hb dL_acts_848 rfl (lv_at hl 2 rfl) ?_
            refine lv_iload hx hb dL_acts_849 (lv_at hl 0 rfl) ?_
            refine lv_iconst (v := 3) hx hb dL_acts_851 (by decide) ?_
            obtain ⟨r7107, Mw7108, h7109, h⟩ := bind2 h
            refine cBackC C.2.2.2.2.2.2.2.2 (runVU (As := [.int (0), .int (3)]) (rest := []) C hW hS (c_X10_orderOf l g Mw7097 0 3 _ _ h7109) kV_X10_orderOf ml_L_29 (by decide) tm_BF rfl rfl rfl hl.1 rfl (Nat.le_of_ble_eq_true rfl) ⟨Nat.le_of_ble_eq_true rfl, Nat.le_of_ble_eq_true rfl⟩ ⟨Nat.zero_le _, Nat.zero_le _⟩ dL_acts_852) hS (fun v0 w0 H locs hp hW hS hq => ?_)
            obtain ⟨rfl, rfl⟩ := hp
            refine lv_if_ne (tgt := 878) hx hb dL_acts_855 (by decide) (fun c7110 => ?_) (fun c7110 => ?_)
            · rw [if_neg c7110] at h
              refine lv_iconst (v := 0) hx hb dL_acts_878 (by decide) ?_
              refine lv_istore (lv' := [(8, .int (0)), (7, .int (0)), (6, .int (r7001)), (0, rf g (0)), (2, .int (v)), (3, .int (w)), (4, .int (b)), (5, .int (k))]) hx hb dL_acts_879 hl (by decide) rfl (fun ls hl => ?_)
              refine lv_aload_n hx hb dL_acts_881 rfl (lv_at hl 3 rfl) ?_
              refine lv_iload hx hb dL_acts_882 (lv_at hl 7 rfl) ?_
              refine lv_iload hx hb dL_acts_884 (lv_at hl 1 rfl) ?_
              obtain ⟨r7111, Mw7112, h7113, h⟩ := bind2 h
              refine cBackC C.2.2.2.2.2.2.2.2 (runVU (As := [.int (k), .int (0)]) (rest := []) C hW hS (c_X10_send l g Mw7108 k 0 _ _ h7113) kV_X10_send ml_L_69 (by decide) tm_BF rfl rfl rfl hl.1 rfl (Nat.le_of_ble_eq_true rfl) ⟨Nat.le_of_ble_eq_true rfl, Nat.le_of_ble_eq_true rfl⟩ ⟨Nat.zero_le _, Nat.zero_le _⟩ dL_acts_886) hS (fun v0 w0 H locs hp hW hS hq => ?_)
              obtain ⟨rfl, rfl⟩ := hp
              refine lv_istore (lv' := [(9, .int (r7111)), (8, .int (0)), (7, .int (0)), (6, .int (r7001)), (0, rf g (0)), (2, .int (v)), (3, .int (w)), (4, .int (b)), (5, .int (k))]) hx hb dL_acts_889 hl (by decide) rfl (fun ls hl => ?_)
              refine lv_iload hx hb dL_acts_891 (lv_at hl 7 rfl) ?_
              refine lv_if_eq (tgt := 901) hx hb dL_acts_893 (by decide) (fun c7114 => ?_) (fun c7114 => ?_)
              · rw [if_pos c7114] at h
                refine lv_iload hx hb dL_acts_901 (lv_at hl 0 rfl) ?_
                refine lv_iconst (v := -1) hx hb dL_acts_903 (by decide) ?_
                refine lv_icmp_ne (tgt := 911) hx hb dL_acts_904 (by decide) (fun c7115 => ?_) (fun c7115 => ?_)
                · rw [if_neg c7115] at h
                  refine lv_iconst (v := 0) hx hb dL_acts_911 (by decide) ?_
                  refine lv_goto (tgt := 965) hx hb dL_acts_912 (by decide) ?_
                  cases h
                · rw [if_pos c7115] at h
                  refine lv_iconst (v := 1) hx hb dL_acts_907 (by decide) ?_
                  refine lv_goto (tgt := 965) hx hb dL_acts_908 (by decide) ?_
                  cases h
                  exact rZU C hr hlk dL_acts_965 hW hS rfl ⟨rfl, rfl⟩
              · rw [if_neg c7114] at h
                refine lv_iload hx hb dL_acts_896 (lv_at hl 3 rfl) ?_
                refine lv_if_ne (tgt := 915) hx hb dL_acts_898 (by decide) (fun c7116 => ?_) (fun c7116 => ?_)
                · rw [if_neg c7116] at h
                  cases h
                · rw [if_pos c7116] at h
                  refine lv_iload hx hb dL_acts_901 (lv_at hl 0 rfl) ?_
                  refine lv_iconst (v := -1) hx hb dL_acts_903 (by decide) ?_
                  refine lv_icmp_ne (tgt := 911) hx hb dL_acts_904 (by decide) (fun c7117 => ?_) (fun c7117 => ?_)
                  · rw [if_neg c7117] at h
                    refine lv_iconst (v := 0) hx hb dL_acts_911 (by decide) ?_
                    refine lv_goto (tgt := 965) hx hb dL_acts_912 (by decide) ?_
                    cases h
                  · rw [if_pos c7117] at h
                    refine lv_iconst (v := 1) hx hb dL_acts_907 (by decide) ?_
                    refine lv_goto (tgt := 965) hx hb dL_acts_908 (by decide) ?_
                    cases h
                    exact rZU C hr hlk dL_acts_965 hW hS rfl ⟨rfl, rfl⟩
            · rw [if_pos c7110] at h
              refine lv_aload_n hx hb dL_acts_858 rfl (lv_at hl 2 rfl) ?_
              refine lv_iload hx hb dL_acts_859 (lv_at hl 6 rfl) ?_
              refine lv_iconst (v := 2) hx hb dL_acts_861 (by decide) ?_
              obtain ⟨r7118, Mw7119, h7120, h⟩ := bind2 h
              refine cBackC C.2.2.2.2.2.2.2.2 (runVU (As := [.int (k), .int (2)]) (rest := []) C hW hS (c_X10_bell l g Mw7108 k 2 _ _ h7120) kV_X10_bell ml_L_26 (by decide) tm_BF rfl rfl rfl hl.1 rfl (Nat.le_of_ble_eq_true rfl) ⟨Nat.le_of_ble_eq_true rfl, Nat.le_of_ble_eq_true rfl⟩ ⟨Nat.zero_le _, Nat.zero_le _⟩ dL_acts_862) hS (fun v0 w0 H locs hp hW hS hq => ?_)
              obtain ⟨rfl, rfl⟩ := hp
              refine lv_aload_n hx hb dL_acts_865 rfl (lv_at hl 2 rfl) ?_
              refine lv_bipush (v := 26) hx hb dL_acts_866 (by decide) ?_
              obtain ⟨r7121, Mw7122, h7123, h⟩ := bind2 h
              refine cBackC C.2.2.2.2.2.2.2.2 (runVU (As := [.int (26)]) (rest := [.int (r7118)]) C hW hS (c_X10_count l g Mw7119 26 _ _ h7123) kV_X10_count ml_L_13 (by decide) tm_BF rfl rfl rfl hl.1 rfl (Nat.le_of_ble_eq_true rfl) ⟨Nat.le_of_ble_eq_true rfl, Nat.le_of_ble_eq_true rfl⟩ ⟨Nat.zero_le _, Nat.zero_le _⟩ dL_acts_868) hS (fun v0 w0 H locs hp hW hS hq => ?_)
              obtain ⟨rfl, rfl⟩ := hp
              refine lv_icmp_gt (tgt := 878) hx hb dL_acts_871 (by decide) (fun c7124 => ?_) (fun c7124 => ?_)
              · rw [if_pos c7124] at h
                refine lv_iconst (v := 0) hx hb dL_acts_878 (by decide) ?_
                refine lv_istore (lv' := [(8, .int (0)), (7, .int (0)), (6, .int (r7001)), (0, rf g (0)), (2, .int (v)), (3, .int (w)), (4, .int (b)), (5, .int (k))]) hx hb dL_acts_879 hl (by decide) rfl (fun ls hl => ?_)
                refine lv_aload_n hx hb dL_acts_881 rfl (lv_at hl 3 rfl) ?_
                refine lv_iload hx hb dL_acts_882 (lv_at hl 7 rfl) ?_
                refine lv_iload hx hb dL_acts_884 (lv_at hl 1 rfl) ?_
                obtain ⟨r7125, Mw7126, h7127, h⟩ := bind2 h
                refine cBackC C.2.2.2.2.2.2.2.2 (runVU (As := [.int (k), .int (0)]) (rest := []) C hW hS (c_X10_send l g Mw7122 k 0 _ _ h7127) kV_X10_send ml_L_69 (by decide) tm_BF rfl rfl rfl hl.1 rfl (Nat.le_of_ble_eq_true rfl) ⟨Nat.le_of_ble_eq_true rfl, Nat.le_of_ble_eq_true rfl⟩ ⟨Nat.zero_le _, Nat.zero_le _⟩ dL_acts_886) hS (fun v0 w0 H locs hp hW hS hq => ?_)
                obtain ⟨rfl, rfl⟩ := hp
                refine lv_istore (lv' := [(9, .int (r7125)), (8, .int (0)), (7, .int (0)), (6, .int (r7001)), (0, rf g (0)), (2, .int (v)), (3, .int (w)), (4, .int (b)), (5, .int (k))]) hx hb dL_acts_889 hl (by decide) rfl (fun ls hl => ?_)
                refine lv_iload hx hb dL_acts_891 (lv_at hl 7 rfl) ?_
                refine lv_if_eq (tgt := 901) hx hb dL_acts_893 (by decide) (fun c7128 => ?_) (fun c7128 => ?_)
                · rw [if_pos c7128] at h
                  refine lv_iload hx hb dL_acts_901 (lv_at hl 0 rfl) ?_
                  refine lv_iconst (v := -1) hx hb dL_acts_903 (by decide) ?_
                  refine lv_icmp_ne (tgt := 911) hx hb dL_acts_904 (by decide) (fun c7129 => ?_) (fun c7129 => ?_)
                  · rw [if_neg c7129] at h
                    refine lv_iconst (v := 0) hx hb dL_acts_911 (by decide) ?_
                    refine lv_goto (tgt := 965) hx hb dL_acts_912 (by decide) ?_
                    cases h
                  · rw [if_pos c7129] at h
                    refine lv_iconst (v := 1) hx hb dL_acts_907 (by decide) ?_
                    refine lv_goto (tgt := 965) hx hb dL_acts_908 (by decide) ?_
                    cases h
                    exact rZU C hr hlk dL_acts_965 hW hS rfl ⟨rfl, rfl⟩
                · rw [if_neg c7128] at h
                  refine lv_iload hx hb dL_acts_896 (lv_at hl 3 rfl) ?_
                  refine lv_if_ne (tgt := 915) hx hb dL_acts_898 (by decide) (fun c7130 => ?_) (fun c7130 => ?_)
                  · rw [if_neg c7130] at h
                    cases h
                  · rw [if_pos c7130] at h
                    refine lv_iload hx hb dL_acts_901 (lv_at hl 0 rfl) ?_
                    refine lv_iconst (v := -1) hx hb dL_acts_903 (by decide) ?_
                    refine lv_icmp_ne (tgt := 911) hx hb dL_acts_904 (by decide) (fun c7131 => ?_) (fun c7131 => ?_)
                    · rw [if_neg c7131] at h
                      refine lv_iconst (v := 0) hx hb dL_acts_911 (by decide) ?_
                      refine lv_goto (tgt := 965) hx hb dL_acts_912 (by decide) ?_
                      cases h
                    · rw [if_pos c7131] at h
                      refine lv_iconst (v := 1) hx hb dL_acts_907 (by decide) ?_
                      refine lv_goto (tgt := 965) hx hb dL_acts_908 (by decide) ?_
                      cases h
                      exact rZU C hr hlk dL_acts_965 hW hS rfl ⟨rfl, rfl⟩
              · rw [if_neg c7124] at h
                refine lv_iconst (v := 1) hx hb dL_acts_874 (by decide) ?_
                refine lv_goto (tgt := 879) hx hb dL_acts_875 (by decide) ?_
                refine lv_istore (lv' := [(8, .int (1)), (7, .int (0)), (6, .int (r7001)), (0, rf g (0)), (2, .int (v)), (3, .int (w)), (4, .int (b)), (5, .int (k))]) hx hb dL_acts_879 hl (by decide) rfl (fun ls hl => ?_)
                refine lv_aload_n hx hb dL_acts_881 rfl (lv_at hl 3 rfl) ?_
                refine lv_iload hx hb dL_acts_882 (lv_at hl 7 rfl) ?_
                refine lv_iload hx hb dL_acts_884 (lv_at hl 1 rfl) ?_
                obtain ⟨r7132, Mw7133, h7134, h⟩ := bind2 h
                refine cBackC C.2.2.2.2.2.2.2.2 (runVU (As := [.int (k), .int (0)]) (rest := []) C hW hS (c_X10_send l g Mw7122 k 0 _ _ h7134) kV_X10_send ml_L_69 (by decide) tm_BF rfl rfl rfl hl.1 rfl (Nat.le_of_ble_eq_true rfl) ⟨Nat.le_of_ble_eq_true rfl, Nat.le_of_ble_eq_true rfl⟩ ⟨Nat.zero_le _, Nat.zero_le _⟩ dL_acts_886) hS (fun v0 w0 H locs hp hW hS hq => ?_)
                obtain ⟨rfl, rfl⟩ := hp
                refine lv_istore (lv' := [(9, .int (r7132)), (8, .int (1)), (7, .int (0)), (6, .int (r7001)), (0, rf g (0)), (2, .int (v)), (3, .int (w)), (4, .int (b)), (5, .int (k))]) hx hb dL_acts_889 hl (by decide) rfl (fun ls hl => ?_)
                refine lv_iload hx hb dL_acts_891 (lv_at hl 7 rfl) ?_
                refine lv_if_eq (tgt := 901) hx hb dL_acts_893 (by decide) (fun c7135 => ?_) (fun c7135 => ?_)
                · rw [if_pos c7135] at h
                  refine lv_iload hx hb dL_acts_901 (lv_at hl 0 rfl) ?_
                  refine lv_iconst (v := -1) hx hb dL_acts_903 (by decide) ?_
                  refine lv_icmp_ne (tgt := 911) hx hb dL_acts_904 (by decide) (fun c7136 => ?_) (fun c7136 => ?_)
                  · rw [if_neg c7136] at h
                    refine lv_iconst (v := 0) hx hb dL_acts_911 (by decide) ?_
                    refine lv_goto (tgt := 965) hx hb dL_acts_912 (by decide) ?_
                    cases h
                  · rw [if_pos c7136] at h
                    refine lv_iconst (v := 1) hx hb dL_acts_907 (by decide) ?_
                    refine lv_goto (tgt := 965) hx hb dL_acts_908 (by decide) ?_
                    cases h
                    exact rZU C hr hlk dL_acts_965 hW hS rfl ⟨rfl, rfl⟩
                · rw [if_neg c7135] at h
                  refine lv_iload hx hb dL_acts_896 (lv_at hl 3 rfl) ?_
                  refine lv_if_ne (tgt := 915) hx hb dL_acts_898 (by decide) (fun c7137 => ?_) (fun c7137 => ?_)
                  · rw [if_neg c7137] at h
                    cases h
                  · rw [if_pos c7137] at h
                    refine lv_iload hx hb dL_acts_901 (lv_at hl 0 rfl) ?_
                    refine lv_iconst (v := -1) hx hb dL_acts_903 (by decide) ?_
                    refine lv_icmp_ne (tgt := 911) hx hb dL_acts_904 (by decide) (fun c7138 => ?_) (fun c7138 => ?_)
                    · rw [if_neg c7138] at h
                      refine lv_iconst (v := 0) hx hb dL_acts_911 (by decide) ?_
                      refine lv_goto (tgt := 965) hx hb dL_acts_912 (by decide) ?_
                      cases h
                    · rw [if_pos c7138] at h
                      refine lv_iconst (v := 1) hx hb dL_acts_907 (by decide) ?_
                      refine lv_goto (tgt := 965) hx hb dL_acts_908 (by decide) ?_
                      cases h
                      exact rZU C hr hlk dL_acts_965 hW hS rfl ⟨rfl, rfl⟩
set_option maxHeartbeats 4000000 in
set_option maxRecDepth 100000 in
theorem t_L_acts_666 (l : Launch) (g : GD)  {p : Program} {e : Env} {s : State} {m : MethodId} {av : Array Value} {below : List Frame} {meth : Method} {c : Code} (n : Nat) : ∀ (M : MM) (v : Int32) (w : Int32) (b : Int32) (k : Int32) (r : Int32) (M2 : MM), lp_L_acts_666 n M v w b k = some (r, M2) → CX p s m av c cL_acts 11 RL g → meth.sig.returnType = (some .boolean) → meth.locks = false → ∀ (H : Heap) (locs : List Loc), Wd g M H → sU g s H locs → ∀ ls : Array Slot, lv_has ls 11 [(0, rf g (0)), (2, .int (v)), (3, .int (w)), (4, .int (b)), (5, .int (k))] → W p l e (RM 5 128) s m av below meth c H locs 0 0 (MQ below (QU g (fun v w0 => v = .int r ∧ M2 = w0)) av s 0 0 (AU g)) (F0 m 666 ls []) := by
  induction n with
  | zero => intro M v w b k r M2 h; cases h
  | succ n ih0 =>
    intro M v w b k r M2 h C hr hlk H locs hW hS ls hl
    have ih : ∀ (M : MM) (v : Int32) (w : Int32) (b : Int32) (k : Int32), lp_L_acts_666 n M v w b k = some (r, M2) → ∀ (H : Heap) (locs : List Loc), Wd g M H → sU g s H locs → ∀ ls : Array Slot, lv_has ls 11 [(0, rf g (0)), (2, .int (v)), (3, .int (w)), (4, .int (b)), (5, .int (k))] → W p l e (RM 5 128) s m av below meth c H locs 0 0 (MQ below (QU g (fun v w0 => v = .int r ∧ M2 = w0)) av s 0 0 (AU g)) (F0 m 666 ls []) := fun M v w b k h H locs hW hS ls hl => ih0 M v w b k r M2 h C hr hlk H locs hW hS ls hl
    unfold lp_L_acts_666 at h
    try dsimp only at h
    have hx := C.1
    have hb := C.2.1
    have hts := C.2.2.2.2.1
    refine lv_aload_n hx hb dL_acts_666 rfl (lv_at hl 0 rfl) ?_
    refine lv_iconst (v := 5) hx hb dL_acts_667 (by decide) ?_
    obtain ⟨r6001, Mw6002, h6003, h⟩ := bind2 h
    refine cBackC C.2.2.2.2.2.2.2.2 (runVU (As := [.int (5)]) (rest := []) C hW hS (c_X10_count l g M 5 _ _ h6003) kV_X10_count ml_L_13 (by decide) tm_BF rfl rfl rfl hl.1 rfl (Nat.le_of_ble_eq_true rfl) ⟨Nat.le_of_ble_eq_true rfl, Nat.le_of_ble_eq_true rfl⟩ ⟨Nat.zero_le _, Nat.zero_le _⟩ dL_acts_668) hS (fun v0 w0 H locs hp hW hS hq => ?_)
    obtain ⟨rfl, rfl⟩ := hp
    refine lv_istore (lv' := [(6, .int (r6001)), (0, rf g (0)), (2, .int (v)), (3, .int (w)), (4, .int (b)), (5, .int (k))]) hx hb dL_acts_671 hl (by decide) rfl (fun ls hl => ?_)
    refine lv_iload hx hb dL_acts_673 (lv_at hl 4 rfl) ?_
    refine lv_if_ne (tgt := 682) hx hb dL_acts_675 (by decide) (fun c6004 => ?_) (fun c6004 => ?_)
    · rw [if_neg c6004] at h
      refine lv_aload_n hx hb dL_acts_682 rfl (lv_at hl 1 rfl) ?_
      refine lv_iload hx hb dL_acts_683 (lv_at hl 5 rfl) ?_
      refine lv_iconst (v := 4) hx hb dL_acts_685 (by decide) ?_
      obtain ⟨r6005, Mw6006, h6007, h⟩ := bind2 h
      refine cBackC C.2.2.2.2.2.2.2.2 (runVU (As := [.int (k), .int (4)]) (rest := []) C hW hS (c_X10_bell l g Mw6002 k 4 _ _ h6007) kV_X10_bell ml_L_26 (by decide) tm_BF rfl rfl rfl hl.1 rfl (Nat.le_of_ble_eq_true rfl) ⟨Nat.le_of_ble_eq_true rfl, Nat.le_of_ble_eq_true rfl⟩ ⟨Nat.zero_le _, Nat.zero_le _⟩ dL_acts_686) hS (fun v0 w0 H locs hp hW hS hq => ?_)
      obtain ⟨rfl, rfl⟩ := hp
      refine lv_istore (lv' := [(7, .int (r6005)), (6, .int (r6001)), (0, rf g (0)), (2, .int (v)), (3, .int (w)), (4, .int (b)), (5, .int (k))]) hx hb dL_acts_689 hl (by decide) rfl (fun ls hl => ?_)
      refine lv_iload hx hb dL_acts_691 (lv_at hl 5 rfl) ?_
      refine lv_if_ne (tgt := 702) hx hb dL_acts_693 (by decide) (fun c6008 => ?_) (fun c6008 => ?_)
      · rw [if_neg c6008] at h
        refine lv_aload_n hx hb dL_acts_702 rfl (lv_at hl 2 rfl) ?_
        refine lv_iload hx hb dL_acts_703 (lv_at hl 6 rfl) ?_
        refine lv_iconst (v := 5) hx hb dL_acts_705 (by decide) ?_
        obtain ⟨r6009, Mw6010, h6011, h⟩ := bind2 h
        refine cBackC C.2.2.2.2.2.2.2.2 (runVU (As := [.int (k), .int (5)]) (rest := []) C hW hS (c_X10_bell l g Mw6006 k 5 _ _ h6011) kV_X10_bell ml_L_26 (by decide) tm_BF rfl rfl rfl hl.1 rfl (Nat.le_of_ble_eq_true rfl) ⟨Nat.le_of_ble_eq_true rfl, Nat.le_of_ble_eq_true rfl⟩ ⟨Nat.zero_le _, Nat.zero_le _⟩ dL_acts_706) hS (fun v0 w0 H locs hp hW hS hq => ?_)
        obtain ⟨rfl, rfl⟩ := hp
        refine lv_iload_n hx hb dL_acts_709 rfl (lv_at hl 4 rfl) ?_
        refine lv_bipush (v := 60) hx hb dL_acts_710 (by decide) ?_
        obtain ⟨r6012, Mw6013, h6014, h⟩ := bind2 h
        refine cBackL C.2.2.2.2.2.2.2.2 (runSU (As := [.int (w), .int (60)]) (rest := [.int (r6009)]) C hW hS (c_L_low l g Mw6010 w 60 _ _ h6014) kS_L_low ml_L_96 rfl hl.1 rfl (Nat.le_of_ble_eq_true rfl) ⟨Nat.le_of_ble_eq_true rfl, Nat.le_of_ble_eq_true rfl⟩ ⟨Nat.zero_le _, Nat.zero_le _⟩ dL_acts_712) hS (fun v0 w0 H locs hp hW hS => ?_)
        obtain ⟨rfl, rfl⟩ := hp
        refine lv_isub hx hb dL_acts_715 ?_
        refine lv_istore (lv' := [(8, .int ((r6009) - (r6012))), (7, .int (r6005)), (6, .int (r6001)), (0, rf g (0)), (2, .int (v)), (3, .int (w)), (4, .int (b)), (5, .int (k))]) hx hb dL_acts_716 hl (by decide) rfl (fun ls hl => ?_)
        refine lv_aload_n hx hb dL_acts_718 rfl (lv_at hl 3 rfl) ?_
        refine lv_iload hx hb dL_acts_719 (lv_at hl 1 rfl) ?_
        refine lv_iload hx hb dL_acts_721 (lv_at hl 0 rfl) ?_
        refine lv_iconst (v := 1) hx hb dL_acts_723 (by decide) ?_
        refine diaT (P := (1 : Int32) ≤ ((r6009) - (r6012) : Int32)) (A := (r6009) - (r6012)) (B := 1) (F := fun z9 => W p l e (RM 5 128) s m av below meth c H locs 0 0 (MQ below (QU g (fun v w0 => v = .int r ∧ M2 = w0)) av s 0 0 (AU g)) (F0 m 733 ls [.int z9, .int (r6005), rf g (0)])) (fun a9 b9 => lv_icmp_ge (tgt := 731) hx hb dL_acts_724 (by decide) a9 b9) (fun k9 => ?_) (fun k9 => ?_) ?_
        · refine lv_iload hx hb dL_acts_731 (lv_at hl 0 rfl) ?_
          exact k9
        · refine lv_iconst (v := 1) hx hb dL_acts_727 (by decide) ?_
          refine lv_goto (tgt := 733) hx hb dL_acts_728 (by decide) ?_
          exact k9
        refine lv_iload_n hx hb dL_acts_733 rfl (lv_at hl 5 rfl) ?_
        refine lv_bipush (v := 6) hx hb dL_acts_734 (by decide) ?_
        refine lv_ishr hx hb dL_acts_736 ?_
        refine lv_bipush (v := 20) hx hb dL_acts_737 (by decide) ?_
        obtain ⟨r6015, Mw6016, h6017, h⟩ := bind2 h
        refine cBackL C.2.2.2.2.2.2.2.2 (runSU (As := [.int ((w) >>> ((6) &&& 31)), .int (20)]) (rest := [.int (if (1 : Int32) ≤ ((r6009) - (r6012) : Int32) then ((r6009) - (r6012) : Int32) else (1 : Int32)), .int (r6005), rf g (0)]) C hW hS (c_L_low l g Mw6013 ((w) >>> ((6) &&& 31)) 20 _ _ h6017) kS_L_low ml_L_96 rfl hl.1 rfl (Nat.le_of_ble_eq_true rfl) ⟨Nat.le_of_ble_eq_true rfl, Nat.le_of_ble_eq_true rfl⟩ ⟨Nat.zero_le _, Nat.zero_le _⟩ dL_acts_739) hS (fun v0 w0 H locs hp hW hS => ?_)
        obtain ⟨rfl, rfl⟩ := hp
        obtain ⟨r6018, Mw6019, h6020, h⟩ := bind2 h
        refine cBackC C.2.2.2.2.2.2.2.2 (runVU (As := [.int (r6005), .int (if (1 : Int32) ≤ ((r6009) - (r6012) : Int32) then ((r6009) - (r6012) : Int32) else (1 : Int32)), .int (r6015)]) (rest := []) C hW hS (c_X10_order l g Mw6016 r6005 (if (1 : Int32) ≤ ((r6009) - (r6012) : Int32) then ((r6009) - (r6012) : Int32) else (1 : Int32)) r6015 _ _ h6020) kV_X10_order ml_L_62 (by decide) tm_BF rfl rfl rfl hl.1 rfl (Nat.le_of_ble_eq_true rfl) ⟨Nat.le_of_ble_eq_true rfl, Nat.le_of_ble_eq_true rfl⟩ ⟨Nat.zero_le _, Nat.zero_le _⟩ dL_acts_742) hS (fun v0 w0 H locs hp hW hS hq => ?_)
        obtain ⟨rfl, rfl⟩ := hp
        refine lv_istore (lv' := [(9, .int (r6018)), (8, .int ((r6009) - (r6012))), (7, .int (r6005)), (6, .int (r6001)), (0, rf g (0)), (2, .int (v)), (3, .int (w)), (4, .int (b)), (5, .int (k))]) hx hb dL_acts_745 hl (by decide) rfl (fun ls hl => ?_)
        refine lv_iload hx hb dL_acts_747 (lv_at hl 0 rfl) ?_
        refine lv_bipush (v := -3) hx hb dL_acts_749 (by decide) ?_
        refine lv_icmp_ne (tgt := 780) hx hb dL_acts_751 (by decide) (fun c6021 => ?_) (fun c6021 => ?_)
        · rw [if_neg c6021] at h
          refine lv_iload hx hb dL_acts_780 (lv_at hl 0 rfl) ?_
          refine lv_iload hx hb dL_acts_782 (lv_at hl 3 rfl) ?_
          refine lv_icmp_ne (tgt := 801) hx hb dL_acts_784 (by decide) (fun c6022 => ?_) (fun c6022 => ?_)
          · rw [if_neg c6022] at h
            refine lv_iconst (v := 0) hx hb dL_acts_801 (by decide) ?_
            cases h
          · rw [if_pos c6022] at h
            refine lv_aload_n hx hb dL_acts_787 rfl (lv_at hl 4 rfl) ?_
            refine lv_iload hx hb dL_acts_788 (lv_at hl 3 rfl) ?_
            refine lv_iconst (v := 3) hx hb dL_acts_790 (by decide) ?_
            obtain ⟨r6023, Mw6024, h6025, h⟩ := bind2 h
            refine cBackC C.2.2.2.2.2.2.2.2 (runVU (As := [.int (r6001), .int (3)]) (rest := []) C hW hS (c_X10_orderOf l g Mw6019 r6001 3 _ _ h6025) kV_X10_orderOf ml_L_29 (by decide) tm_BF rfl rfl rfl hl.1 rfl (Nat.le_of_ble_eq_true rfl) ⟨Nat.le_of_ble_eq_true rfl, Nat.le_of_ble_eq_true rfl⟩ ⟨Nat.zero_le _, Nat.zero_le _⟩ dL_acts_791) hS (fun v0 w0 H locs hp hW hS hq => ?_)
            obtain ⟨rfl, rfl⟩ := hp
            refine lv_if_ne (tgt := 801) hx hb dL_acts_794 (by decide) (fun c6026 => ?_) (fun c6026 => ?_)
            · rw [if_neg c6026] at h
              refine lv_iconst (v := 0) hx hb dL_acts_801 (by decide) ?_
              cases h
            · rw [if_pos c6026] at h
              refine lv_iconst (v := 1) hx hb dL_acts_797 (by decide) ?_
              refine lv_goto (tgt := 802) hx hb dL_acts_798 (by decide) ?_
              cases h
              exact rZU C hr hlk dL_acts_802 hW hS rfl ⟨rfl, rfl⟩
        · rw [if_pos c6021] at h
          refine lv_aload_n hx hb dL_acts_754 rfl (lv_at hl 4 rfl) ?_
          refine lv_bipush (v := 6) hx hb dL_acts_755 (by decide) ?_
          obtain ⟨r6027, Mw6028, h6029, h⟩ := bind2 h
          refine cBackC C.2.2.2.2.2.2.2.2 (runVU (As := [.int (6)]) (rest := []) C hW hS (c_X10_count l g Mw6019 6 _ _ h6029) kV_X10_count ml_L_13 (by decide) tm_BF rfl rfl rfl hl.1 rfl (Nat.le_of_ble_eq_true rfl) ⟨Nat.le_of_ble_eq_true rfl, Nat.le_of_ble_eq_true rfl⟩ ⟨Nat.zero_le _, Nat.zero_le _⟩ dL_acts_757) hS (fun v0 w0 H locs hp hW hS hq => ?_)
          obtain ⟨rfl, rfl⟩ := hp
          refine lv_bipush (v := 8) hx hb dL_acts_760 (by decide) ?_
          refine lv_icmp_eq (tgt := 772) hx hb dL_acts_762 (by decide) (fun c6030 => ?_) (fun c6030 => ?_)
          · rw [if_pos c6030] at h
            refine lv_iconst (v := 1) hx hb dL_acts_772 (by decide) ?_
            refine lv_goto (tgt := 802) hx hb dL_acts_773 (by decide) ?_
            cases h
            exact rZU C hr hlk dL_acts_802 hW hS rfl ⟨rfl, rfl⟩
          · rw [if_neg c6030] at h
            refine lv_iload hx hb dL_acts_765 (lv_at hl 3 rfl) ?_
            refine lv_bipush (v := 100) hx hb dL_acts_767 (by decide) ?_
            refine lv_icmp_ne (tgt := 776) hx hb dL_acts_769 (by decide) (fun c6031 => ?_) (fun c6031 => ?_)
            · rw [if_neg c6031] at h
              refine lv_iconst (v := 0) hx hb dL_acts_776 (by decide) ?_
              refine lv_goto (tgt := 802) hx hb dL_acts_777 (by decide) ?_
              cases h
            · rw [if_pos c6031] at h
              refine lv_iconst (v := 1) hx hb dL_acts_772 (by decide) ?_
              refine lv_goto (tgt := 802) hx hb dL_acts_773 (by decide) ?_
              cases h
              exact rZU C hr hlk dL_acts_802 hW hS rfl ⟨rfl, rfl⟩
      · rw [if_pos c6008] at h
        cases h
    · rw [if_pos c6004] at h
      refine lv_iconst (v := 0) hx hb dL_acts_678 (by decide) ?_
      refine lv_goto (tgt := 689) hx hb dL_acts_679 (by decide) ?_
      refine lv_istore (lv' := [(7, .int (0)), (6, .int (r6001)), (0, rf g (0)), (2, .int (v)), (3, .int (w)), (4, .int (b)), (5, .int (k))]) hx hb dL_acts_689 hl (by decide) rfl (fun ls hl => ?_)
      refine lv_iload hx hb dL_acts_691 (lv_at hl 5 rfl) ?_
      refine lv_if_ne (tgt := 702) hx hb dL_acts_693 (by decide) (fun c6032 => ?_) (fun c6032 => ?_)
      · rw [if_neg c6032] at h
        cases h
      · rw [if_pos c6032] at h
        refine lv_sipush (v := 800) hx hb dL_acts_696 (by decide) ?_
        refine lv_goto (tgt := 716) hx hb dL_acts_699 (by decide) ?_
        refine lv_istore (lv' := [(8, .int (800)), (7, .int (0)), (6, .int (r6001)), (0, rf g (0)), (2, .int (v)), (3, .int (w)), (4, .int (b)), (5, .int (k))]) hx hb dL_acts_716 hl (by decide) rfl (fun ls hl => ?_)
        refine lv_aload_n hx hb dL_acts_718 rfl (lv_at hl 3 rfl) ?_
        refine lv_iload hx hb dL_acts_719 (lv_at hl 1 rfl) ?_
        refine lv_iload hx hb dL_acts_721 (lv_at hl 0 rfl) ?_
        refine lv_iconst (v := 1) hx hb dL_acts_723 (by decide) ?_
        refine lv_icmp_ge (tgt := 731) hx hb dL_acts_724 (by decide) (fun c6033 => ?_) (fun c6033 => ?_)
        · rw [if_pos c6033] at h
          refine lv_iload hx hb dL_acts_731 (lv_at hl 0 rfl) ?_
          refine lv_iload_n hx hb dL_acts_733 rfl (lv_at hl 5 rfl) ?_
          refine lv_bipush (v := 6) hx hb dL_acts_734 (by decide) ?_
          refine lv_ishr hx hb dL_acts_736 ?_
          refine lv_bipush (v := 20) hx hb dL_acts_737 (by decide) ?_
          obtain ⟨r6034, Mw6035, h6036, h⟩ := bind2 h
          refine cBackL C.2.2.2.2.2.2.2.2 (runSU (As := [.int ((w) >>> ((6) &&& 31)), .int (20)]) (rest := [.int (800), .int (0), rf g (0)]) C hW hS (c_L_low l g Mw6002 ((w) >>> ((6) &&& 31)) 20 _ _ h6036) kS_L_low ml_L_96 rfl hl.1 rfl (Nat.le_of_ble_eq_true rfl) ⟨Nat.le_of_ble_eq_true rfl, Nat.le_of_ble_eq_true rfl⟩ ⟨Nat.zero_le _, Nat.zero_le _⟩ dL_acts_739) hS (fun v0 w0 H locs hp hW hS => ?_)
          obtain ⟨rfl, rfl⟩ := hp
          obtain ⟨r6037, Mw6038, h6039, h⟩ := bind2 h
          refine cBackC C.2.2.2.2.2.2.2.2 (runVU (As := [.int (0), .int (800), .int (r6034)]) (rest := []) C hW hS (c_X10_order l g Mw6035 0 800 r6034 _ _ h6039) kV_X10_order ml_L_62 (by decide) tm_BF rfl rfl rfl hl.1 rfl (Nat.le_of_ble_eq_true rfl) ⟨Nat.le_of_ble_eq_true rfl, Nat.le_of_ble_eq_true rfl⟩ ⟨Nat.zero_le _, Nat.zero_le _⟩ dL_acts_742) hS (fun v0 w0 H locs hp hW hS hq => ?_)
          obtain ⟨rfl, rfl⟩ := hp
          refine lv_istore (lv' := [(9, .int (r6037)), (8, .int (800)), (7, .int (0)), (6, .int (r6001)), (0, rf g (0)), (2, .int (v)), (3, .int (w)), (4, .int (b)), (5, .int (k))]) hx hb dL_acts_745 hl (by decide) rfl (fun ls hl => ?_)
          refine lv_iload hx hb dL_acts_747 (lv_at hl 0 rfl) ?_
          refine lv_bipush (v := -3) hx hb dL_acts_749 (by decide) ?_
          refine lv_icmp_ne (tgt := 780) hx hb dL_acts_751 (by decide) (fun c6040 => ?_) (fun c6040 => ?_)
          · rw [if_neg c6040] at h
            refine lv_iload hx hb dL_acts_780 (lv_at hl 0 rfl) ?_
            refine lv_iload hx hb dL_acts_782 (lv_at hl 3 rfl) ?_
            refine lv_icmp_ne (tgt := 801) hx hb dL_acts_784 (by decide) (fun c6041 => ?_) (fun c6041 => ?_)
            · rw [if_neg c6041] at h
              refine lv_iconst (v := 0) hx hb dL_acts_801 (by decide) ?_
              cases h
            · rw [if_pos c6041] at h
              refine lv_aload_n hx hb dL_acts_787 rfl (lv_at hl 4 rfl) ?_
              refine lv_iload hx hb dL_acts_788 (lv_at hl 3 rfl) ?_
              refine lv_iconst (v := 3) hx hb dL_acts_790 (by decide) ?_
              obtain ⟨r6042, Mw6043, h6044, h⟩ := bind2 h
              refine cBackC C.2.2.2.2.2.2.2.2 (runVU (As := [.int (r6001), .int (3)]) (rest := []) C hW hS (c_X10_orderOf l g Mw6038 r6001 3 _ _ h6044) kV_X10_orderOf ml_L_29 (by decide) tm_BF rfl rfl rfl hl.1 rfl (Nat.le_of_ble_eq_true rfl) ⟨Nat.le_of_ble_eq_true rfl, Nat.le_of_ble_eq_true rfl⟩ ⟨Nat.zero_le _, Nat.zero_le _⟩ dL_acts_791) hS (fun v0 w0 H locs hp hW hS hq => ?_)
              obtain ⟨rfl, rfl⟩ := hp
              refine lv_if_ne (tgt := 801) hx hb dL_acts_794 (by decide) (fun c6045 => ?_) (fun c6045 => ?_)
              · rw [if_neg c6045] at h
                refine lv_iconst (v := 0) hx hb dL_acts_801 (by decide) ?_
                cases h
              · rw [if_pos c6045] at h
                refine lv_iconst (v := 1) hx hb dL_acts_797 (by decide) ?_
                refine lv_goto (tgt := 802) hx hb dL_acts_798 (by decide) ?_
                cases h
                exact rZU C hr hlk dL_acts_802 hW hS rfl ⟨rfl, rfl⟩
          · rw [if_pos c6040] at h
            refine lv_aload_n hx hb dL_acts_754 rfl (lv_at hl 4 rfl) ?_
            refine lv_bipush (v := 6) hx hb dL_acts_755 (by decide) ?_
            obtain ⟨r6046, Mw6047, h6048, h⟩ := bind2 h
            refine cBackC C.2.2.2.2.2.2.2.2 (runVU (As := [.int (6)]) (rest := []) C hW hS (c_X10_count l g Mw6038 6 _ _ h6048) kV_X10_count ml_L_13 (by decide) tm_BF rfl rfl rfl hl.1 rfl (Nat.le_of_ble_eq_true rfl) ⟨Nat.le_of_ble_eq_true rfl, Nat.le_of_ble_eq_true rfl⟩ ⟨Nat.zero_le _, Nat.zero_le _⟩ dL_acts_757) hS (fun v0 w0 H locs hp hW hS hq => ?_)
            obtain ⟨rfl, rfl⟩ := hp
            refine lv_bipush (v := 8) hx hb dL_acts_760 (by decide) ?_
            refine lv_icmp_eq (tgt := 772) hx hb dL_acts_762 (by decide) (fun c6049 => ?_) (fun c6049 => ?_)
            · rw [if_pos c6049] at h
              refine lv_iconst (v := 1) hx hb dL_acts_772 (by decide) ?_
              refine lv_goto (tgt := 802) hx hb dL_acts_773 (by decide) ?_
              cases h
              exact rZU C hr hlk dL_acts_802 hW hS rfl ⟨rfl, rfl⟩
            · rw [if_neg c6049] at h
              refine lv_iload hx hb dL_acts_765 (lv_at hl 3 rfl) ?_
              refine lv_bipush (v := 100) hx hb dL_acts_767 (by decide) ?_
              refine lv_icmp_ne (tgt := 776) hx hb dL_acts_769 (by decide) (fun c6050 => ?_) (fun c6050 => ?_)
              · rw [if_neg c6050] at h
                refine lv_iconst (v := 0) hx hb dL_acts_776 (by decide) ?_
                refine lv_goto (tgt := 802) hx hb dL_acts_777 (by decide) ?_
                cases h
              · rw [if_pos c6050] at h
                refine lv_iconst (v := 1) hx hb dL_acts_772 (by decide) ?_
                refine lv_goto (tgt := 802) hx hb dL_acts_773 (by decide) ?_
                cases h
                exact rZU C hr hlk dL_acts_802 hW hS rfl ⟨rfl, rfl⟩
        · rw [if_neg c6033] at h
          cases h
set_option maxHeartbeats 4000000 in
set_option maxRecDepth 100000 in
theorem t_L_acts_578 (l : Launch) (g : GD)  {p : Program} {e : Env} {s : State} {m : MethodId} {av : Array Value} {below : List Frame} {meth : Method} {c : Code} (n : Nat) : ∀ (M : MM) (v : Int32) (w : Int32) (b : Int32) (k : Int32) (r : Int32) (M2 : MM), lp_L_acts_578 n M v w b k = some (r, M2) → CX p s m av c cL_acts 11 RL g → meth.sig.returnType = (some .boolean) → meth.locks = false → ∀ (H : Heap) (locs : List Loc), Wd g M H → sU g s H locs → ∀ ls : Array Slot, lv_has ls 11 [(0, rf g (0)), (2, .int (v)), (3, .int (w)), (4, .int (b)), (5, .int (k))] → W p l e (RM 5 128) s m av below meth c H locs 0 0 (MQ below (QU g (fun v w0 => v = .int r ∧ M2 = w0)) av s 0 0 (AU g)) (F0 m 578 ls []) := by
  induction n with
  | zero => intro M v w b k r M2 h; cases h
  | succ n ih0 =>
    intro M v w b k r M2 h C hr hlk H locs hW hS ls hl
    have ih : ∀ (M : MM) (v : Int32) (w : Int32) (b : Int32) (k : Int32), lp_L_acts_578 n M v w b k = some (r, M2) → ∀ (H : Heap) (locs : List Loc), Wd g M H → sU g s H locs → ∀ ls : Array Slot, lv_has ls 11 [(0, rf g (0)), (2, .int (v)), (3, .int (w)), (4, .int (b)), (5, .int (k))] → W p l e (RM 5 128) s m av below meth c H locs 0 0 (MQ below (QU g (fun v w0 => v = .int r ∧ M2 = w0)) av s 0 0 (AU g)) (F0 m 578 ls []) := fun M v w b k h H locs hW hS ls hl => ih0 M v w b k r M2 h C hr hlk H locs hW hS ls hl
    unfold lp_L_acts_578 at h
    try dsimp only at h
    have hx := C.1
    have hb := C.2.1
    have hts := C.2.2.2.2.1
    refine lv_iload hx hb dL_acts_578 (lv_at hl 3 rfl) ?_
    refine lv_if_eq (tgt := 595) hx hb dL_acts_580 (by decide) (fun c5001 => ?_) (fun c5001 => ?_)
    · rw [if_pos c5001] at h
      refine lv_bipush (v := -2) hx hb dL_acts_595 (by decide) ?_
      refine lv_goto (tgt := 607) hx hb dL_acts_597 (by decide) ?_
      refine lv_istore (lv' := [(6, .int (-2)), (0, rf g (0)), (2, .int (v)), (3, .int (w)), (4, .int (b)), (5, .int (k))]) hx hb dL_acts_607 hl (by decide) rfl (fun ls hl => ?_)
      refine lv_aload_n hx hb dL_acts_609 rfl (lv_at hl 1 rfl) ?_
      refine lv_iload hx hb dL_acts_610 (lv_at hl 5 rfl) ?_
      obtain ⟨r5002, Mw5003, h5004, h⟩ := bind2 h
      refine cBackC C.2.2.2.2.2.2.2.2 (runVU (As := [.int (k)]) (rest := []) C hW hS (c_X10_smash l g M k _ _ h5004) kV_X10_smash ml_L_59 (by decide) tm_BF rfl rfl rfl hl.1 rfl (Nat.le_of_ble_eq_true rfl) ⟨Nat.le_of_ble_eq_true rfl, Nat.le_of_ble_eq_true rfl⟩ ⟨Nat.zero_le _, Nat.zero_le _⟩ dL_acts_612) hS (fun v0 w0 H locs hp hW hS hq => ?_)
      obtain ⟨rfl, rfl⟩ := hp
      refine lv_istore (lv' := [(7, .int (r5002)), (6, .int (-2)), (0, rf g (0)), (2, .int (v)), (3, .int (w)), (4, .int (b)), (5, .int (k))]) hx hb dL_acts_615 hl (by decide) rfl (fun ls hl => ?_)
      refine lv_iload hx hb dL_acts_617 (lv_at hl 5 rfl) ?_
      refine lv_if_ne (tgt := 636) hx hb dL_acts_619 (by decide) (fun c5005 => ?_) (fun c5005 => ?_)
      · rw [if_neg c5005] at h
        cases h
      · rw [if_pos c5005] at h
        refine lv_iload hx hb dL_acts_622 (lv_at hl 0 rfl) ?_
        refine lv_iconst (v := -1) hx hb dL_acts_624 (by decide) ?_
        refine lv_icmp_ne (tgt := 632) hx hb dL_acts_625 (by decide) (fun c5006 => ?_) (fun c5006 => ?_)
        · rw [if_neg c5006] at h
          refine lv_iconst (v := 0) hx hb dL_acts_632 (by decide) ?_
          refine lv_goto (tgt := 665) hx hb dL_acts_633 (by decide) ?_
          cases h
        · rw [if_pos c5006] at h
          refine lv_iconst (v := 1) hx hb dL_acts_628 (by decide) ?_
          refine lv_goto (tgt := 665) hx hb dL_acts_629 (by decide) ?_
          cases h
          exact rZU C hr hlk dL_acts_665 hW hS rfl ⟨rfl, rfl⟩
    · rw [if_neg c5001] at h
      refine lv_aload_n hx hb dL_acts_583 rfl (lv_at hl 0 rfl) ?_
      refine lv_iload hx hb dL_acts_584 (lv_at hl 4 rfl) ?_
      refine lv_bipush (v := 8) hx hb dL_acts_586 (by decide) ?_
      obtain ⟨r5007, Mw5008, h5009, h⟩ := bind2 h
      refine cBackC C.2.2.2.2.2.2.2.2 (runVU (As := [.int (k), .int (8)]) (rest := []) C hW hS (c_X10_bell l g M k 8 _ _ h5009) kV_X10_bell ml_L_26 (by decide) tm_BF rfl rfl rfl hl.1 rfl (Nat.le_of_ble_eq_true rfl) ⟨Nat.le_of_ble_eq_true rfl, Nat.le_of_ble_eq_true rfl⟩ ⟨Nat.zero_le _, Nat.zero_le _⟩ dL_acts_588) hS (fun v0 w0 H locs hp hW hS hq => ?_)
      obtain ⟨rfl, rfl⟩ := hp
      refine lv_iconst (v := 1) hx hb dL_acts_591 (by decide) ?_
      refine lv_icmp_le (tgt := 600) hx hb dL_acts_592 (by decide) (fun c5010 => ?_) (fun c5010 => ?_)
      · rw [if_pos c5010] at h
        refine lv_aload_n hx hb dL_acts_600 rfl (lv_at hl 0 rfl) ?_
        refine lv_iload hx hb dL_acts_601 (lv_at hl 4 rfl) ?_
        refine lv_iconst (v := 2) hx hb dL_acts_603 (by decide) ?_
        obtain ⟨r5011, Mw5012, h5013, h⟩ := bind2 h
        refine cBackC C.2.2.2.2.2.2.2.2 (runVU (As := [.int (k), .int (2)]) (rest := []) C hW hS (c_X10_bell l g Mw5008 k 2 _ _ h5013) kV_X10_bell ml_L_26 (by decide) tm_BF rfl rfl rfl hl.1 rfl (Nat.le_of_ble_eq_true rfl) ⟨Nat.le_of_ble_eq_true rfl, Nat.le_of_ble_eq_true rfl⟩ ⟨Nat.zero_le _, Nat.zero_le _⟩ dL_acts_604) hS (fun v0 w0 H locs hp hW hS hq => ?_)
        obtain ⟨rfl, rfl⟩ := hp
        refine lv_istore (lv' := [(6, .int (r5011)), (0, rf g (0)), (2, .int (v)), (3, .int (w)), (4, .int (b)), (5, .int (k))]) hx hb dL_acts_607 hl (by decide) rfl (fun ls hl => ?_)
        refine lv_aload_n hx hb dL_acts_609 rfl (lv_at hl 1 rfl) ?_
        refine lv_iload hx hb dL_acts_610 (lv_at hl 5 rfl) ?_
        obtain ⟨r5014, Mw5015, h5016, h⟩ := bind2 h
        refine cBackC C.2.2.2.2.2.2.2.2 (runVU (As := [.int (k)]) (rest := []) C hW hS (c_X10_smash l g Mw5012 k _ _ h5016) kV_X10_smash ml_L_59 (by decide) tm_BF rfl rfl rfl hl.1 rfl (Nat.le_of_ble_eq_true rfl) ⟨Nat.le_of_ble_eq_true rfl, Nat.le_of_ble_eq_true rfl⟩ ⟨Nat.zero_le _, Nat.zero_le _⟩ dL_acts_612) hS (fun v0 w0 H locs hp hW hS hq => ?_)
        obtain ⟨rfl, rfl⟩ := hp
        refine lv_istore (lv' := [(7, .int (r5014)), (6, .int (r5011)), (0, rf g (0)), (2, .int (v)), (3, .int (w)), (4, .int (b)), (5, .int (k))]) hx hb dL_acts_615 hl (by decide) rfl (fun ls hl => ?_)
        refine lv_iload hx hb dL_acts_617 (lv_at hl 5 rfl) ?_
        refine lv_if_ne (tgt := 636) hx hb dL_acts_619 (by decide) (fun c5017 => ?_) (fun c5017 => ?_)
        · rw [if_neg c5017] at h
          refine lv_iload hx hb dL_acts_636 (lv_at hl 0 rfl) ?_
          refine lv_iload hx hb dL_acts_638 (lv_at hl 1 rfl) ?_
          refine lv_icmp_ne (tgt := 664) hx hb dL_acts_640 (by decide) (fun c5018 => ?_) (fun c5018 => ?_)
          · rw [if_neg c5018] at h
            refine lv_iconst (v := 0) hx hb dL_acts_664 (by decide) ?_
            cases h
          · rw [if_pos c5018] at h
            refine lv_iload hx hb dL_acts_643 (lv_at hl 0 rfl) ?_
            refine lv_if_lt (tgt := 660) hx hb dL_acts_645 (by decide) (fun c5019 => ?_) (fun c5019 => ?_)
            · rw [if_pos c5019] at h
              refine lv_iconst (v := 1) hx hb dL_acts_660 (by decide) ?_
              refine lv_goto (tgt := 665) hx hb dL_acts_661 (by decide) ?_
              cases h
              exact rZU C hr hlk dL_acts_665 hW hS rfl ⟨rfl, rfl⟩
            · rw [if_neg c5019] at h
              refine lv_aload_n hx hb dL_acts_648 rfl (lv_at hl 2 rfl) ?_
              refine lv_iload hx hb dL_acts_649 (lv_at hl 6 rfl) ?_
              refine lv_bipush (v := 8) hx hb dL_acts_651 (by decide) ?_
              obtain ⟨r5020, Mw5021, h5022, h⟩ := bind2 h
              refine cBackC C.2.2.2.2.2.2.2.2 (runVU (As := [.int (k), .int (8)]) (rest := []) C hW hS (c_X10_bell l g Mw5015 k 8 _ _ h5022) kV_X10_bell ml_L_26 (by decide) tm_BF rfl rfl rfl hl.1 rfl (Nat.le_of_ble_eq_true rfl) ⟨Nat.le_of_ble_eq_true rfl, Nat.le_of_ble_eq_true rfl⟩ ⟨Nat.zero_le _, Nat.zero_le _⟩ dL_acts_653) hS (fun v0 w0 H locs hp hW hS hq => ?_)
              obtain ⟨rfl, rfl⟩ := hp
              refine lv_iconst (v := 3) hx hb dL_acts_656 (by decide) ?_
              refine lv_icmp_ne (tgt := 664) hx hb dL_acts_657 (by decide) (fun c5023 => ?_) (fun c5023 => ?_)
              · rw [if_neg c5023] at h
                refine lv_iconst (v := 0) hx hb dL_acts_664 (by decide) ?_
                cases h
              · rw [if_pos c5023] at h
                refine lv_iconst (v := 1) hx hb dL_acts_660 (by decide) ?_
                refine lv_goto (tgt := 665) hx hb dL_acts_661 (by decide) ?_
                cases h
                exact rZU C hr hlk dL_acts_665 hW hS rfl ⟨rfl, rfl⟩
        · rw [if_pos c5017] at h
          cases h
      · rw [if_neg c5010] at h
        refine lv_bipush (v := -2) hx hb dL_acts_595 (by decide) ?_
        refine lv_goto (tgt := 607) hx hb dL_acts_597 (by decide) ?_
        refine lv_istore (lv' := [(6, .int (-2)), (0, rf g (0)), (2, .int (v)), (3, .int (w)), (4, .int (b)), (5, .int (k))]) hx hb dL_acts_607 hl (by decide) rfl (fun ls hl => ?_)
        refine lv_aload_n hx hb dL_acts_609 rfl (lv_at hl 1 rfl) ?_
        refine lv_iload hx hb dL_acts_610 (lv_at hl 5 rfl) ?_
        obtain ⟨r5024, Mw5025, h5026, h⟩ := bind2 h
        refine cBackC C.2.2.2.2.2.2.2.2 (runVU (As := [.int (k)]) (rest := []) C hW hS (c_X10_smash l g Mw5008 k _ _ h5026) kV_X10_smash ml_L_59 (by decide) tm_BF rfl rfl rfl hl.1 rfl (Nat.le_of_ble_eq_true rfl) ⟨Nat.le_of_ble_eq_true rfl, Nat.le_of_ble_eq_true rfl⟩ ⟨Nat.zero_le _, Nat.zero_le _⟩ dL_acts_612) hS (fun v0 w0 H locs hp hW hS hq => ?_)
        obtain ⟨rfl, rfl⟩ := hp
        refine lv_istore (lv' := [(7, .int (r5024)), (6, .int (-2)), (0, rf g (0)), (2, .int (v)), (3, .int (w)), (4, .int (b)), (5, .int (k))]) hx hb dL_acts_615 hl (by decide) rfl (fun ls hl => ?_)
        refine lv_iload hx hb dL_acts_617 (lv_at hl 5 rfl) ?_
        refine lv_if_ne (tgt := 636) hx hb dL_acts_619 (by decide) (fun c5027 => ?_) (fun c5027 => ?_)
        · rw [if_neg c5027] at h
          refine lv_iload hx hb dL_acts_636 (lv_at hl 0 rfl) ?_
          refine lv_iload hx hb dL_acts_638 (lv_at hl 1 rfl) ?_
          refine lv_icmp_ne (tgt := 664) hx hb dL_acts_640 (by decide) (fun c5028 => ?_) (fun c5028 => ?_)
          · rw [if_neg c5028] at h
            refine lv_iconst (v := 0) hx hb dL_acts_664 (by decide) ?_
            cases h
          · rw [if_pos c5028] at h
            refine lv_iload hx hb dL_acts_643 (lv_at hl 0 rfl) ?_
            refine lv_if_lt (tgt := 660) hx hb dL_acts_645 (by decide) (fun c5029 => ?_) (fun c5029 => ?_)
            · rw [if_pos c5029] at h
              refine lv_iconst (v := 1) hx hb dL_acts_660 (by decide) ?_
              refine lv_goto (tgt := 665) hx hb dL_acts_661 (by decide) ?_
              cases h
              exact rZU C hr hlk dL_acts_665 hW hS rfl ⟨rfl, rfl⟩
            · rw [if_neg c5029] at h
              refine lv_aload_n hx hb dL_acts_648 rfl (lv_at hl 2 rfl) ?_
              refine lv_iload hx hb dL_acts_649 (lv_at hl 6 rfl) ?_
              refine lv_bipush (v := 8) hx hb dL_acts_651 (by decide) ?_
              obtain ⟨r5030, Mw5031, h5032, h⟩ := bind2 h
              refine cBackC C.2.2.2.2.2.2.2.2 (runVU (As := [.int (k), .int (8)]) (rest := []) C hW hS (c_X10_bell l g Mw5025 k 8 _ _ h5032) kV_X10_bell ml_L_26 (by decide) tm_BF rfl rfl rfl hl.1 rfl (Nat.le_of_ble_eq_true rfl) ⟨Nat.le_of_ble_eq_true rfl, Nat.le_of_ble_eq_true rfl⟩ ⟨Nat.zero_le _, Nat.zero_le _⟩ dL_acts_653) hS (fun v0 w0 H locs hp hW hS hq => ?_)
              obtain ⟨rfl, rfl⟩ := hp
              refine lv_iconst (v := 3) hx hb dL_acts_656 (by decide) ?_
              refine lv_icmp_ne (tgt := 664) hx hb dL_acts_657 (by decide) (fun c5033 => ?_) (fun c5033 => ?_)
              · rw [if_neg c5033] at h
                refine lv_iconst (v := 0) hx hb dL_acts_664 (by decide) ?_
                cases h
              · rw [if_pos c5033] at h
                refine lv_iconst (v := 1) hx hb dL_acts_660 (by decide) ?_
                refine lv_goto (tgt := 665) hx hb dL_acts_661 (by decide) ?_
                cases h
                exact rZU C hr hlk dL_acts_665 hW hS rfl ⟨rfl, rfl⟩
        · rw [if_pos c5027] at h
          cases h
set_option maxHeartbeats 4000000 in
set_option maxRecDepth 100000 in
theorem t_L_acts_417 (l : Launch) (g : GD)  {p : Program} {e : Env} {s : State} {m : MethodId} {av : Array Value} {below : List Frame} {meth : Method} {c : Code} (n : Nat) : ∀ (M : MM) (v : Int32) (w : Int32) (b : Int32) (k : Int32) (r : Int32) (M2 : MM), lp_L_acts_417 n M v w b k = some (r, M2) → CX p s m av c cL_acts 11 RL g → meth.sig.returnType = (some .boolean) → meth.locks = false → ∀ (H : Heap) (locs : List Loc), Wd g M H → sU g s H locs → ∀ ls : Array Slot, lv_has ls 11 [(0, rf g (0)), (2, .int (v)), (3, .int (w)), (4, .int (b)), (5, .int (k))] → W p l e (RM 5 128) s m av below meth c H locs 0 0 (MQ below (QU g (fun v w0 => v = .int r ∧ M2 = w0)) av s 0 0 (AU g)) (F0 m 417 ls []) := by
  induction n with
  | zero => intro M v w b k r M2 h; cases h
  | succ n ih0 =>
    intro M v w b k r M2 h C hr hlk H locs hW hS ls hl
    have ih : ∀ (M : MM) (v : Int32) (w : Int32) (b : Int32) (k : Int32), lp_L_acts_417 n M v w b k = some (r, M2) → ∀ (H : Heap) (locs : List Loc), Wd g M H → sU g s H locs → ∀ ls : Array Slot, lv_has ls 11 [(0, rf g (0)), (2, .int (v)), (3, .int (w)), (4, .int (b)), (5, .int (k))] → W p l e (RM 5 128) s m av below meth c H locs 0 0 (MQ below (QU g (fun v w0 => v = .int r ∧ M2 = w0)) av s 0 0 (AU g)) (F0 m 417 ls []) := fun M v w b k h H locs hW hS ls hl => ih0 M v w b k r M2 h C hr hlk H locs hW hS ls hl
    unfold lp_L_acts_417 at h
    try dsimp only at h
    have hx := C.1
    have hb := C.2.1
    have hts := C.2.2.2.2.1
    refine lv_iconst (v := 1) hx hb dL_acts_417 (by decide) ?_
    refine lv_iload_n hx hb dL_acts_418 rfl (lv_at hl 2 rfl) ?_
    refine lv_bipush (v := 30) hx hb dL_acts_419 (by decide) ?_
    obtain ⟨r4001, Mw4002, h4003, h⟩ := bind2 h
    refine cBackL C.2.2.2.2.2.2.2.2 (runSU (As := [.int (w), .int (30)]) (rest := [.int (1)]) C hW hS (c_L_low l g M w 30 _ _ h4003) kS_L_low ml_L_96 rfl hl.1 rfl (Nat.le_of_ble_eq_true rfl) ⟨Nat.le_of_ble_eq_true rfl, Nat.le_of_ble_eq_true rfl⟩ ⟨Nat.zero_le _, Nat.zero_le _⟩ dL_acts_421) hS (fun v0 w0 H locs hp hW hS => ?_)
    obtain ⟨rfl, rfl⟩ := hp
    refine lv_iadd hx hb dL_acts_424 ?_
    refine lv_istore (lv' := [(6, .int ((1) + (r4001))), (0, rf g (0)), (2, .int (v)), (3, .int (w)), (4, .int (b)), (5, .int (k))]) hx hb dL_acts_425 hl (by decide) rfl (fun ls hl => ?_)
    refine lv_iload hx hb dL_acts_427 (lv_at hl 4 rfl) ?_
    refine lv_if_ne (tgt := 436) hx hb dL_acts_429 (by decide) (fun c4004 => ?_) (fun c4004 => ?_)
    · rw [if_neg c4004] at h
      refine lv_aload_n hx hb dL_acts_436 rfl (lv_at hl 1 rfl) ?_
      refine lv_iload hx hb dL_acts_437 (lv_at hl 5 rfl) ?_
      refine lv_bipush (v := 8) hx hb dL_acts_439 (by decide) ?_
      obtain ⟨r4005, Mw4006, h4007, h⟩ := bind2 h
      refine cBackC C.2.2.2.2.2.2.2.2 (runVU (As := [.int (k), .int (8)]) (rest := []) C hW hS (c_X10_bell l g Mw4002 k 8 _ _ h4007) kV_X10_bell ml_L_26 (by decide) tm_BF rfl rfl rfl hl.1 rfl (Nat.le_of_ble_eq_true rfl) ⟨Nat.le_of_ble_eq_true rfl, Nat.le_of_ble_eq_true rfl⟩ ⟨Nat.zero_le _, Nat.zero_le _⟩ dL_acts_441) hS (fun v0 w0 H locs hp hW hS hq => ?_)
      obtain ⟨rfl, rfl⟩ := hp
      refine lv_istore (lv' := [(7, .int (r4005)), (6, .int ((1) + (r4001))), (0, rf g (0)), (2, .int (v)), (3, .int (w)), (4, .int (b)), (5, .int (k))]) hx hb dL_acts_444 hl (by decide) rfl (fun ls hl => ?_)
      refine lv_iload hx hb dL_acts_446 (lv_at hl 5 rfl) ?_
      refine lv_if_ne (tgt := 455) hx hb dL_acts_448 (by decide) (fun c4008 => ?_) (fun c4008 => ?_)
      · rw [if_neg c4008] at h
        refine lv_aload_n hx hb dL_acts_455 rfl (lv_at hl 2 rfl) ?_
        refine lv_iload hx hb dL_acts_456 (lv_at hl 6 rfl) ?_
        refine lv_iconst (v := 5) hx hb dL_acts_458 (by decide) ?_
        obtain ⟨r4009, Mw4010, h4011, h⟩ := bind2 h
        refine cBackC C.2.2.2.2.2.2.2.2 (runVU (As := [.int (k), .int (5)]) (rest := []) C hW hS (c_X10_bell l g Mw4006 k 5 _ _ h4011) kV_X10_bell ml_L_26 (by decide) tm_BF rfl rfl rfl hl.1 rfl (Nat.le_of_ble_eq_true rfl) ⟨Nat.le_of_ble_eq_true rfl, Nat.le_of_ble_eq_true rfl⟩ ⟨Nat.zero_le _, Nat.zero_le _⟩ dL_acts_459) hS (fun v0 w0 H locs hp hW hS hq => ?_)
        obtain ⟨rfl, rfl⟩ := hp
        refine lv_istore (lv' := [(8, .int (r4009)), (7, .int (r4005)), (6, .int ((1) + (r4001))), (0, rf g (0)), (2, .int (v)), (3, .int (w)), (4, .int (b)), (5, .int (k))]) hx hb dL_acts_462 hl (by decide) rfl (fun ls hl => ?_)
        refine lv_iload hx hb dL_acts_464 (lv_at hl 6 rfl) ?_
        refine lv_if_ne (tgt := 473) hx hb dL_acts_466 (by decide) (fun c4012 => ?_) (fun c4012 => ?_)
        · rw [if_neg c4012] at h
          refine lv_aload_n hx hb dL_acts_473 rfl (lv_at hl 3 rfl) ?_
          refine lv_iload hx hb dL_acts_474 (lv_at hl 7 rfl) ?_
          refine lv_iconst (v := 2) hx hb dL_acts_476 (by decide) ?_
          obtain ⟨r4013, Mw4014, h4015, h⟩ := bind2 h
          refine cBackC C.2.2.2.2.2.2.2.2 (runVU (As := [.int (k), .int (2)]) (rest := []) C hW hS (c_X10_bell l g Mw4010 k 2 _ _ h4015) kV_X10_bell ml_L_26 (by decide) tm_BF rfl rfl rfl hl.1 rfl (Nat.le_of_ble_eq_true rfl) ⟨Nat.le_of_ble_eq_true rfl, Nat.le_of_ble_eq_true rfl⟩ ⟨Nat.zero_le _, Nat.zero_le _⟩ dL_acts_477) hS (fun v0 w0 H locs hp hW hS hq => ?_)
          obtain ⟨rfl, rfl⟩ := hp
          refine lv_istore (lv' := [(9, .int (r4013)), (8, .int (r4009)), (7, .int (r4005)), (6, .int ((1) + (r4001))), (0, rf g (0)), (2, .int (v)), (3, .int (w)), (4, .int (b)), (5, .int (k))]) hx hb dL_acts_480 hl (by decide) rfl (fun ls hl => ?_)
          refine lv_aload_n hx hb dL_acts_482 rfl (lv_at hl 4 rfl) ?_
          refine lv_iload hx hb dL_acts_483 (lv_at hl 8 rfl) ?_
          refine lv_iload hx hb dL_acts_485 (lv_at hl 3 rfl) ?_
          obtain ⟨r4016, Mw4017, h4018, h⟩ := bind2 h
          refine cBackC C.2.2.2.2.2.2.2.2 (runVU (As := [.int (k), .int ((1) + (r4001))]) (rest := []) C hW hS (c_X10_tune l g Mw4014 k ((1) + (r4001)) _ _ h4018) kV_X10_tune ml_L_56 (by decide) tm_BF rfl rfl rfl hl.1 rfl (Nat.le_of_ble_eq_true rfl) ⟨Nat.le_of_ble_eq_true rfl, Nat.le_of_ble_eq_true rfl⟩ ⟨Nat.zero_le _, Nat.zero_le _⟩ dL_acts_487) hS (fun v0 w0 H locs hp hW hS hq => ?_)
          obtain ⟨rfl, rfl⟩ := hp
          refine lv_istore (lv' := [(10, .int (r4016)), (9, .int (r4013)), (8, .int (r4009)), (7, .int (r4005)), (6, .int ((1) + (r4001))), (0, rf g (0)), (2, .int (v)), (3, .int (w)), (4, .int (b)), (5, .int (k))]) hx hb dL_acts_490 hl (by decide) rfl (fun ls hl => ?_)
          refine lv_iload hx hb dL_acts_492 (lv_at hl 8 rfl) ?_
          refine lv_if_ne (tgt := 511) hx hb dL_acts_494 (by decide) (fun c4019 => ?_) (fun c4019 => ?_)
          · rw [if_neg c4019] at h
            refine lv_iload hx hb dL_acts_511 (lv_at hl 3 rfl) ?_
            refine lv_if_gt (tgt := 523) hx hb dL_acts_513 (by decide) (fun c4020 => ?_) (fun c4020 => ?_)
            · rw [if_pos c4020] at h
              refine lv_iload hx hb dL_acts_523 (lv_at hl 0 rfl) ?_
              refine lv_bipush (v := -2) hx hb dL_acts_525 (by decide) ?_
              refine lv_icmp_ne (tgt := 534) hx hb dL_acts_527 (by decide) (fun c4021 => ?_) (fun c4021 => ?_)
              · rw [if_neg c4021] at h
                refine lv_iconst (v := 0) hx hb dL_acts_534 (by decide) ?_
                refine lv_goto (tgt := 577) hx hb dL_acts_535 (by decide) ?_
                cases h
              · rw [if_pos c4021] at h
                refine lv_iconst (v := 1) hx hb dL_acts_530 (by decide) ?_
                refine lv_goto (tgt := 577) hx hb dL_acts_531 (by decide) ?_
                cases h
                exact rZU C hr hlk dL_acts_577 hW hS rfl ⟨rfl, rfl⟩
            · rw [if_neg c4020] at h
              refine lv_iload hx hb dL_acts_516 (lv_at hl 1 rfl) ?_
              refine lv_iload hx hb dL_acts_518 (lv_at hl 4 rfl) ?_
              refine lv_icmp_gt (tgt := 538) hx hb dL_acts_520 (by decide) (fun c4022 => ?_) (fun c4022 => ?_)
              · rw [if_pos c4022] at h
                refine lv_iload hx hb dL_acts_538 (lv_at hl 0 rfl) ?_
                refine lv_aload_n hx hb dL_acts_540 rfl (lv_at hl 5 rfl) ?_
                refine lv_iload hx hb dL_acts_541 (lv_at hl 9 rfl) ?_
                refine lv_iconst (v := 5) hx hb dL_acts_543 (by decide) ?_
                obtain ⟨r4023, Mw4024, h4025, h⟩ := bind2 h
                refine cBackC C.2.2.2.2.2.2.2.2 (runVU (As := [.int (k), .int (5)]) (rest := [.int (r4016)]) C hW hS (c_X10_bell l g Mw4017 k 5 _ _ h4025) kV_X10_bell ml_L_26 (by decide) tm_BF rfl rfl rfl hl.1 rfl (Nat.le_of_ble_eq_true rfl) ⟨Nat.le_of_ble_eq_true rfl, Nat.le_of_ble_eq_true rfl⟩ ⟨Nat.zero_le _, Nat.zero_le _⟩ dL_acts_544) hS (fun v0 w0 H locs hp hW hS hq => ?_)
                obtain ⟨rfl, rfl⟩ := hp
                refine lv_icmp_ne (tgt := 576) hx hb dL_acts_547 (by decide) (fun c4026 => ?_) (fun c4026 => ?_)
                · rw [if_neg c4026] at h
                  refine lv_iconst (v := 0) hx hb dL_acts_576 (by decide) ?_
                  cases h
                · rw [if_pos c4026] at h
                  refine lv_iload hx hb dL_acts_550 (lv_at hl 0 rfl) ?_
                  refine lv_iload hx hb dL_acts_552 (lv_at hl 2 rfl) ?_
                  refine lv_icmp_gt (tgt := 576) hx hb dL_acts_554 (by decide) (fun c4027 => ?_) (fun c4027 => ?_)
                  · rw [if_pos c4027] at h
                    refine lv_iconst (v := 0) hx hb dL_acts_576 (by decide) ?_
                    cases h
                  · rw [if_neg c4027] at h
                    refine lv_aload_n hx hb dL_acts_557 rfl (lv_at hl 5 rfl) ?_
                    refine lv_iload hx hb dL_acts_558 (lv_at hl 9 rfl) ?_
                    refine lv_iconst (v := 2) hx hb dL_acts_560 (by decide) ?_
                    obtain ⟨r4028, Mw4029, h4030, h⟩ := bind2 h
                    refine cBackC C.2.2.2.2.2.2.2.2 (runVU (As := [.int (k), .int (2)]) (rest := []) C hW hS (c_X10_bell l g Mw4024 k 2 _ _ h4030) kV_X10_bell ml_L_26 (by decide) tm_BF rfl rfl rfl hl.1 rfl (Nat.le_of_ble_eq_true rfl) ⟨Nat.le_of_ble_eq_true rfl, Nat.le_of_ble_eq_true rfl⟩ ⟨Nat.zero_le _, Nat.zero_le _⟩ dL_acts_561) hS (fun v0 w0 H locs hp hW hS hq => ?_)
                    obtain ⟨rfl, rfl⟩ := hp
                    refine lv_iload hx hb dL_acts_564 (lv_at hl 1 rfl) ?_
                    refine lv_iload hx hb dL_acts_566 (lv_at hl 4 rfl) ?_
                    refine lv_isub hx hb dL_acts_568 ?_
                    refine lv_icmp_ne (tgt := 576) hx hb dL_acts_569 (by decide) (fun c4031 => ?_) (fun c4031 => ?_)
                    · rw [if_neg c4031] at h
                      refine lv_iconst (v := 0) hx hb dL_acts_576 (by decide) ?_
                      cases h
                    · rw [if_pos c4031] at h
                      refine lv_iconst (v := 1) hx hb dL_acts_572 (by decide) ?_
                      refine lv_goto (tgt := 577) hx hb dL_acts_573 (by decide) ?_
                      cases h
                      exact rZU C hr hlk dL_acts_577 hW hS rfl ⟨rfl, rfl⟩
              · rw [if_neg c4022] at h
                refine lv_iload hx hb dL_acts_523 (lv_at hl 0 rfl) ?_
                refine lv_bipush (v := -2) hx hb dL_acts_525 (by decide) ?_
                refine lv_icmp_ne (tgt := 534) hx hb dL_acts_527 (by decide) (fun c4032 => ?_) (fun c4032 => ?_)
                · rw [if_neg c4032] at h
                  refine lv_iconst (v := 0) hx hb dL_acts_534 (by decide) ?_
                  refine lv_goto (tgt := 577) hx hb dL_acts_535 (by decide) ?_
                  cases h
                · rw [if_pos c4032] at h
                  refine lv_iconst (v := 1) hx hb dL_acts_530 (by decide) ?_
                  refine lv_goto (tgt := 577) hx hb dL_acts_531 (by decide) ?_
                  cases h
                  exact rZU C hr hlk dL_acts_577 hW hS rfl ⟨rfl, rfl⟩
          · rw [if_pos c4019] at h
            cases h
        · rw [if_pos c4012] at h
          cases h
      · rw [if_pos c4008] at h
        cases h
    · rw [if_pos c4004] at h
      refine lv_iconst (v := 0) hx hb dL_acts_432 (by decide) ?_
      refine lv_goto (tgt := 444) hx hb dL_acts_433 (by decide) ?_
      refine lv_istore (lv' := [(7, .int (0)), (6, .int ((1) + (r4001))), (0, rf g (0)), (2, .int (v)), (3, .int (w)), (4, .int (b)), (5, .int (k))]) hx hb dL_acts_444 hl (by decide) rfl (fun ls hl => ?_)
      refine lv_iload hx hb dL_acts_446 (lv_at hl 5 rfl) ?_
      refine lv_if_ne (tgt := 455) hx hb dL_acts_448 (by decide) (fun c4033 => ?_) (fun c4033 => ?_)
      · rw [if_neg c4033] at h
        cases h
      · rw [if_pos c4033] at h
        refine lv_iconst (v := 0) hx hb dL_acts_451 (by decide) ?_
        refine lv_goto (tgt := 462) hx hb dL_acts_452 (by decide) ?_
        refine lv_istore (lv' := [(8, .int (0)), (7, .int (0)), (6, .int ((1) + (r4001))), (0, rf g (0)), (2, .int (v)), (3, .int (w)), (4, .int (b)), (5, .int (k))]) hx hb dL_acts_462 hl (by decide) rfl (fun ls hl => ?_)
        refine lv_iload hx hb dL_acts_464 (lv_at hl 6 rfl) ?_
        refine lv_if_ne (tgt := 473) hx hb dL_acts_466 (by decide) (fun c4034 => ?_) (fun c4034 => ?_)
        · rw [if_neg c4034] at h
          cases h
        · rw [if_pos c4034] at h
          refine lv_iconst (v := 0) hx hb dL_acts_469 (by decide) ?_
          refine lv_goto (tgt := 480) hx hb dL_acts_470 (by decide) ?_
          refine lv_istore (lv' := [(9, .int (0)), (8, .int (0)), (7, .int (0)), (6, .int ((1) + (r4001))), (0, rf g (0)), (2, .int (v)), (3, .int (w)), (4, .int (b)), (5, .int (k))]) hx hb dL_acts_480 hl (by decide) rfl (fun ls hl => ?_)
          refine lv_aload_n hx hb dL_acts_482 rfl (lv_at hl 4 rfl) ?_
          refine lv_iload hx hb dL_acts_483 (lv_at hl 8 rfl) ?_
          refine lv_iload hx hb dL_acts_485 (lv_at hl 3 rfl) ?_
          obtain ⟨r4035, Mw4036, h4037, h⟩ := bind2 h
          refine cBackC C.2.2.2.2.2.2.2.2 (runVU (As := [.int (k), .int ((1) + (r4001))]) (rest := []) C hW hS (c_X10_tune l g Mw4002 k ((1) + (r4001)) _ _ h4037) kV_X10_tune ml_L_56 (by decide) tm_BF rfl rfl rfl hl.1 rfl (Nat.le_of_ble_eq_true rfl) ⟨Nat.le_of_ble_eq_true rfl, Nat.le_of_ble_eq_true rfl⟩ ⟨Nat.zero_le _, Nat.zero_le _⟩ dL_acts_487) hS (fun v0 w0 H locs hp hW hS hq => ?_)
          obtain ⟨rfl, rfl⟩ := hp
          refine lv_istore (lv' := [(10, .int (r4035)), (9, .int (0)), (8, .int (0)), (7, .int (0)), (6, .int ((1) + (r4001))), (0, rf g (0)), (2, .int (v)), (3, .int (w)), (4, .int (b)), (5, .int (k))]) hx hb dL_acts_490 hl (by decide) rfl (fun ls hl => ?_)
          refine lv_iload hx hb dL_acts_492 (lv_at hl 8 rfl) ?_
          refine lv_if_ne (tgt := 511) hx hb dL_acts_494 (by decide) (fun c4038 => ?_) (fun c4038 => ?_)
          · rw [if_neg c4038] at h
            cases h
          · rw [if_pos c4038] at h
            refine lv_iload hx hb dL_acts_497 (lv_at hl 0 rfl) ?_
            refine lv_iconst (v := -1) hx hb dL_acts_499 (by decide) ?_
            refine lv_icmp_ne (tgt := 507) hx hb dL_acts_500 (by decide) (fun c4039 => ?_) (fun c4039 => ?_)
            · rw [if_neg c4039] at h
              refine lv_iconst (v := 0) hx hb dL_acts_507 (by decide) ?_
              refine lv_goto (tgt := 577) hx hb dL_acts_508 (by decide) ?_
              cases h
            · rw [if_pos c4039] at h
              refine lv_iconst (v := 1) hx hb dL_acts_503 (by decide) ?_
              refine lv_goto (tgt := 577) hx hb dL_acts_504 (by decide) ?_
              cases h
              exact rZU C hr hlk dL_acts_577 hW hS rfl ⟨rfl, rfl⟩
set_option maxHeartbeats 4000000 in
set_option maxRecDepth 100000 in
theorem t_L_acts_276 (l : Launch) (g : GD)  {p : Program} {e : Env} {s : State} {m : MethodId} {av : Array Value} {below : List Frame} {meth : Method} {c : Code} (n : Nat) : ∀ (M : MM) (v : Int32) (w : Int32) (b : Int32) (k : Int32) (r : Int32) (M2 : MM), lp_L_acts_276 n M v w b k = some (r, M2) → CX p s m av c cL_acts 11 RL g → meth.sig.returnType = (some .boolean) → meth.locks = false → ∀ (H : Heap) (locs : List Loc), Wd g M H → sU g s H locs → ∀ ls : Array Slot, lv_has ls 11 [(0, rf g (0)), (2, .int (v)), (3, .int (w)), (4, .int (b)), (5, .int (k))] → W p l e (RM 5 128) s m av below meth c H locs 0 0 (MQ below (QU g (fun v w0 => v = .int r ∧ M2 = w0)) av s 0 0 (AU g)) (F0 m 276 ls []) := by
  induction n with
  | zero => intro M v w b k r M2 h; cases h
  | succ n ih0 =>
    intro M v w b k r M2 h C hr hlk H locs hW hS ls hl
    have ih : ∀ (M : MM) (v : Int32) (w : Int32) (b : Int32) (k : Int32), lp_L_acts_276 n M v w b k = some (r, M2) → ∀ (H : Heap) (locs : List Loc), Wd g M H → sU g s H locs → ∀ ls : Array Slot, lv_has ls 11 [(0, rf g (0)), (2, .int (v)), (3, .int (w)), (4, .int (b)), (5, .int (k))] → W p l e (RM 5 128) s m av below meth c H locs 0 0 (MQ below (QU g (fun v w0 => v = .int r ∧ M2 = w0)) av s 0 0 (AU g)) (F0 m 276 ls []) := fun M v w b k h H locs hW hS ls hl => ih0 M v w b k r M2 h C hr hlk H locs hW hS ls hl
    unfold lp_L_acts_276 at h
    try dsimp only at h
    have hx := C.1
    have hb := C.2.1
    have hts := C.2.2.2.2.1
    refine lv_iconst (v := 1) hx hb dL_acts_276 (by decide) ?_
    refine lv_iload_n hx hb dL_acts_277 rfl (lv_at hl 2 rfl) ?_
    refine lv_sipush (v := 700) hx hb dL_acts_278 (by decide) ?_
    obtain ⟨r3001, Mw3002, h3003, h⟩ := bind2 h
    refine cBackL C.2.2.2.2.2.2.2.2 (runSU (As := [.int (w), .int (700)]) (rest := [.int (1)]) C hW hS (c_L_low l g M w 700 _ _ h3003) kS_L_low ml_L_96 rfl hl.1 rfl (Nat.le_of_ble_eq_true rfl) ⟨Nat.le_of_ble_eq_true rfl, Nat.le_of_ble_eq_true rfl⟩ ⟨Nat.zero_le _, Nat.zero_le _⟩ dL_acts_281) hS (fun v0 w0 H locs hp hW hS => ?_)
    obtain ⟨rfl, rfl⟩ := hp
    refine lv_iadd hx hb dL_acts_284 ?_
    refine lv_istore (lv' := [(6, .int ((1) + (r3001))), (0, rf g (0)), (2, .int (v)), (3, .int (w)), (4, .int (b)), (5, .int (k))]) hx hb dL_acts_285 hl (by decide) rfl (fun ls hl => ?_)
    refine lv_iload hx hb dL_acts_287 (lv_at hl 0 rfl) ?_
    refine lv_aload_n hx hb dL_acts_289 rfl (lv_at hl 1 rfl) ?_
    refine lv_bipush (v := 24) hx hb dL_acts_290 (by decide) ?_
    obtain ⟨r3004, Mw3005, h3006, h⟩ := bind2 h
    refine cBackC C.2.2.2.2.2.2.2.2 (runVU (As := [.int (24)]) (rest := [.int ((1) + (r3001))]) C hW hS (c_X10_count l g Mw3002 24 _ _ h3006) kV_X10_count ml_L_13 (by decide) tm_BF rfl rfl rfl hl.1 rfl (Nat.le_of_ble_eq_true rfl) ⟨Nat.le_of_ble_eq_true rfl, Nat.le_of_ble_eq_true rfl⟩ ⟨Nat.zero_le _, Nat.zero_le _⟩ dL_acts_292) hS (fun v0 w0 H locs hp hW hS hq => ?_)
    obtain ⟨rfl, rfl⟩ := hp
    refine lv_imul hx hb dL_acts_295 ?_
    refine lv_sipush (v := 999) hx hb dL_acts_296 (by decide) ?_
    refine lv_iadd hx hb dL_acts_299 ?_
    refine lv_sipush (v := 1000) hx hb dL_acts_300 (by decide) ?_
    refine lv_idiv hx hb dL_acts_303 (by decide) ?_
    refine lv_istore (lv' := [(7, .int (((((1) + (r3001)) * (r3004)) + (999)) / (1000))), (6, .int ((1) + (r3001))), (0, rf g (0)), (2, .int (v)), (3, .int (w)), (4, .int (b)), (5, .int (k))]) hx hb dL_acts_304 hl (by decide) rfl (fun ls hl => ?_)
    refine lv_aload_n hx hb dL_acts_306 rfl (lv_at hl 2 rfl) ?_
    refine lv_iload_n hx hb dL_acts_307 rfl (lv_at hl 3 rfl) ?_
    refine lv_iconst (v := 4) hx hb dL_acts_308 (by decide) ?_
    obtain ⟨r3008, Mw3009, h3010, h⟩ := bind2 h
    refine cBackL C.2.2.2.2.2.2.2.2 (runSU (As := [.int (v), .int (4)]) (rest := [rf g (0)]) C hW hS (c_L_low l g Mw3005 v 4 _ _ h3010) kS_L_low ml_L_96 rfl hl.1 rfl (Nat.le_of_ble_eq_true rfl) ⟨Nat.le_of_ble_eq_true rfl, Nat.le_of_ble_eq_true rfl⟩ ⟨Nat.zero_le _, Nat.zero_le _⟩ dL_acts_309) hS (fun v0 w0 H locs hp hW hS => ?_)
    obtain ⟨rfl, rfl⟩ := hp
    refine lv_iload hx hb dL_acts_312 (lv_at hl 1 rfl) ?_
    obtain ⟨r3011, Mw3012, h3013, h⟩ := bind2 h
    refine cBackC C.2.2.2.2.2.2.2.2 (runVU (As := [.int (r3008), .int ((1) + (r3001))]) (rest := []) C hW hS (c_X10_pour l g Mw3009 r3008 ((1) + (r3001)) _ _ h3013) kV_X10_pour ml_L_53 (by decide) tm_BF rfl rfl rfl hl.1 rfl (Nat.le_of_ble_eq_true rfl) ⟨Nat.le_of_ble_eq_true rfl, Nat.le_of_ble_eq_true rfl⟩ ⟨Nat.zero_le _, Nat.zero_le _⟩ dL_acts_314) hS (fun v0 w0 H locs hp hW hS hq => ?_)
    obtain ⟨rfl, rfl⟩ := hp
    refine lv_istore (lv' := [(8, .int (r3011)), (7, .int (((((1) + (r3001)) * (r3004)) + (999)) / (1000))), (6, .int ((1) + (r3001))), (0, rf g (0)), (2, .int (v)), (3, .int (w)), (4, .int (b)), (5, .int (k))]) hx hb dL_acts_317 hl (by decide) rfl (fun ls hl => ?_)
    refine lv_iload hx hb dL_acts_319 (lv_at hl 0 rfl) ?_
    refine lv_if_ge (tgt := 377) hx hb dL_acts_321 (by decide) (fun c3014 => ?_) (fun c3014 => ?_)
    · rw [if_pos c3014] at h
      refine lv_iload hx hb dL_acts_377 (lv_at hl 0 rfl) ?_
      refine lv_iload hx hb dL_acts_379 (lv_at hl 6 rfl) ?_
      refine lv_icmp_ne (tgt := 415) hx hb dL_acts_381 (by decide) (fun c3015 => ?_) (fun c3015 => ?_)
      · rw [if_neg c3015] at h
        refine lv_iconst (v := 0) hx hb dL_acts_415 (by decide) ?_
        cases h
      · rw [if_pos c3015] at h
        refine lv_aload_n hx hb dL_acts_384 rfl (lv_at hl 3 rfl) ?_
        refine lv_iload hx hb dL_acts_385 (lv_at hl 6 rfl) ?_
        refine lv_iconst (v := 2) hx hb dL_acts_387 (by decide) ?_
        obtain ⟨r3016, Mw3017, h3018, h⟩ := bind2 h
        refine cBackC C.2.2.2.2.2.2.2.2 (runVU (As := [.int (b), .int (2)]) (rest := []) C hW hS (c_X10_bell l g Mw3012 b 2 _ _ h3018) kV_X10_bell ml_L_26 (by decide) tm_BF rfl rfl rfl hl.1 rfl (Nat.le_of_ble_eq_true rfl) ⟨Nat.le_of_ble_eq_true rfl, Nat.le_of_ble_eq_true rfl⟩ ⟨Nat.zero_le _, Nat.zero_le _⟩ dL_acts_388) hS (fun v0 w0 H locs hp hW hS hq => ?_)
        obtain ⟨rfl, rfl⟩ := hp
        refine lv_iload hx hb dL_acts_391 (lv_at hl 2 rfl) ?_
        refine lv_icmp_ne (tgt := 415) hx hb dL_acts_393 (by decide) (fun c3019 => ?_) (fun c3019 => ?_)
        · rw [if_neg c3019] at h
          refine lv_iconst (v := 0) hx hb dL_acts_415 (by decide) ?_
          cases h
        · rw [if_pos c3019] at h
          refine lv_aload_n hx hb dL_acts_396 rfl (lv_at hl 3 rfl) ?_
          refine lv_iload hx hb dL_acts_397 (lv_at hl 6 rfl) ?_
          refine lv_iconst (v := 4) hx hb dL_acts_399 (by decide) ?_
          obtain ⟨r3020, Mw3021, h3022, h⟩ := bind2 h
          refine cBackC C.2.2.2.2.2.2.2.2 (runVU (As := [.int (b), .int (4)]) (rest := []) C hW hS (c_X10_bell l g Mw3017 b 4 _ _ h3022) kV_X10_bell ml_L_26 (by decide) tm_BF rfl rfl rfl hl.1 rfl (Nat.le_of_ble_eq_true rfl) ⟨Nat.le_of_ble_eq_true rfl, Nat.le_of_ble_eq_true rfl⟩ ⟨Nat.zero_le _, Nat.zero_le _⟩ dL_acts_400) hS (fun v0 w0 H locs hp hW hS hq => ?_)
          obtain ⟨rfl, rfl⟩ := hp
          refine lv_iload_n hx hb dL_acts_403 rfl (lv_at hl 4 rfl) ?_
          refine lv_iconst (v := 4) hx hb dL_acts_404 (by decide) ?_
          obtain ⟨r3023, Mw3024, h3025, h⟩ := bind2 h
          refine cBackL C.2.2.2.2.2.2.2.2 (runSU (As := [.int (v), .int (4)]) (rest := [.int (r3020)]) C hW hS (c_L_low l g Mw3021 v 4 _ _ h3025) kS_L_low ml_L_96 rfl hl.1 rfl (Nat.le_of_ble_eq_true rfl) ⟨Nat.le_of_ble_eq_true rfl, Nat.le_of_ble_eq_true rfl⟩ ⟨Nat.zero_le _, Nat.zero_le _⟩ dL_acts_405) hS (fun v0 w0 H locs hp hW hS => ?_)
          obtain ⟨rfl, rfl⟩ := hp
          refine lv_icmp_ne (tgt := 415) hx hb dL_acts_408 (by decide) (fun c3026 => ?_) (fun c3026 => ?_)
          · rw [if_neg c3026] at h
            refine lv_iconst (v := 0) hx hb dL_acts_415 (by decide) ?_
            cases h
          · rw [if_pos c3026] at h
            refine lv_iconst (v := 1) hx hb dL_acts_411 (by decide) ?_
            refine lv_goto (tgt := 416) hx hb dL_acts_412 (by decide) ?_
            cases h
            exact rZU C hr hlk dL_acts_416 hW hS rfl ⟨rfl, rfl⟩
    · rw [if_neg c3014] at h
      refine lv_iload hx hb dL_acts_324 (lv_at hl 0 rfl) ?_
      refine lv_bipush (v := -3) hx hb dL_acts_326 (by decide) ?_
      refine lv_icmp_ne (tgt := 349) hx hb dL_acts_328 (by decide) (fun c3027 => ?_) (fun c3027 => ?_)
      · rw [if_neg c3027] at h
        refine lv_iload hx hb dL_acts_349 (lv_at hl 0 rfl) ?_
        refine lv_bipush (v := -2) hx hb dL_acts_351 (by decide) ?_
        refine lv_icmp_ne (tgt := 373) hx hb dL_acts_353 (by decide) (fun c3028 => ?_) (fun c3028 => ?_)
        · rw [if_neg c3028] at h
          refine lv_iconst (v := 0) hx hb dL_acts_373 (by decide) ?_
          refine lv_goto (tgt := 416) hx hb dL_acts_374 (by decide) ?_
          cases h
        · rw [if_pos c3028] at h
          refine lv_aload_n hx hb dL_acts_356 rfl (lv_at hl 3 rfl) ?_
          refine lv_iconst (v := 4) hx hb dL_acts_357 (by decide) ?_
          obtain ⟨r3029, Mw3030, h3031, h⟩ := bind2 h
          refine cBackC C.2.2.2.2.2.2.2.2 (runVU (As := [.int (4)]) (rest := []) C hW hS (c_X10_melt l g Mw3012 4 _ _ h3031) kV_X10_melt ml_L_47 (by decide) tm_BF rfl rfl rfl hl.1 rfl (Nat.le_of_ble_eq_true rfl) ⟨Nat.le_of_ble_eq_true rfl, Nat.le_of_ble_eq_true rfl⟩ ⟨Nat.zero_le _, Nat.zero_le _⟩ dL_acts_358) hS (fun v0 w0 H locs hp hW hS hq => ?_)
          obtain ⟨rfl, rfl⟩ := hp
          refine lv_iload hx hb dL_acts_361 (lv_at hl 2 rfl) ?_
          refine lv_iload hx hb dL_acts_363 (lv_at hl 1 rfl) ?_
          refine lv_iadd hx hb dL_acts_365 ?_
          refine lv_icmp_ge (tgt := 373) hx hb dL_acts_366 (by decide) (fun c3032 => ?_) (fun c3032 => ?_)
          · rw [if_pos c3032] at h
            refine lv_iconst (v := 0) hx hb dL_acts_373 (by decide) ?_
            refine lv_goto (tgt := 416) hx hb dL_acts_374 (by decide) ?_
            cases h
          · rw [if_neg c3032] at h
            refine lv_iconst (v := 1) hx hb dL_acts_369 (by decide) ?_
            refine lv_goto (tgt := 416) hx hb dL_acts_370 (by decide) ?_
            cases h
            exact rZU C hr hlk dL_acts_416 hW hS rfl ⟨rfl, rfl⟩
      · rw [if_pos c3027] at h
        refine lv_aload_n hx hb dL_acts_331 rfl (lv_at hl 3 rfl) ?_
        refine lv_iconst (v := 2) hx hb dL_acts_332 (by decide) ?_
        obtain ⟨r3033, Mw3034, h3035, h⟩ := bind2 h
        refine cBackC C.2.2.2.2.2.2.2.2 (runVU (As := [.int (2)]) (rest := []) C hW hS (c_X10_count l g Mw3012 2 _ _ h3035) kV_X10_count ml_L_13 (by decide) tm_BF rfl rfl rfl hl.1 rfl (Nat.le_of_ble_eq_true rfl) ⟨Nat.le_of_ble_eq_true rfl, Nat.le_of_ble_eq_true rfl⟩ ⟨Nat.zero_le _, Nat.zero_le _⟩ dL_acts_333) hS (fun v0 w0 H locs hp hW hS hq => ?_)
        obtain ⟨rfl, rfl⟩ := hp
        refine lv_bipush (v := 12) hx hb dL_acts_336 (by decide) ?_
        refine lv_icmp_ne (tgt := 345) hx hb dL_acts_338 (by decide) (fun c3036 => ?_) (fun c3036 => ?_)
        · rw [if_neg c3036] at h
          refine lv_iconst (v := 0) hx hb dL_acts_345 (by decide) ?_
          refine lv_goto (tgt := 416) hx hb dL_acts_346 (by decide) ?_
          cases h
        · rw [if_pos c3036] at h
          refine lv_iconst (v := 1) hx hb dL_acts_341 (by decide) ?_
          refine lv_goto (tgt := 416) hx hb dL_acts_342 (by decide) ?_
          cases h
          exact rZU C hr hlk dL_acts_416 hW hS rfl ⟨rfl, rfl⟩
set_option maxHeartbeats 4000000 in
set_option maxRecDepth 100000 in
theorem t_L_acts_172 (l : Launch) (g : GD)  {p : Program} {e : Env} {s : State} {m : MethodId} {av : Array Value} {below : List Frame} {meth : Method} {c : Code} (n : Nat) : ∀ (M : MM) (v : Int32) (w : Int32) (b : Int32) (k : Int32) (r : Int32) (M2 : MM), lp_L_acts_172 n M v w b k = some (r, M2) → CX p s m av c cL_acts 11 RL g → meth.sig.returnType = (some .boolean) → meth.locks = false → ∀ (H : Heap) (locs : List Loc), Wd g M H → sU g s H locs → ∀ ls : Array Slot, lv_has ls 11 [(0, rf g (0)), (2, .int (v)), (3, .int (w)), (4, .int (b)), (5, .int (k))] → W p l e (RM 5 128) s m av below meth c H locs 0 0 (MQ below (QU g (fun v w0 => v = .int r ∧ M2 = w0)) av s 0 0 (AU g)) (F0 m 172 ls []) := by
  induction n with
  | zero => intro M v w b k r M2 h; cases h
  | succ n ih0 =>
    intro M v w b k r M2 h C hr hlk H locs hW hS ls hl
    have ih : ∀ (M : MM) (v : Int32) (w : Int32) (b : Int32) (k : Int32), lp_L_acts_172 n M v w b k = some (r, M2) → ∀ (H : Heap) (locs : List Loc), Wd g M H → sU g s H locs → ∀ ls : Array Slot, lv_has ls 11 [(0, rf g (0)), (2, .int (v)), (3, .int (w)), (4, .int (b)), (5, .int (k))] → W p l e (RM 5 128) s m av below meth c H locs 0 0 (MQ below (QU g (fun v w0 => v = .int r ∧ M2 = w0)) av s 0 0 (AU g)) (F0 m 172 ls []) := fun M v w b k h H locs hW hS ls hl => ih0 M v w b k r M2 h C hr hlk H locs hW hS ls hl
    unfold lp_L_acts_172 at h
    try dsimp only at h
    have hx := C.1
    have hb := C.2.1
    have hts := C.2.2.2.2.1
    refine lv_iload_n hx hb dL_acts_172 rfl (lv_at hl 1 rfl) ?_
    refine lv_iconst (v := 4) hx hb dL_acts_173 (by decide) ?_
    obtain ⟨r2001, Mw2002, h2003, h⟩ := bind2 h
    refine cBackL C.2.2.2.2.2.2.2.2 (runSU (As := [.int (v), .int (4)]) (rest := []) C hW hS (c_L_low l g M v 4 _ _ h2003) kS_L_low ml_L_96 rfl hl.1 rfl (Nat.le_of_ble_eq_true rfl) ⟨Nat.le_of_ble_eq_true rfl, Nat.le_of_ble_eq_true rfl⟩ ⟨Nat.zero_le _, Nat.zero_le _⟩ dL_acts_174) hS (fun v0 w0 H locs hp hW hS => ?_)
    obtain ⟨rfl, rfl⟩ := hp
    refine diaF (P := (r2001 : Int32) = 0) (A := 1) (B := 0) (F := fun z9 => W p l e (RM 5 128) s m av below meth c H locs 0 0 (MQ below (QU g (fun v w0 => v = .int r ∧ M2 = w0)) av s 0 0 (AU g)) (F0 m 185 ls [.int z9])) (fun a9 b9 => lv_if_ne (tgt := 184) hx hb dL_acts_177 (by decide) a9 b9) (fun k9 => ?_) (fun k9 => ?_) ?_
    · refine lv_iconst (v := 0) hx hb dL_acts_184 (by decide) ?_
      exact k9
    · refine lv_iconst (v := 1) hx hb dL_acts_180 (by decide) ?_
      refine lv_goto (tgt := 185) hx hb dL_acts_181 (by decide) ?_
      exact k9
    refine lv_istore (lv' := [(6, .int (if (r2001 : Int32) = 0 then (1 : Int32) else (0 : Int32))), (0, rf g (0)), (2, .int (v)), (3, .int (w)), (4, .int (b)), (5, .int (k))]) hx hb dL_acts_185 hl (by decide) rfl (fun ls hl => ?_)
    refine lv_iconst (v := 1) hx hb dL_acts_187 (by decide) ?_
    refine lv_iload_n hx hb dL_acts_188 rfl (lv_at hl 3 rfl) ?_
    refine lv_iload hx hb dL_acts_189 (lv_at hl 0 rfl) ?_
    refine lv_iconst (v := 1) hx hb dL_acts_191 (by decide) ?_
    refine diaF (P := (if (r2001 : Int32) = 0 then (1 : Int32) else (0 : Int32) : Int32) = (1 : Int32)) (A := 900) (B := 4000) (F := fun z9 => W p l e (RM 5 128) s m av below meth c H locs 0 0 (MQ below (QU g (fun v w0 => v = .int r ∧ M2 = w0)) av s 0 0 (AU g)) (F0 m 204 ls [.int z9, .int (w), .int (1)])) (fun a9 b9 => lv_icmp_ne (tgt := 201) hx hb dL_acts_192 (by decide) a9 b9) (fun k9 => ?_) (fun k9 => ?_) ?_
    · refine lv_sipush (v := 4000) hx hb dL_acts_201 (by decide) ?_
      exact k9
    · refine lv_sipush (v := 900) hx hb dL_acts_195 (by decide) ?_
      refine lv_goto (tgt := 204) hx hb dL_acts_198 (by decide) ?_
      exact k9
    obtain ⟨r2004, Mw2005, h2006, h⟩ := bind2 h
    refine cBackL C.2.2.2.2.2.2.2.2 (runSU (As := [.int (w), .int (if (if (r2001 : Int32) = 0 then (1 : Int32) else (0 : Int32) : Int32) = (1 : Int32) then (900 : Int32) else (4000 : Int32))]) (rest := [.int (1)]) C hW hS (c_L_low l g Mw2002 w (if (if (r2001 : Int32) = 0 then (1 : Int32) else (0 : Int32) : Int32) = (1 : Int32) then (900 : Int32) else (4000 : Int32)) _ _ h2006) kS_L_low ml_L_96 rfl hl.1 rfl (Nat.le_of_ble_eq_true rfl) ⟨Nat.le_of_ble_eq_true rfl, Nat.le_of_ble_eq_true rfl⟩ ⟨Nat.zero_le _, Nat.zero_le _⟩ dL_acts_204) hS (fun v0 w0 H locs hp hW hS => ?_)
    obtain ⟨rfl, rfl⟩ := hp
    refine lv_iadd hx hb dL_acts_207 ?_
    refine lv_istore (lv' := [(7, .int ((1) + (r2004))), (6, .int (if (r2001 : Int32) = 0 then (1 : Int32) else (0 : Int32))), (0, rf g (0)), (2, .int (v)), (3, .int (w)), (4, .int (b)), (5, .int (k))]) hx hb dL_acts_208 hl (by decide) rfl (fun ls hl => ?_)
    refine lv_aload_n hx hb dL_acts_210 rfl (lv_at hl 2 rfl) ?_
    refine lv_iconst (v := 2) hx hb dL_acts_211 (by decide) ?_
    obtain ⟨r2007, Mw2008, h2009, h⟩ := bind2 h
    refine cBackC C.2.2.2.2.2.2.2.2 (runVU (As := [.int (2)]) (rest := []) C hW hS (c_X10_melt l g Mw2005 2 _ _ h2009) kV_X10_melt ml_L_47 (by decide) tm_BF rfl rfl rfl hl.1 rfl (Nat.le_of_ble_eq_true rfl) ⟨Nat.le_of_ble_eq_true rfl, Nat.le_of_ble_eq_true rfl⟩ ⟨Nat.zero_le _, Nat.zero_le _⟩ dL_acts_212) hS (fun v0 w0 H locs hp hW hS hq => ?_)
    obtain ⟨rfl, rfl⟩ := hp
    refine lv_istore (lv' := [(8, .int (r2007)), (7, .int ((1) + (r2004))), (6, .int (if (r2001 : Int32) = 0 then (1 : Int32) else (0 : Int32))), (0, rf g (0)), (2, .int (v)), (3, .int (w)), (4, .int (b)), (5, .int (k))]) hx hb dL_acts_215 hl (by decide) rfl (fun ls hl => ?_)
    refine lv_aload_n hx hb dL_acts_217 rfl (lv_at hl 3 rfl) ?_
    refine lv_iload hx hb dL_acts_218 (lv_at hl 2 rfl) ?_
    refine lv_iconst (v := 1) hx hb dL_acts_220 (by decide) ?_
    obtain ⟨r2010, Mw2011, h2012, h⟩ := bind2 h
    refine cBackC C.2.2.2.2.2.2.2.2 (runVU (As := [.int (if (r2001 : Int32) = 0 then (1 : Int32) else (0 : Int32)), .int (1)]) (rest := []) C hW hS (c_X10_account l g Mw2008 (if (r2001 : Int32) = 0 then (1 : Int32) else (0 : Int32)) 1 _ _ h2012) kV_X10_account ml_L_19 (by decide) tm_BF rfl rfl rfl hl.1 rfl (Nat.le_of_ble_eq_true rfl) ⟨Nat.le_of_ble_eq_true rfl, Nat.le_of_ble_eq_true rfl⟩ ⟨Nat.zero_le _, Nat.zero_le _⟩ dL_acts_221) hS (fun v0 w0 H locs hp hW hS hq => ?_)
    obtain ⟨rfl, rfl⟩ := hp
    refine lv_istore (lv' := [(9, .int (r2010)), (8, .int (r2007)), (7, .int ((1) + (r2004))), (6, .int (if (r2001 : Int32) = 0 then (1 : Int32) else (0 : Int32))), (0, rf g (0)), (2, .int (v)), (3, .int (w)), (4, .int (b)), (5, .int (k))]) hx hb dL_acts_224 hl (by decide) rfl (fun ls hl => ?_)
    refine lv_aload_n hx hb dL_acts_226 rfl (lv_at hl 4 rfl) ?_
    refine lv_iload hx hb dL_acts_227 (lv_at hl 3 rfl) ?_
    refine lv_iload hx hb dL_acts_229 (lv_at hl 2 rfl) ?_
    obtain ⟨r2013, Mw2014, h2015, h⟩ := bind2 h
    refine cBackC C.2.2.2.2.2.2.2.2 (runVU (As := [.int (if (r2001 : Int32) = 0 then (1 : Int32) else (0 : Int32)), .int ((1) + (r2004))]) (rest := []) C hW hS (c_X10_charge l g Mw2011 (if (r2001 : Int32) = 0 then (1 : Int32) else (0 : Int32)) ((1) + (r2004)) _ _ h2015) kV_X10_charge ml_L_41 (by decide) tm_BF rfl rfl rfl hl.1 rfl (Nat.le_of_ble_eq_true rfl) ⟨Nat.le_of_ble_eq_true rfl, Nat.le_of_ble_eq_true rfl⟩ ⟨Nat.zero_le _, Nat.zero_le _⟩ dL_acts_231) hS (fun v0 w0 H locs hp hW hS hq => ?_)
    obtain ⟨rfl, rfl⟩ := hp
    refine lv_iload hx hb dL_acts_234 (lv_at hl 0 rfl) ?_
    refine lv_iload hx hb dL_acts_236 (lv_at hl 2 rfl) ?_
    refine lv_icmp_ge (tgt := 246) hx hb dL_acts_238 (by decide) (fun c2016 => ?_) (fun c2016 => ?_)
    · rw [if_pos c2016] at h
      refine lv_iload hx hb dL_acts_246 (lv_at hl 1 rfl) ?_
      refine lv_iload hx hb dL_acts_248 (lv_at hl 2 rfl) ?_
      refine lv_iadd hx hb dL_acts_250 ?_
      refine lv_sipush (v := 20000) hx hb dL_acts_251 (by decide) ?_
      refine lv_icmp_le (tgt := 262) hx hb dL_acts_254 (by decide) (fun c2017 => ?_) (fun c2017 => ?_)
      · rw [if_pos c2017] at h
        refine lv_iload hx hb dL_acts_262 (lv_at hl 1 rfl) ?_
        refine lv_iload hx hb dL_acts_264 (lv_at hl 2 rfl) ?_
        refine lv_iadd hx hb dL_acts_266 ?_
        refine lv_icmp_ne (tgt := 274) hx hb dL_acts_267 (by decide) (fun c2018 => ?_) (fun c2018 => ?_)
        · rw [if_neg c2018] at h
          refine lv_iconst (v := 0) hx hb dL_acts_274 (by decide) ?_
          cases h
        · rw [if_pos c2018] at h
          refine lv_iconst (v := 1) hx hb dL_acts_270 (by decide) ?_
          refine lv_goto (tgt := 275) hx hb dL_acts_271 (by decide) ?_
          cases h
          exact rZU C hr hlk dL_acts_275 hW hS rfl ⟨rfl, rfl⟩
      · rw [if_neg c2017] at h
        refine lv_bipush (v := -3) hx hb dL_acts_257 (by decide) ?_
        refine lv_goto (tgt := 267) hx hb dL_acts_259 (by decide) ?_
        refine lv_icmp_ne (tgt := 274) hx hb dL_acts_267 (by decide) (fun c2019 => ?_) (fun c2019 => ?_)
        · rw [if_neg c2019] at h
          refine lv_iconst (v := 0) hx hb dL_acts_274 (by decide) ?_
          cases h
        · rw [if_pos c2019] at h
          refine lv_iconst (v := 1) hx hb dL_acts_270 (by decide) ?_
          refine lv_goto (tgt := 275) hx hb dL_acts_271 (by decide) ?_
          cases h
          exact rZU C hr hlk dL_acts_275 hW hS rfl ⟨rfl, rfl⟩
    · rw [if_neg c2016] at h
      refine lv_bipush (v := -2) hx hb dL_acts_241 (by decide) ?_
      refine lv_goto (tgt := 267) hx hb dL_acts_243 (by decide) ?_
      refine lv_icmp_ne (tgt := 274) hx hb dL_acts_267 (by decide) (fun c2020 => ?_) (fun c2020 => ?_)
      · rw [if_neg c2020] at h
        refine lv_iconst (v := 0) hx hb dL_acts_274 (by decide) ?_
        cases h
      · rw [if_pos c2020] at h
        refine lv_iconst (v := 1) hx hb dL_acts_270 (by decide) ?_
        refine lv_goto (tgt := 275) hx hb dL_acts_271 (by decide) ?_
        cases h
        exact rZU C hr hlk dL_acts_275 hW hS rfl ⟨rfl, rfl⟩
set_option maxHeartbeats 4000000 in
set_option maxRecDepth 100000 in
theorem t_L_acts_88 (l : Launch) (g : GD)  {p : Program} {e : Env} {s : State} {m : MethodId} {av : Array Value} {below : List Frame} {meth : Method} {c : Code} (n : Nat) : ∀ (M : MM) (v : Int32) (w : Int32) (b : Int32) (k : Int32) (r : Int32) (M2 : MM), lp_L_acts_88 n M v w b k = some (r, M2) → CX p s m av c cL_acts 11 RL g → meth.sig.returnType = (some .boolean) → meth.locks = false → ∀ (H : Heap) (locs : List Loc), Wd g M H → sU g s H locs → ∀ ls : Array Slot, lv_has ls 11 [(0, rf g (0)), (2, .int (v)), (3, .int (w)), (4, .int (b)), (5, .int (k))] → W p l e (RM 5 128) s m av below meth c H locs 0 0 (MQ below (QU g (fun v w0 => v = .int r ∧ M2 = w0)) av s 0 0 (AU g)) (F0 m 88 ls []) := by
  induction n with
  | zero => intro M v w b k r M2 h; cases h
  | succ n ih0 =>
    intro M v w b k r M2 h C hr hlk H locs hW hS ls hl
    have ih : ∀ (M : MM) (v : Int32) (w : Int32) (b : Int32) (k : Int32), lp_L_acts_88 n M v w b k = some (r, M2) → ∀ (H : Heap) (locs : List Loc), Wd g M H → sU g s H locs → ∀ ls : Array Slot, lv_has ls 11 [(0, rf g (0)), (2, .int (v)), (3, .int (w)), (4, .int (b)), (5, .int (k))] → W p l e (RM 5 128) s m av below meth c H locs 0 0 (MQ below (QU g (fun v w0 => v = .int r ∧ M2 = w0)) av s 0 0 (AU g)) (F0 m 88 ls []) := fun M v w b k h H locs hW hS ls hl => ih0 M v w b k r M2 h C hr hlk H locs hW hS ls hl
    unfold lp_L_acts_88 at h
    try dsimp only at h
    have hx := C.1
    have hb := C.2.1
    have hts := C.2.2.2.2.1
    refine lv_iload_n hx hb dL_acts_88 rfl (lv_at hl 1 rfl) ?_
    refine lv_iconst (v := 4) hx hb dL_acts_89 (by decide) ?_
    obtain ⟨r1001, Mw1002, h1003, h⟩ := bind2 h
    refine cBackL C.2.2.2.2.2.2.2.2 (runSU (As := [.int (v), .int (4)]) (rest := []) C hW hS (c_L_low l g M v 4 _ _ h1003) kS_L_low ml_L_96 rfl hl.1 rfl (Nat.le_of_ble_eq_true rfl) ⟨Nat.le_of_ble_eq_true rfl, Nat.le_of_ble_eq_true rfl⟩ ⟨Nat.zero_le _, Nat.zero_le _⟩ dL_acts_90) hS (fun v0 w0 H locs hp hW hS => ?_)
    obtain ⟨rfl, rfl⟩ := hp
    refine diaF (P := (r1001 : Int32) = 0) (A := 1) (B := 0) (F := fun z9 => W p l e (RM 5 128) s m av below meth c H locs 0 0 (MQ below (QU g (fun v w0 => v = .int r ∧ M2 = w0)) av s 0 0 (AU g)) (F0 m 101 ls [.int z9])) (fun a9 b9 => lv_if_ne (tgt := 100) hx hb dL_acts_93 (by decide) a9 b9) (fun k9 => ?_) (fun k9 => ?_) ?_
    · refine lv_iconst (v := 0) hx hb dL_acts_100 (by decide) ?_
      exact k9
    · refine lv_iconst (v := 1) hx hb dL_acts_96 (by decide) ?_
      refine lv_goto (tgt := 101) hx hb dL_acts_97 (by decide) ?_
      exact k9
    refine lv_istore (lv' := [(6, .int (if (r1001 : Int32) = 0 then (1 : Int32) else (0 : Int32))), (0, rf g (0)), (2, .int (v)), (3, .int (w)), (4, .int (b)), (5, .int (k))]) hx hb dL_acts_101 hl (by decide) rfl (fun ls hl => ?_)
    refine lv_iconst (v := 1) hx hb dL_acts_103 (by decide) ?_
    refine lv_iload_n hx hb dL_acts_104 rfl (lv_at hl 3 rfl) ?_
    refine lv_iload hx hb dL_acts_105 (lv_at hl 0 rfl) ?_
    refine lv_iconst (v := 1) hx hb dL_acts_107 (by decide) ?_
    refine diaF (P := (if (r1001 : Int32) = 0 then (1 : Int32) else (0 : Int32) : Int32) = (1 : Int32)) (A := 900) (B := 4000) (F := fun z9 => W p l e (RM 5 128) s m av below meth c H locs 0 0 (MQ below (QU g (fun v w0 => v = .int r ∧ M2 = w0)) av s 0 0 (AU g)) (F0 m 120 ls [.int z9, .int (w), .int (1)])) (fun a9 b9 => lv_icmp_ne (tgt := 117) hx hb dL_acts_108 (by decide) a9 b9) (fun k9 => ?_) (fun k9 => ?_) ?_
    · refine lv_sipush (v := 4000) hx hb dL_acts_117 (by decide) ?_
      exact k9
    · refine lv_sipush (v := 900) hx hb dL_acts_111 (by decide) ?_
      refine lv_goto (tgt := 120) hx hb dL_acts_114 (by decide) ?_
      exact k9
    obtain ⟨r1004, Mw1005, h1006, h⟩ := bind2 h
    refine cBackL C.2.2.2.2.2.2.2.2 (runSU (As := [.int (w), .int (if (if (r1001 : Int32) = 0 then (1 : Int32) else (0 : Int32) : Int32) = (1 : Int32) then (900 : Int32) else (4000 : Int32))]) (rest := [.int (1)]) C hW hS (c_L_low l g Mw1002 w (if (if (r1001 : Int32) = 0 then (1 : Int32) else (0 : Int32) : Int32) = (1 : Int32) then (900 : Int32) else (4000 : Int32)) _ _ h1006) kS_L_low ml_L_96 rfl hl.1 rfl (Nat.le_of_ble_eq_true rfl) ⟨Nat.le_of_ble_eq_true rfl, Nat.le_of_ble_eq_true rfl⟩ ⟨Nat.zero_le _, Nat.zero_le _⟩ dL_acts_120) hS (fun v0 w0 H locs hp hW hS => ?_)
    obtain ⟨rfl, rfl⟩ := hp
    refine lv_iadd hx hb dL_acts_123 ?_
    refine lv_istore (lv' := [(7, .int ((1) + (r1004))), (6, .int (if (r1001 : Int32) = 0 then (1 : Int32) else (0 : Int32))), (0, rf g (0)), (2, .int (v)), (3, .int (w)), (4, .int (b)), (5, .int (k))]) hx hb dL_acts_124 hl (by decide) rfl (fun ls hl => ?_)
    refine lv_aload_n hx hb dL_acts_126 rfl (lv_at hl 2 rfl) ?_
    refine lv_iload hx hb dL_acts_127 (lv_at hl 1 rfl) ?_
    refine lv_iconst (v := 1) hx hb dL_acts_129 (by decide) ?_
    obtain ⟨r1007, Mw1008, h1009, h⟩ := bind2 h
    refine cBackC C.2.2.2.2.2.2.2.2 (runVU (As := [.int (if (r1001 : Int32) = 0 then (1 : Int32) else (0 : Int32)), .int (1)]) (rest := []) C hW hS (c_X10_account l g Mw1005 (if (r1001 : Int32) = 0 then (1 : Int32) else (0 : Int32)) 1 _ _ h1009) kV_X10_account ml_L_19 (by decide) tm_BF rfl rfl rfl hl.1 rfl (Nat.le_of_ble_eq_true rfl) ⟨Nat.le_of_ble_eq_true rfl, Nat.le_of_ble_eq_true rfl⟩ ⟨Nat.zero_le _, Nat.zero_le _⟩ dL_acts_130) hS (fun v0 w0 H locs hp hW hS hq => ?_)
    obtain ⟨rfl, rfl⟩ := hp
    refine lv_istore (lv' := [(8, .int (r1007)), (7, .int ((1) + (r1004))), (6, .int (if (r1001 : Int32) = 0 then (1 : Int32) else (0 : Int32))), (0, rf g (0)), (2, .int (v)), (3, .int (w)), (4, .int (b)), (5, .int (k))]) hx hb dL_acts_133 hl (by decide) rfl (fun ls hl => ?_)
    refine lv_aload_n hx hb dL_acts_135 rfl (lv_at hl 3 rfl) ?_
    refine lv_iload hx hb dL_acts_136 (lv_at hl 2 rfl) ?_
    refine lv_iload hx hb dL_acts_138 (lv_at hl 1 rfl) ?_
    obtain ⟨r1010, Mw1011, h1012, h⟩ := bind2 h
    refine cBackC C.2.2.2.2.2.2.2.2 (runVU (As := [.int (if (r1001 : Int32) = 0 then (1 : Int32) else (0 : Int32)), .int ((1) + (r1004))]) (rest := []) C hW hS (c_X10_buy l g Mw1008 (if (r1001 : Int32) = 0 then (1 : Int32) else (0 : Int32)) ((1) + (r1004)) _ _ h1012) kV_X10_buy ml_L_38 (by decide) tm_BF rfl rfl rfl hl.1 rfl (Nat.le_of_ble_eq_true rfl) ⟨Nat.le_of_ble_eq_true rfl, Nat.le_of_ble_eq_true rfl⟩ ⟨Nat.zero_le _, Nat.zero_le _⟩ dL_acts_140) hS (fun v0 w0 H locs hp hW hS hq => ?_)
    obtain ⟨rfl, rfl⟩ := hp
    refine lv_iload hx hb dL_acts_143 (lv_at hl 0 rfl) ?_
    refine lv_iload hx hb dL_acts_145 (lv_at hl 1 rfl) ?_
    refine lv_iadd hx hb dL_acts_147 ?_
    refine lv_icmp_ne (tgt := 170) hx hb dL_acts_148 (by decide) (fun c1013 => ?_) (fun c1013 => ?_)
    · rw [if_neg c1013] at h
      refine lv_iconst (v := 0) hx hb dL_acts_170 (by decide) ?_
      cases h
    · rw [if_pos c1013] at h
      refine lv_aload_n hx hb dL_acts_151 rfl (lv_at hl 3 rfl) ?_
      refine lv_iload hx hb dL_acts_152 (lv_at hl 2 rfl) ?_
      refine lv_iconst (v := 1) hx hb dL_acts_154 (by decide) ?_
      obtain ⟨r1014, Mw1015, h1016, h⟩ := bind2 h
      refine cBackC C.2.2.2.2.2.2.2.2 (runVU (As := [.int (if (r1001 : Int32) = 0 then (1 : Int32) else (0 : Int32)), .int (1)]) (rest := []) C hW hS (c_X10_account l g Mw1011 (if (r1001 : Int32) = 0 then (1 : Int32) else (0 : Int32)) 1 _ _ h1016) kV_X10_account ml_L_19 (by decide) tm_BF rfl rfl rfl hl.1 rfl (Nat.le_of_ble_eq_true rfl) ⟨Nat.le_of_ble_eq_true rfl, Nat.le_of_ble_eq_true rfl⟩ ⟨Nat.zero_le _, Nat.zero_le _⟩ dL_acts_155) hS (fun v0 w0 H locs hp hW hS hq => ?_)
      obtain ⟨rfl, rfl⟩ := hp
      refine lv_iload hx hb dL_acts_158 (lv_at hl 0 rfl) ?_
      refine lv_iload hx hb dL_acts_160 (lv_at hl 1 rfl) ?_
      refine lv_iadd hx hb dL_acts_162 ?_
      refine lv_icmp_ne (tgt := 170) hx hb dL_acts_163 (by decide) (fun c1017 => ?_) (fun c1017 => ?_)
      · rw [if_neg c1017] at h
        refine lv_iconst (v := 0) hx hb dL_acts_170 (by decide) ?_
        cases h
      · rw [if_pos c1017] at h
        refine lv_iconst (v := 1) hx hb dL_acts_166 (by decide) ?_
        refine lv_goto (tgt := 171) hx hb dL_acts_167 (by decide) ?_
        cases h
        exact rZU C hr hlk dL_acts_171 hW hS rfl ⟨rfl, rfl⟩
set_option maxHeartbeats 4000000 in
set_option maxRecDepth 100000 in
theorem c_L_acts (l : Launch) (g : GD) (M : MM) (x : Int32) (v : Int32) (w : Int32) (r : Int32) (M2 : MM) (h : f_L_acts M x v w = some (r, M2)) : Met l yL_acts (wm yL_acts cL_acts 11 (some .boolean)) (RM 5 128) (va_Pc [rf g (0), .int (x), .int (v), .int (w)] (WDp g M)) (QU g (fun v w0 => v = .int r ∧ M2 = w0)) 0 0 (AU g) := by
  refine mkU (by decide +kernel) (Nat.le_of_ble_eq_true rfl) ?_
  intro p e s m below meth c C hr hlk hW hS ls hl
  have hl : lv_has ls 11 [(0, rf g (0)), (1, .int (x)), (2, .int (v)), (3, .int (w))] := hl
  have hx := C.1
  have hb := C.2.1
  have hts := C.2.2.2.2.1
  unfold f_L_acts at h
  refine lv_aload_n hx hb dL_acts_0 rfl (lv_at hl 0 rfl) ?_
  refine lv_iconst (v := 1) hx hb dL_acts_1 (by decide) ?_
  obtain ⟨r1, Mw2, h3, h⟩ := bind2 h
  refine cBackC C.2.2.2.2.2.2.2.2 (runVU (As := [.int (1)]) (rest := []) C hW hS (c_X10_count l g M 1 _ _ h3) kV_X10_count ml_L_13 (by decide) tm_BF rfl rfl rfl hl.1 rfl (Nat.le_of_ble_eq_true rfl) ⟨Nat.le_of_ble_eq_true rfl, Nat.le_of_ble_eq_true rfl⟩ ⟨Nat.zero_le _, Nat.zero_le _⟩ dL_acts_2) hS (fun v0 w0 H locs hp hW hS hq => ?_)
  obtain ⟨rfl, rfl⟩ := hp
  refine lv_istore (lv' := [(4, .int (r1)), (0, rf g (0)), (1, .int (x)), (2, .int (v)), (3, .int (w))]) hx hb dL_acts_5 hl (by decide) rfl (fun ls hl => ?_)
  refine lv_iload hx hb dL_acts_7 (lv_at hl 0 rfl) ?_
  refine lv_if_ne (tgt := 16) hx hb dL_acts_9 (by decide) (fun c4 => ?_) (fun c4 => ?_)
  · rw [if_neg c4] at h
    refine lv_iload_n hx hb dL_acts_16 rfl (lv_at hl 3 rfl) ?_
    refine lv_iload hx hb dL_acts_17 (lv_at hl 0 rfl) ?_
    obtain ⟨r5, Mw6, h7, h⟩ := bind2 h
    refine cBackL C.2.2.2.2.2.2.2.2 (runSU (As := [.int (v), .int (r1)]) (rest := []) C hW hS (c_L_low l g Mw2 v r1 _ _ h7) kS_L_low ml_L_96 rfl hl.1 rfl (Nat.le_of_ble_eq_true rfl) ⟨Nat.le_of_ble_eq_true rfl, Nat.le_of_ble_eq_true rfl⟩ ⟨Nat.zero_le _, Nat.zero_le _⟩ dL_acts_19) hS (fun v0 w0 H locs hp hW hS => ?_)
    obtain ⟨rfl, rfl⟩ := hp
    refine lv_istore (lv' := [(5, .int (r5)), (4, .int (r1)), (0, rf g (0)), (1, .int (x)), (2, .int (v)), (3, .int (w))]) hx hb dL_acts_22 hl (by decide) rfl (fun ls hl => ?_)
    refine lv_iload_n hx hb dL_acts_24 rfl (lv_at hl 3 rfl) ?_
    by_cases c8 : (x : Int32) = 0
    · rw [if_pos c8] at h
      refine lv_tableIn (off := 63) (tgt := 88) hx hb dL_acts_25 (by rw [c8]; decide) (by rw [c8]; decide) (by rw [c8]; rfl) (by decide) ?_
      exact t_L_acts_88 l g FU Mw6 v w r1 r5 _ _ h C hr hlk _ _ hW hS ls (lv_sub hl [2, 4, 5, 1, 0] rfl)
    rw [if_neg c8] at h
    by_cases c9 : (x : Int32) = 1
    · rw [if_pos c9] at h
      refine lv_tableIn (off := 147) (tgt := 172) hx hb dL_acts_25 (by rw [c9]; decide) (by rw [c9]; decide) (by rw [c9]; rfl) (by decide) ?_
      exact t_L_acts_172 l g FU Mw6 v w r1 r5 _ _ h C hr hlk _ _ hW hS ls (lv_sub hl [2, 4, 5, 1, 0] rfl)
    rw [if_neg c9] at h
    by_cases c10 : (x : Int32) = 2
    · rw [if_pos c10] at h
      refine lv_tableIn (off := 251) (tgt := 276) hx hb dL_acts_25 (by rw [c10]; decide) (by rw [c10]; decide) (by rw [c10]; rfl) (by decide) ?_
      exact t_L_acts_276 l g FU Mw6 v w r1 r5 _ _ h C hr hlk _ _ hW hS ls (lv_sub hl [2, 4, 5, 1, 0] rfl)
    rw [if_neg c10] at h
    by_cases c11 : (x : Int32) = 3
    · rw [if_pos c11] at h
      refine lv_tableIn (off := 251) (tgt := 276) hx hb dL_acts_25 (by rw [c11]; decide) (by rw [c11]; decide) (by rw [c11]; rfl) (by decide) ?_
      exact t_L_acts_276 l g FU Mw6 v w r1 r5 _ _ h C hr hlk _ _ hW hS ls (lv_sub hl [2, 4, 5, 1, 0] rfl)
    rw [if_neg c11] at h
    by_cases c12 : (x : Int32) = 4
    · rw [if_pos c12] at h
      refine lv_tableIn (off := 251) (tgt := 276) hx hb dL_acts_25 (by rw [c12]; decide) (by rw [c12]; decide) (by rw [c12]; rfl) (by decide) ?_
      exact t_L_acts_276 l g FU Mw6 v w r1 r5 _ _ h C hr hlk _ _ hW hS ls (lv_sub hl [2, 4, 5, 1, 0] rfl)
    rw [if_neg c12] at h
    by_cases c13 : (x : Int32) = 5
    · rw [if_pos c13] at h
      refine lv_tableIn (off := 392) (tgt := 417) hx hb dL_acts_25 (by rw [c13]; decide) (by rw [c13]; decide) (by rw [c13]; rfl) (by decide) ?_
      exact t_L_acts_417 l g FU Mw6 v w r1 r5 _ _ h C hr hlk _ _ hW hS ls (lv_sub hl [2, 4, 5, 1, 0] rfl)
    rw [if_neg c13] at h
    by_cases c14 : (x : Int32) = 6
    · rw [if_pos c14] at h
      refine lv_tableIn (off := 392) (tgt := 417) hx hb dL_acts_25 (by rw [c14]; decide) (by rw [c14]; decide) (by rw [c14]; rfl) (by decide) ?_
      exact t_L_acts_417 l g FU Mw6 v w r1 r5 _ _ h C hr hlk _ _ hW hS ls (lv_sub hl [2, 4, 5, 1, 0] rfl)
    rw [if_neg c14] at h
    by_cases c15 : (x : Int32) = 7
    · rw [if_pos c15] at h
      refine lv_tableIn (off := 553) (tgt := 578) hx hb dL_acts_25 (by rw [c15]; decide) (by rw [c15]; decide) (by rw [c15]; rfl) (by decide) ?_
      exact t_L_acts_578 l g FU Mw6 v w r1 r5 _ _ h C hr hlk _ _ hW hS ls (lv_sub hl [2, 4, 5, 1, 0] rfl)
    rw [if_neg c15] at h
    by_cases c16 : (x : Int32) = 8
    · rw [if_pos c16] at h
      refine lv_tableIn (off := 641) (tgt := 666) hx hb dL_acts_25 (by rw [c16]; decide) (by rw [c16]; decide) (by rw [c16]; rfl) (by decide) ?_
      exact t_L_acts_666 l g FU Mw6 v w r1 r5 _ _ h C hr hlk _ _ hW hS ls (lv_sub hl [2, 4, 5, 1, 0] rfl)
    rw [if_neg c16] at h
    by_cases c17 : (x : Int32) = 9
    · rw [if_pos c17] at h
      refine lv_tableIn (off := 641) (tgt := 666) hx hb dL_acts_25 (by rw [c17]; decide) (by rw [c17]; decide) (by rw [c17]; rfl) (by decide) ?_
      exact t_L_acts_666 l g FU Mw6 v w r1 r5 _ _ h C hr hlk _ _ hW hS ls (lv_sub hl [2, 4, 5, 1, 0] rfl)
    rw [if_neg c17] at h
    by_cases c18 : (x : Int32) = 10
    · rw [if_pos c18] at h
      refine lv_tableIn (off := 778) (tgt := 803) hx hb dL_acts_25 (by rw [c18]; decide) (by rw [c18]; decide) (by rw [c18]; rfl) (by decide) ?_
      exact t_L_acts_803 l g FU Mw6 v w r1 r5 _ _ h C hr hlk _ _ hW hS ls (lv_sub hl [2, 4, 5, 1, 0] rfl)
    rw [if_neg c18] at h
    by_cases c19 : (x : Int32) = 11
    · rw [if_pos c19] at h
      refine lv_tableIn (off := 941) (tgt := 966) hx hb dL_acts_25 (by rw [c19]; decide) (by rw [c19]; decide) (by rw [c19]; rfl) (by decide) ?_
      exact t_L_acts_966 l g FU Mw6 v w r1 r5 _ _ h C hr hlk _ _ hW hS ls (lv_sub hl [2, 4, 5, 1, 0] rfl)
    rw [if_neg c19] at h
    refine lv_tableOut (tgt := 1137) hx hb dL_acts_25 (by have nc8 := lv_neT (a := 0) c8 rfl; have nc9 := lv_neT (a := 1) c9 rfl; have nc10 := lv_neT (a := 2) c10 rfl; have nc11 := lv_neT (a := 3) c11 rfl; have nc12 := lv_neT (a := 4) c12 rfl; have nc13 := lv_neT (a := 5) c13 rfl; have nc14 := lv_neT (a := 6) c14 rfl; have nc15 := lv_neT (a := 7) c15 rfl; have nc16 := lv_neT (a := 8) c16 rfl; have nc17 := lv_neT (a := 9) c17 rfl; have nc18 := lv_neT (a := 10) c18 rfl; have nc19 := lv_neT (a := 11) c19 rfl; omega) (by decide) ?_
    exact t_L_acts_1137 l g FU Mw6 v w r1 r5 _ _ h C hr hlk _ _ hW hS ls (lv_sub hl [2, 4, 5, 1, 0] rfl)
  · rw [if_pos c4] at h
    refine lv_iconst (v := 0) hx hb dL_acts_12 (by decide) ?_
    refine lv_goto (tgt := 22) hx hb dL_acts_13 (by decide) ?_
    refine lv_istore (lv' := [(5, .int (0)), (4, .int (r1)), (0, rf g (0)), (1, .int (x)), (2, .int (v)), (3, .int (w))]) hx hb dL_acts_22 hl (by decide) rfl (fun ls hl => ?_)
    refine lv_iload_n hx hb dL_acts_24 rfl (lv_at hl 3 rfl) ?_
    by_cases c20 : (x : Int32) = 0
    · rw [if_pos c20] at h
      refine lv_tableIn (off := 63) (tgt := 88) hx hb dL_acts_25 (by rw [c20]; decide) (by rw [c20]; decide) (by rw [c20]; rfl) (by decide) ?_
      exact t_L_acts_88 l g FU Mw2 v w r1 0 _ _ h C hr hlk _ _ hW hS ls (lv_sub hl [2, 4, 5, 1, 0] rfl)
    rw [if_neg c20] at h
    by_cases c21 : (x : Int32) = 1
    · rw [if_pos c21] at h
      refine lv_tableIn (off := 147) (tgt := 172) hx hb dL_acts_25 (by rw [c21]; decide) (by rw [c21]; decide) (by rw [c21]; rfl) (by decide) ?_
      exact t_L_acts_172 l g FU Mw2 v w r1 0 _ _ h C hr hlk _ _ hW hS ls (lv_sub hl [2, 4, 5, 1, 0] rfl)
    rw [if_neg c21] at h
    by_cases c22 : (x : Int32) = 2
    · rw [if_pos c22] at h
      refine lv_tableIn (off := 251) (tgt := 276) hx hb dL_acts_25 (by rw [c22]; decide) (by rw [c22]; decide) (by rw [c22]; rfl) (by decide) ?_
      exact t_L_acts_276 l g FU Mw2 v w r1 0 _ _ h C hr hlk _ _ hW hS ls (lv_sub hl [2, 4, 5, 1, 0] rfl)
    rw [if_neg c22] at h
    by_cases c23 : (x : Int32) = 3
    · rw [if_pos c23] at h
      refine lv_tableIn (off := 251) (tgt := 276) hx hb dL_acts_25 (by rw [c23]; decide) (by rw [c23]; decide) (by rw [c23]; rfl) (by decide) ?_
      exact t_L_acts_276 l g FU Mw2 v w r1 0 _ _ h C hr hlk _ _ hW hS ls (lv_sub hl [2, 4, 5, 1, 0] rfl)
    rw [if_neg c23] at h
    by_cases c24 : (x : Int32) = 4
    · rw [if_pos c24] at h
      refine lv_tableIn (off := 251) (tgt := 276) hx hb dL_acts_25 (by rw [c24]; decide) (by rw [c24]; decide) (by rw [c24]; rfl) (by decide) ?_
      exact t_L_acts_276 l g FU Mw2 v w r1 0 _ _ h C hr hlk _ _ hW hS ls (lv_sub hl [2, 4, 5, 1, 0] rfl)
    rw [if_neg c24] at h
    by_cases c25 : (x : Int32) = 5
    · rw [if_pos c25] at h
      refine lv_tableIn (off := 392) (tgt := 417) hx hb dL_acts_25 (by rw [c25]; decide) (by rw [c25]; decide) (by rw [c25]; rfl) (by decide) ?_
      exact t_L_acts_417 l g FU Mw2 v w r1 0 _ _ h C hr hlk _ _ hW hS ls (lv_sub hl [2, 4, 5, 1, 0] rfl)
    rw [if_neg c25] at h
    by_cases c26 : (x : Int32) = 6
    · rw [if_pos c26] at h
      refine lv_tableIn (off := 392) (tgt := 417) hx hb dL_acts_25 (by rw [c26]; decide) (by rw [c26]; decide) (by rw [c26]; rfl) (by decide) ?_
      exact t_L_acts_417 l g FU Mw2 v w r1 0 _ _ h C hr hlk _ _ hW hS ls (lv_sub hl [2, 4, 5, 1, 0] rfl)
    rw [if_neg c26] at h
    by_cases c27 : (x : Int32) = 7
    · rw [if_pos c27] at h
      refine lv_tableIn (off := 553) (tgt := 578) hx hb dL_acts_25 (by rw [c27]; decide) (by rw [c27]; decide) (by rw [c27]; rfl) (by decide) ?_
      exact t_L_acts_578 l g FU Mw2 v w r1 0 _ _ h C hr hlk _ _ hW hS ls (lv_sub hl [2, 4, 5, 1, 0] rfl)
    rw [if_neg c27] at h
    by_cases c28 : (x : Int32) = 8
    · rw [if_pos c28] at h
      refine lv_tableIn (off := 641) (tgt := 666) hx hb dL_acts_25 (by rw [c28]; decide) (by rw [c28]; decide) (by rw [c28]; rfl) (by decide) ?_
      exact t_L_acts_666 l g FU Mw2 v w r1 0 _ _ h C hr hlk _ _ hW hS ls (lv_sub hl [2, 4, 5, 1, 0] rfl)
    rw [if_neg c28] at h
    by_cases c29 : (x : Int32) = 9
    · rw [if_pos c29] at h
      refine lv_tableIn (off := 641) (tgt := 666) hx hb dL_acts_25 (by rw [c29]; decide) (by rw [c29]; decide) (by rw [c29]; rfl) (by decide) ?_
      exact t_L_acts_666 l g FU Mw2 v w r1 0 _ _ h C hr hlk _ _ hW hS ls (lv_sub hl [2, 4, 5, 1, 0] rfl)
    rw [if_neg c29] at h
    by_cases c30 : (x : Int32) = 10
    · rw [if_pos c30] at h
      refine lv_tableIn (off := 778) (tgt := 803) hx hb dL_acts_25 (by rw [c30]; decide) (by rw [c30]; decide) (by rw [c30]; rfl) (by decide) ?_
      exact t_L_acts_803 l g FU Mw2 v w r1 0 _ _ h C hr hlk _ _ hW hS ls (lv_sub hl [2, 4, 5, 1, 0] rfl)
    rw [if_neg c30] at h
    by_cases c31 : (x : Int32) = 11
    · rw [if_pos c31] at h
      refine lv_tableIn (off := 941) (tgt := 966) hx hb dL_acts_25 (by rw [c31]; decide) (by rw [c31]; decide) (by rw [c31]; rfl) (by decide) ?_
      exact t_L_acts_966 l g FU Mw2 v w r1 0 _ _ h C hr hlk _ _ hW hS ls (lv_sub hl [2, 4, 5, 1, 0] rfl)
    rw [if_neg c31] at h
    refine lv_tableOut (tgt := 1137) hx hb dL_acts_25 (by have nc20 := lv_neT (a := 0) c20 rfl; have nc21 := lv_neT (a := 1) c21 rfl; have nc22 := lv_neT (a := 2) c22 rfl; have nc23 := lv_neT (a := 3) c23 rfl; have nc24 := lv_neT (a := 4) c24 rfl; have nc25 := lv_neT (a := 5) c25 rfl; have nc26 := lv_neT (a := 6) c26 rfl; have nc27 := lv_neT (a := 7) c27 rfl; have nc28 := lv_neT (a := 8) c28 rfl; have nc29 := lv_neT (a := 9) c29 rfl; have nc30 := lv_neT (a := 10) c30 rfl; have nc31 := lv_neT (a := 11) c31 rfl; omega) (by decide) ?_
    exact t_L_acts_1137 l g FU Mw2 v w r1 0 _ _ h C hr hlk _ _ hW hS ls (lv_sub hl [2, 4, 5, 1, 0] rfl)
