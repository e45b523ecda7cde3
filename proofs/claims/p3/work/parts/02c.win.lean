def cJ6_bitCount_0f7a4_w1 : List UInt8 := [0x1a, 0x1a, 0x07, 0x7c, 0x60, 0x13, 0x01, 0x0b, 0x7e, 0x3b, 0x1a, 0x1a, 0x10, 0x08, 0x7c, 0x60, 0x3b, 0x1a, 0x1a, 0x10, 0x10, 0x7c, 0x60, 0x3b, 0x1a, 0x10, 0x3f, 0x7e, 0xac]
def cJ6_bitCount_0f7a4_r1 : List UInt8 := cJ6_bitCount_0f7a4_w1 ++ []
def cJ6_bitCount_0f7a4_w0 : List UInt8 := [0x1a, 0x1a, 0x04, 0x7c, 0x13, 0x01, 0x09, 0x7e, 0x64, 0x3b, 0x1a, 0x13, 0x01, 0x0a, 0x7e, 0x1a, 0x05, 0x7c, 0x13, 0x01, 0x0a, 0x7e, 0x60, 0x3b]
def cJ6_bitCount_0f7a4_r0 : List UInt8 := cJ6_bitCount_0f7a4_w0 ++ cJ6_bitCount_0f7a4_r1
theorem cJ6_bitCount_0f7a4_s0 : dw_S cJ6_bitCount_0f7a4 0 cJ6_bitCount_0f7a4_r0 := dw_S0 (by decide +kernel)
theorem cJ6_bitCount_0f7a4_s1 : dw_S cJ6_bitCount_0f7a4 24 cJ6_bitCount_0f7a4_r1 := dw_Sn (w := cJ6_bitCount_0f7a4_w0) (r := cJ6_bitCount_0f7a4_r1) cJ6_bitCount_0f7a4_s0 (by decide +kernel)
theorem cJ6_bitCount_0f7a4_k0 : dw_ok cJ6_bitCount_0f7a4 (ByteArray.mk cJ6_bitCount_0f7a4_w0.toArray) 0 := dw_Sw (r := cJ6_bitCount_0f7a4_r1) cJ6_bitCount_0f7a4_s0
theorem cJ6_bitCount_0f7a4_k1 : dw_ok cJ6_bitCount_0f7a4 (ByteArray.mk cJ6_bitCount_0f7a4_w1.toArray) 24 := dw_Sw (r := []) cJ6_bitCount_0f7a4_s1
def cJ7_rangeCheck_23922_w2 : List UInt8 := [0xbb, 0x00, 0x44, 0x59, 0x1b, 0xb7, 0x00, 0x46, 0xbf, 0x1c, 0x1a, 0xa4, 0x00, 0x0c, 0xbb, 0x00, 0x44, 0x59, 0x1c, 0xb7, 0x00, 0x46, 0xbf, 0xb1]
def cJ7_rangeCheck_23922_r2 : List UInt8 := cJ7_rangeCheck_23922_w2 ++ []
def cJ7_rangeCheck_23922_w1 : List UInt8 := [0x12, 0x39, 0xb6, 0x00, 0x32, 0x1c, 0xb6, 0x00, 0x36, 0x12, 0x3b, 0xb6, 0x00, 0x32, 0xb6, 0x00, 0x3d, 0xb7, 0x00, 0x41, 0xbf, 0x1b, 0x9c, 0x00, 0x0c]
def cJ7_rangeCheck_23922_r1 : List UInt8 := cJ7_rangeCheck_23922_w1 ++ cJ7_rangeCheck_23922_r2
def cJ7_rangeCheck_23922_w0 : List UInt8 := [0x1b, 0x1c, 0xa4, 0x00, 0x2c, 0xbb, 0x00, 0x2b, 0x59, 0xbb, 0x00, 0x2d, 0x59, 0xb7, 0x00, 0x2f, 0x12, 0x30, 0xb6, 0x00, 0x32, 0x1b, 0xb6, 0x00, 0x36]
def cJ7_rangeCheck_23922_r0 : List UInt8 := cJ7_rangeCheck_23922_w0 ++ cJ7_rangeCheck_23922_r1
theorem cJ7_rangeCheck_23922_s0 : dw_S cJ7_rangeCheck_23922 0 cJ7_rangeCheck_23922_r0 := dw_S0 (by decide +kernel)
theorem cJ7_rangeCheck_23922_s1 : dw_S cJ7_rangeCheck_23922 25 cJ7_rangeCheck_23922_r1 := dw_Sn (w := cJ7_rangeCheck_23922_w0) (r := cJ7_rangeCheck_23922_r1) cJ7_rangeCheck_23922_s0 (by decide +kernel)
theorem cJ7_rangeCheck_23922_k0 : dw_ok cJ7_rangeCheck_23922 (ByteArray.mk cJ7_rangeCheck_23922_w0.toArray) 0 := dw_Sw (r := cJ7_rangeCheck_23922_r1) cJ7_rangeCheck_23922_s0
theorem cJ7_rangeCheck_23922_s2 : dw_S cJ7_rangeCheck_23922 50 cJ7_rangeCheck_23922_r2 := dw_Sn (w := cJ7_rangeCheck_23922_w1) (r := cJ7_rangeCheck_23922_r2) cJ7_rangeCheck_23922_s1 (by decide +kernel)
theorem cJ7_rangeCheck_23922_k1 : dw_ok cJ7_rangeCheck_23922 (ByteArray.mk cJ7_rangeCheck_23922_w1.toArray) 25 := dw_Sw (r := cJ7_rangeCheck_23922_r2) cJ7_rangeCheck_23922_s1
theorem cJ7_rangeCheck_23922_k2 : dw_ok cJ7_rangeCheck_23922 (ByteArray.mk cJ7_rangeCheck_23922_w2.toArray) 50 := dw_Sw (r := []) cJ7_rangeCheck_23922_s2
def cL_law_w3 : List UInt8 := [0x84, 0x04, 0x06, 0xa7, 0xf9, 0x77, 0x04, 0xac]
def cL_law_r3 : List UInt8 := cL_law_w3 ++ []
def cL_law_w2 : List UInt8 := [0x2b, 0x2a, 0x15, 0x04, 0x04, 0x60, 0x2e, 0x2a, 0x15, 0x04, 0x05, 0x60, 0x2e, 0x2a, 0x15, 0x04, 0x06, 0x60, 0x2e, 0x2a, 0x15, 0x04, 0x07, 0x60, 0x2e, 0x2a, 0x15, 0x04, 0x08, 0x60, 0x2e, 0x2d, 0xb8, 0x00, 0x83, 0x36, 0x05, 0x2c, 0x2a, 0x15, 0x04, 0x04, 0x60, 0x2e, 0x2a, 0x15, 0x04, 0x05, 0x60, 0x2e, 0x2a, 0x15, 0x04, 0x06, 0x60, 0x2e, 0x2a, 0x15, 0x04, 0x07, 0x60, 0x2e, 0x2a, 0x15, 0x04, 0x08, 0x60, 0x2e, 0xb6, 0x00, 0x88, 0x36, 0x06, 0xa7, 0x05, 0x80, 0x2b, 0x2a, 0x15, 0x04, 0x04, 0x60, 0x2e, 0xb8, 0x00, 0x89, 0x36, 0x05, 0x2c, 0x2a, 0x15, 0x04, 0x04, 0x60, 0x2e, 0xb6, 0x00, 0x8c, 0x2c, 0xb6, 0x00, 0x8d, 0x15, 0x05, 0x9f, 0x00, 0x05, 0x03, 0xac, 0xa7, 0x05, 0x5c, 0x2b, 0x2d, 0xb8, 0x00, 0x90, 0x36, 0x05, 0x2c, 0xb6, 0x00, 0x93, 0x36, 0x06, 0xa7, 0x05, 0x4c, 0x2b, 0x2a, 0x15, 0x04, 0x04, 0x60, 0x2e, 0x2d, 0xb8, 0x00, 0x94, 0x36, 0x05, 0x2c, 0x2a, 0x15, 0x04, 0x04, 0x60, 0x2e, 0xb6, 0x00, 0x97, 0x36, 0x06, 0xa7, 0x05, 0x30, 0x2b, 0x2a, 0x15, 0x04, 0x04, 0x60, 0x2e, 0xb6, 0x00, 0x98, 0x57, 0x2c, 0x2a, 0x15, 0x04, 0x04, 0x60, 0x2e, 0xb6, 0x00, 0x9c, 0x57, 0xa7, 0x05, 0x17, 0x2b, 0x2a, 0x15, 0x04, 0x04, 0x60, 0x2e, 0xb6, 0x00, 0x9d, 0x57, 0x2c, 0x2a, 0x15, 0x04, 0x04, 0x60, 0x2e, 0xb6, 0x00, 0xa0, 0x57, 0xa7, 0x04, 0xfe, 0x2b, 0x2a, 0x15, 0x04, 0x04, 0x60, 0x2e, 0x2a, 0x15, 0x04, 0x05, 0x60, 0x2e, 0x2d, 0xb8, 0x00, 0xa1, 0x36, 0x05, 0x2c, 0x2a, 0x15, 0x04, 0x04, 0x60, 0x2e, 0x2a, 0x15, 0x04, 0x05, 0x60, 0x2e, 0xb6, 0x00, 0xa4, 0x36, 0x06, 0xa7, 0x04, 0xd6, 0x2b, 0x2a, 0x15, 0x04, 0x04, 0x60, 0x2e, 0x2a, 0x15, 0x04, 0x05, 0x60, 0x2e, 0x2a, 0x15, 0x04, 0x06, 0x60, 0x2e, 0x2d, 0xb8, 0x00, 0xa5, 0x36, 0x05, 0x2c, 0x2a, 0x15, 0x04, 0x04, 0x60, 0x2e, 0x2a, 0x15, 0x04, 0x05, 0x60, 0x2e, 0x2a, 0x15, 0x04, 0x06, 0x60, 0x2e, 0xb6, 0x00, 0xa8, 0x36, 0x06, 0xa7, 0x04, 0xa2, 0x2b, 0x2a, 0x15, 0x04, 0x04, 0x60, 0x2e, 0x2a, 0x15, 0x04, 0x05, 0x60, 0x2e, 0x2a, 0x15, 0x04, 0x06, 0x60, 0x2e, 0x2d, 0xb8, 0x00, 0xa9, 0x36, 0x05, 0x2c, 0x2a, 0x15, 0x04, 0x04, 0x60, 0x2e, 0x2a, 0x15, 0x04, 0x05, 0x60, 0x2e, 0x2a, 0x15, 0x04, 0x06, 0x60, 0x2e, 0xb6, 0x00, 0xab, 0x36, 0x06, 0xa7, 0x04, 0x6e, 0x2b, 0x2a, 0x15, 0x04, 0x04, 0x60, 0x2e, 0x2a, 0x15, 0x04, 0x05, 0x60, 0x2e, 0xb6, 0x00, 0xac, 0x57, 0x2c, 0x2a, 0x15, 0x04, 0x04, 0x60, 0x2e, 0x2a, 0x15, 0x04, 0x05, 0x60, 0x2e, 0xb6, 0x00, 0xb0, 0x57, 0xa7, 0x04, 0x49, 0x2b, 0x2a, 0x15, 0x04, 0x04, 0x60, 0x2e, 0x2d, 0xb8, 0x00, 0xb1, 0x36, 0x05, 0x2c, 0x2a, 0x15, 0x04, 0x04, 0x60, 0x2e, 0xb6, 0x00, 0xb3, 0x36, 0x06, 0xa7, 0x04, 0x2d, 0x2b, 0x2a, 0x15, 0x04, 0x04, 0x60, 0x2e, 0x2a, 0x15, 0x04, 0x05, 0x60, 0x2e, 0x2d, 0xb8, 0x00, 0xb4, 0x36, 0x05, 0x2c, 0x2a, 0x15, 0x04, 0x04, 0x60, 0x2e, 0x2a, 0x15, 0x04, 0x05, 0x60, 0x2e, 0xb6, 0x00, 0xb6, 0x36, 0x06, 0xa7, 0x04, 0x05, 0x2b, 0x2a, 0x15, 0x04, 0x04, 0x60, 0x2e, 0x2a, 0x15, 0x04, 0x05, 0x60, 0x2e, 0x2d, 0xb8, 0x00, 0xb7, 0x36, 0x05, 0x2c, 0x2a, 0x15, 0x04, 0x04, 0x60, 0x2e, 0x2a, 0x15, 0x04, 0x05, 0x60, 0x2e, 0xb6, 0x00, 0xb9, 0x36, 0x06, 0xa7, 0x03, 0xdd, 0x2b, 0x2a, 0x15, 0x04, 0x04, 0x60, 0x2e, 0x2a, 0x15, 0x04, 0x05, 0x60, 0x2e, 0x2d, 0xb8, 0x00, 0xba, 0x36, 0x05, 0x2c, 0x2a, 0x15, 0x04, 0x04, 0x60, 0x2e, 0x2a, 0x15, 0x04, 0x05, 0x60, 0x2e, 0xb6, 0x00, 0xbc, 0x36, 0x06, 0xa7, 0x03, 0xb5, 0x2b, 0x2a, 0x15, 0x04, 0x04, 0x60, 0x2e, 0x2a, 0x15, 0x04, 0x05, 0x60, 0x2e, 0x2d, 0xb8, 0x00, 0xbd, 0x36, 0x05, 0x2c, 0x2a, 0x15, 0x04, 0x04, 0x60, 0x2e, 0x2a, 0x15, 0x04, 0x05, 0x60, 0x2e, 0xb6, 0x00, 0xbf, 0x36, 0x06, 0xa7, 0x03, 0x8d, 0x2b, 0x2a, 0x15, 0x04, 0x04, 0x60, 0x2e, 0x2a, 0x15, 0x04, 0x05, 0x60, 0x2e, 0x2a, 0x15, 0x04, 0x06, 0x60, 0x2e, 0x2a, 0x15, 0x04, 0x07, 0x60, 0x2e, 0x2d, 0xb8, 0x00, 0xc0, 0x36, 0x05, 0x2c, 0x2a, 0x15, 0x04, 0x04, 0x60, 0x2e, 0x2a, 0x15, 0x04, 0x05, 0x60, 0x2e, 0x2a, 0x15, 0x04, 0x06, 0x60, 0x2e, 0x2a, 0x15, 0x04, 0x07, 0x60, 0x2e, 0xb6, 0x00, 0xc3, 0x36, 0x06, 0xa7, 0x03, 0x4d, 0x2b, 0x2a, 0x15, 0x04, 0x04, 0x60, 0x2e, 0x2a, 0x15, 0x04, 0x05, 0x60, 0x2e, 0x2d, 0xb8, 0x00, 0xc4, 0x36, 0x05, 0x2c, 0x2a, 0x15, 0x04, 0x04, 0x60, 0x2e, 0x2a, 0x15, 0x04, 0x05, 0x60, 0x2e, 0xb6, 0x00, 0xc6, 0x36, 0x06, 0xa7, 0x03, 0x25, 0x2b, 0x2a, 0x15, 0x04, 0x04, 0x60, 0x2e, 0x2d, 0xb8, 0x00, 0xc7, 0x36, 0x05, 0x2c, 0x2a, 0x15, 0x04, 0x04, 0x60, 0x2e, 0xb6, 0x00, 0xc9, 0x36, 0x06, 0xa7, 0x03, 0x09, 0x2b, 0x2a, 0x15, 0x04, 0x04, 0x60, 0x2e, 0x2d, 0xb8, 0x00, 0xca, 0x36, 0x05, 0x2c, 0x2a, 0x15, 0x04, 0x04, 0x60, 0x2e, 0xb6, 0x00, 0xcc, 0x36, 0x06, 0xa7, 0x02, 0xed, 0x2b, 0x2a, 0x15, 0x04, 0x04, 0x60, 0x2e, 0x2a, 0x15, 0x04, 0x05, 0x60, 0x2e, 0x2d, 0xb8, 0x00, 0xcd, 0x36, 0x05, 0x2c, 0x2a, 0x15, 0x04, 0x04, 0x60, 0x2e, 0x2a, 0x15, 0x04, 0x05, 0x60, 0x2e, 0xb6, 0x00, 0xcf, 0x36, 0x06, 0xa7, 0x02, 0xc5, 0x2b, 0x2a, 0x15, 0x04, 0x04, 0x60, 0x2e, 0x2d, 0xb8, 0x00, 0xd0, 0x36, 0x05, 0x2c, 0x2a, 0x15, 0x04, 0x04, 0x60, 0x2e, 0xb6, 0x00, 0xd2, 0x36, 0x06, 0xa7, 0x02, 0xa9, 0x2b, 0x2a, 0x15, 0x04, 0x04, 0x60, 0x2e, 0x2d, 0xb8, 0x00, 0xd3, 0x36, 0x05, 0x2c, 0x2a, 0x15, 0x04, 0x04, 0x60, 0x2e, 0xb6, 0x00, 0xd5, 0x36, 0x06, 0xa7, 0x02, 0x8d, 0x2b, 0x2a, 0x15, 0x04, 0x04, 0x60, 0x2e, 0x2a, 0x15, 0x04, 0x05, 0x60, 0x2e, 0x2d, 0xb8, 0x00, 0xd6, 0x36, 0x05, 0x2c, 0x2a, 0x15, 0x04, 0x04, 0x60, 0x2e, 0x2a, 0x15, 0x04, 0x05, 0x60, 0x2e, 0xb6, 0x00, 0xd8, 0x36, 0x06, 0xa7, 0x02, 0x65, 0x2b, 0x2a, 0x15, 0x04, 0x04, 0x60, 0x2e, 0x2a, 0x15, 0x04, 0x05, 0x60, 0x2e, 0x2d, 0xb8, 0x00, 0xd9, 0x36, 0x05, 0x2c, 0x2a, 0x15, 0x04, 0x04, 0x60, 0x2e, 0x2a, 0x15, 0x04, 0x05, 0x60, 0x2e, 0xb6, 0x00, 0xdb, 0x36, 0x06, 0xa7, 0x02, 0x3d, 0x2b, 0x2a, 0x15, 0x04, 0x04, 0x60, 0x2e, 0x2d, 0xb8, 0x00, 0xdc, 0x36, 0x05, 0x2c, 0x2a, 0x15, 0x04, 0x04, 0x60, 0x2e, 0xb6, 0x00, 0xde, 0x36, 0x06, 0xa7, 0x02, 0x21, 0x2b, 0x2a, 0x15, 0x04, 0x04, 0x60, 0x2e, 0x2a, 0x15, 0x04, 0x05, 0x60, 0x2e, 0x2d, 0xb8, 0x00, 0xdf, 0x36, 0x05, 0x2c, 0x2a, 0x15, 0x04, 0x04, 0x60, 0x2e, 0x2a, 0x15, 0x04, 0x05, 0x60, 0x2e, 0xb6, 0x00, 0xe1, 0x36, 0x06, 0xa7, 0x01, 0xf9, 0x2b, 0x2a, 0x15, 0x04, 0x04, 0x60, 0x2e, 0x2a, 0x15, 0x04, 0x05, 0x60, 0x2e, 0x2d, 0xb8, 0x00, 0xe2, 0x36, 0x05, 0x2c, 0x2a, 0x15, 0x04, 0x04, 0x60, 0x2e, 0x2a, 0x15, 0x04, 0x05, 0x60, 0x2e, 0xb6, 0x00, 0xe4, 0x37, 0x06, 0xa7, 0x01, 0xd1, 0x2b, 0x2a, 0x15, 0x04, 0x04, 0x60, 0x2e, 0x2a, 0x15, 0x04, 0x05, 0x60, 0x2e, 0x2d, 0xb8, 0x00, 0xe5, 0x36, 0x05, 0x2c, 0x2a, 0x15, 0x04, 0x04, 0x60, 0x2e, 0x2a, 0x15, 0x04, 0x05, 0x60, 0x2e, 0xb6, 0x00, 0xe7, 0x36, 0x06, 0xa7, 0x01, 0xa9, 0x2b, 0x2a, 0x15, 0x04, 0x04, 0x60, 0x2e, 0x2a, 0x15, 0x04, 0x05, 0x60, 0x2e, 0x2d, 0xb8, 0x00, 0xe8, 0x36, 0x05, 0x2c, 0x2a, 0x15, 0x04, 0x04, 0x60, 0x2e, 0x2a, 0x15, 0x04, 0x05, 0x60, 0x2e, 0xb6, 0x00, 0xea, 0x36, 0x06, 0xa7, 0x01, 0x81, 0x2b, 0x2a, 0x15, 0x04, 0x04, 0x60, 0x2e, 0x2a, 0x15, 0x04, 0x05, 0x60, 0x2e, 0xb6, 0x00, 0xeb, 0x57, 0x2c, 0x2a, 0x15, 0x04, 0x04, 0x60, 0x2e, 0x2a, 0x15, 0x04, 0x05, 0x60, 0x2e, 0xb6, 0x00, 0xee, 0x57, 0xa7, 0x01, 0x5c, 0x2b, 0x2a, 0x15, 0x04, 0x04, 0x60, 0x2e, 0x2d, 0xb8, 0x00, 0xef, 0x36, 0x05, 0x2c, 0x2a, 0x15, 0x04, 0x04, 0x60, 0x2e, 0xb6, 0x00, 0xf1, 0x36, 0x06, 0xa7, 0x01, 0x40, 0x2b, 0x2a, 0x15, 0x04, 0x04, 0x60, 0x2e, 0x2a, 0x15, 0x04, 0x05, 0x60, 0x2e, 0x2d, 0xb8, 0x00, 0xf2, 0x36, 0x05, 0x2c, 0x2a, 0x15, 0x04, 0x04, 0x60, 0x2e, 0x2a, 0x15, 0x04, 0x05, 0x60, 0x2e, 0xb6, 0x00, 0xf4, 0x36, 0x06, 0xa7, 0x01, 0x18, 0x2b, 0x2a, 0x15, 0x04, 0x04, 0x60, 0x2e, 0x2d, 0xb8, 0x00, 0xf5, 0x36, 0x05, 0x2c, 0x2a, 0x15, 0x04, 0x04, 0x60, 0x2e, 0xb6, 0x00, 0xf7, 0x36, 0x06, 0xa7, 0x00, 0xfc, 0x2b, 0x2a, 0x15, 0x04, 0x04, 0x60, 0x2e, 0x2a, 0x15, 0x04, 0x05, 0x60, 0x2e, 0x2d, 0xb8, 0x00, 0xf8, 0x36, 0x05, 0x2c, 0x2a, 0x15, 0x04, 0x04, 0x60, 0x2e, 0x2a, 0x15, 0x04, 0x05, 0x60, 0x2e, 0xb6, 0x00, 0xfa, 0x36, 0x06, 0xa7, 0x00, 0xd4, 0x2b, 0x2a, 0x15, 0x04, 0x04, 0x60, 0x2e, 0x2a, 0x15, 0x04, 0x05, 0x60, 0x2e, 0x2a, 0x15, 0x04, 0x06, 0x60, 0x2e, 0x2d, 0xb8, 0x00, 0xfb, 0x36, 0x05, 0x2c, 0x2a, 0x15, 0x04, 0x04, 0x60, 0x2e, 0x2a, 0x15, 0x04, 0x05, 0x60, 0x2e, 0x2a, 0x15, 0x04, 0x06, 0x60, 0x2e, 0xb6, 0x00, 0xfd, 0x36, 0x06, 0xa7, 0x00, 0xa0, 0x2b, 0x2a, 0x15, 0x04, 0x04, 0x60, 0x2e, 0x2a, 0x15, 0x04, 0x05, 0x60, 0x2e, 0xb6, 0x00, 0xfe, 0x57, 0x2c, 0x2a, 0x15, 0x04, 0x04, 0x60, 0x2e, 0x2a, 0x15, 0x04, 0x05, 0x60, 0x2e, 0xb6, 0x01, 0x01, 0x57, 0xa7, 0x00, 0x7b, 0x2b, 0x2a, 0x15, 0x04, 0x04, 0x60, 0x2e, 0x2d, 0xb8, 0x01, 0x02, 0x36, 0x05, 0x2c, 0x2a, 0x15, 0x04, 0x04, 0x60, 0x2e, 0xb6, 0x01, 0x04, 0x36, 0x06, 0xa7, 0x00, 0x5f, 0x2b, 0x2a, 0x15, 0x04, 0x04, 0x60, 0x2e, 0x2a, 0x15, 0x04, 0x05, 0x60, 0x2e, 0x2d, 0xb8, 0x01, 0x05, 0x36, 0x05, 0x2c, 0x2a, 0x15, 0x04, 0x04, 0x60, 0x2e, 0x2a, 0x15, 0x04, 0x05, 0x60, 0x2e, 0xb6, 0x01, 0x07, 0x36, 0x06, 0xa7, 0x00, 0x37, 0x2b, 0x2a, 0x15, 0x04, 0x04, 0x60, 0x2e, 0x2a, 0x15, 0x04, 0x05, 0x60, 0x2e, 0x2a, 0x15, 0x04, 0x06, 0x60, 0x2e, 0x2d, 0xb8, 0x01, 0x08, 0x36, 0x05, 0x2c, 0x2a, 0x15, 0x04, 0x04, 0x60, 0x2e, 0x2a, 0x15, 0x04, 0x05, 0x60, 0x2e, 0x2a, 0x15, 0x04, 0x06, 0x60, 0x2e, 0xb6, 0x01, 0x0a, 0x36, 0x06, 0xa7, 0x00, 0x03]
def cL_law_r2 : List UInt8 := cL_law_w2 ++ cL_law_r3
def cL_law_w1 : List UInt8 := [0x2a, 0xbe, 0x10, 0x06, 0x64, 0xa3, 0x06, 0x85, 0x2a, 0x15, 0x04, 0x2e, 0x10, 0x3f, 0x7e, 0xaa, 0x00, 0x00, 0x00, 0x00, 0x00, 0x06, 0x75, 0x00, 0x00, 0x00, 0x00, 0x00, 0x00, 0x00, 0x26, 0x00, 0x00, 0x00, 0xac, 0x00, 0x00, 0x00, 0xf8, 0x00, 0x00, 0x01, 0x1c, 0x00, 0x00, 0x01, 0x2c, 0x00, 0x00, 0x01, 0x48, 0x00, 0x00, 0x01, 0x61, 0x00, 0x00, 0x01, 0x7a, 0x00, 0x00, 0x01, 0xa2, 0x00, 0x00, 0x01, 0xd6, 0x00, 0x00, 0x02, 0x0a, 0x00, 0x00, 0x02, 0x2f, 0x00, 0x00, 0x02, 0x4b, 0x00, 0x00, 0x02, 0x73, 0x00, 0x00, 0x02, 0x9b, 0x00, 0x00, 0x02, 0xc3, 0x00, 0x00, 0x02, 0xeb, 0x00, 0x00, 0x03, 0x2b, 0x00, 0x00, 0x03, 0x53, 0x00, 0x00, 0x03, 0x6f, 0x00, 0x00, 0x03, 0x8b, 0x00, 0x00, 0x03, 0xb3, 0x00, 0x00, 0x03, 0xcf, 0x00, 0x00, 0x03, 0xeb, 0x00, 0x00, 0x04, 0x13, 0x00, 0x00, 0x04, 0x3b, 0x00, 0x00, 0x04, 0x57, 0x00, 0x00, 0x04, 0x7f, 0x00, 0x00, 0x04, 0xa7, 0x00, 0x00, 0x04, 0xcf, 0x00, 0x00, 0x04, 0xf7, 0x00, 0x00, 0x05, 0x1c, 0x00, 0x00, 0x05, 0x38, 0x00, 0x00, 0x05, 0x60, 0x00, 0x00, 0x05, 0x7c, 0x00, 0x00, 0x05, 0xa4, 0x00, 0x00, 0x05, 0xd8, 0x00, 0x00, 0x05, 0xfd, 0x00, 0x00, 0x06, 0x19, 0x00, 0x00, 0x06, 0x41]
def cL_law_r1 : List UInt8 := cL_law_w1 ++ cL_law_r2
def cL_law_w0 : List UInt8 := [0xbb, 0x00, 0x08, 0x59, 0xb7, 0x00, 0x7f, 0x4c, 0xbb, 0x00, 0x80, 0x59, 0xb7, 0x00, 0x82, 0x4d, 0x04, 0xbc, 0x0b, 0x4e, 0x03, 0x36, 0x04, 0x15, 0x04]
def cL_law_r0 : List UInt8 := cL_law_w0 ++ cL_law_r1
theorem cL_law_s0 : dw_S cL_law 0 cL_law_r0 := dw_S0 (by decide +kernel)
theorem cL_law_s1 : dw_S cL_law 25 cL_law_r1 := dw_Sn (w := cL_law_w0) (r := cL_law_r1) cL_law_s0 (by decide +kernel)
theorem cL_law_k0 : dw_ok cL_law (ByteArray.mk cL_law_w0.toArray) 0 := dw_Sw (r := cL_law_r1) cL_law_s0
theorem cL_law_s2 : dw_S cL_law 212 cL_law_r2 := dw_Sn (w := cL_law_w1) (r := cL_law_r2) cL_law_s1 (by decide +kernel)
theorem cL_law_k1 : dw_ok cL_law (ByteArray.mk cL_law_w1.toArray) 25 := dw_Sw (r := cL_law_r2) cL_law_s1
theorem cL_law_s3 : dw_S cL_law 1693 cL_law_r3 := dw_Sn (w := cL_law_w2) (r := cL_law_r3) cL_law_s2 (by decide +kernel)
theorem cL_law_k3 : dw_ok cL_law (ByteArray.mk cL_law_w3.toArray) 1693 := dw_Sw (r := []) cL_law_s3
def cX0_addStep_w2 : List UInt8 := [0x15, 0x04, 0x4f, 0x2a, 0xb4, 0x00, 0x31, 0x2a, 0xb4, 0x00, 0xa3, 0x15, 0x05, 0x54, 0x2a, 0x59, 0xb4, 0x00, 0xa3, 0x04, 0x60, 0xb5, 0x00, 0xa3, 0xb1]
def cX0_addStep_r2 : List UInt8 := cX0_addStep_w2 ++ []
def cX0_addStep_w1 : List UInt8 := [0x2a, 0xb4, 0x00, 0xa3, 0x1c, 0x4f, 0x2a, 0xb4, 0x00, 0x2b, 0x2a, 0xb4, 0x00, 0xa3, 0x1d, 0x4f, 0x2a, 0xb4, 0x00, 0x2e, 0x2a, 0xb4, 0x00, 0xa3]
def cX0_addStep_r1 : List UInt8 := cX0_addStep_w1 ++ cX0_addStep_r2
def cX0_addStep_w0 : List UInt8 := [0x2a, 0xb4, 0x00, 0xa3, 0x2a, 0xb4, 0x00, 0x25, 0xbe, 0xa2, 0x00, 0x41, 0x2a, 0xb4, 0x00, 0x25, 0x2a, 0xb4, 0x00, 0xa3, 0x1b, 0x4f, 0x2a, 0xb4, 0x00, 0x28]
def cX0_addStep_r0 : List UInt8 := cX0_addStep_w0 ++ cX0_addStep_r1
theorem cX0_addStep_s0 : dw_S cX0_addStep 0 cX0_addStep_r0 := dw_S0 (by decide +kernel)
theorem cX0_addStep_s1 : dw_S cX0_addStep 26 cX0_addStep_r1 := dw_Sn (w := cX0_addStep_w0) (r := cX0_addStep_r1) cX0_addStep_s0 (by decide +kernel)
theorem cX0_addStep_k0 : dw_ok cX0_addStep (ByteArray.mk cX0_addStep_w0.toArray) 0 := dw_Sw (r := cX0_addStep_r1) cX0_addStep_s0
theorem cX0_addStep_s2 : dw_S cX0_addStep 50 cX0_addStep_r2 := dw_Sn (w := cX0_addStep_w1) (r := cX0_addStep_r2) cX0_addStep_s1 (by decide +kernel)
theorem cX0_addStep_k1 : dw_ok cX0_addStep (ByteArray.mk cX0_addStep_w1.toArray) 26 := dw_Sw (r := cX0_addStep_r2) cX0_addStep_s1
theorem cX0_addStep_k2 : dw_ok cX0_addStep (ByteArray.mk cX0_addStep_w2.toArray) 50 := dw_Sw (r := []) cX0_addStep_s2
def cX0_bringLeast_w8 : List UInt8 := [0x32, 0x15, 0x04, 0x16, 0x08, 0x50, 0x84, 0x07, 0x01, 0xa7, 0xff, 0xcd, 0x04, 0xac]
def cX0_bringLeast_r8 : List UInt8 := cX0_bringLeast_w8 ++ []
def cX0_bringLeast_w7 : List UInt8 := [0xb4, 0x00, 0x11, 0x15, 0x07, 0x32, 0x1b, 0x2a, 0xb4, 0x00, 0x11, 0x15, 0x07, 0x32, 0x15, 0x04, 0x2f, 0x50, 0x2a, 0xb4, 0x00, 0x11, 0x15, 0x07]
def cX0_bringLeast_r7 : List UInt8 := cX0_bringLeast_w7 ++ cX0_bringLeast_r8
def cX0_bringLeast_w6 : List UInt8 := [0xa7, 0xff, 0xcc, 0x03, 0x36, 0x07, 0x15, 0x07, 0x1c, 0xa2, 0x00, 0x33, 0x2a, 0xb4, 0x00, 0x11, 0x15, 0x07, 0x32, 0x1b, 0x2f, 0x37, 0x08, 0x2a]
def cX0_bringLeast_r6 : List UInt8 := cX0_bringLeast_w6 ++ cX0_bringLeast_r7
def cX0_bringLeast_w5 : List UInt8 := [0x15, 0x07, 0x2a, 0xb4, 0x00, 0x11, 0x1d, 0x32, 0x15, 0x07, 0x2f, 0x50, 0x2a, 0xb4, 0x00, 0x11, 0x1d, 0x32, 0x15, 0x07, 0x16, 0x08, 0x50, 0x84, 0x07, 0x01]
def cX0_bringLeast_r5 : List UInt8 := cX0_bringLeast_w5 ++ cX0_bringLeast_r6
def cX0_bringLeast_w4 : List UInt8 := [0x2a, 0xb4, 0x00, 0x52, 0xa2, 0x00, 0x31, 0x2a, 0xb4, 0x00, 0x11, 0x1b, 0x32, 0x15, 0x07, 0x2f, 0x37, 0x08, 0x2a, 0xb4, 0x00, 0x11, 0x1b, 0x32]
def cX0_bringLeast_r4 : List UInt8 := cX0_bringLeast_w4 ++ cX0_bringLeast_r5
def cX0_bringLeast_w3 : List UInt8 := [0x84, 0x08, 0x01, 0xa7, 0xff, 0xc6, 0x84, 0x07, 0x01, 0xa7, 0xff, 0xb7, 0x1d, 0x02, 0xa0, 0x00, 0x05, 0x03, 0xac, 0x03, 0x36, 0x07, 0x15, 0x07]
def cX0_bringLeast_r3 : List UInt8 := cX0_bringLeast_w3 ++ cX0_bringLeast_r4
def cX0_bringLeast_w2 : List UInt8 := [0x1d, 0x02, 0x9f, 0x00, 0x0b, 0x16, 0x09, 0x16, 0x05, 0x94, 0x9c, 0x00, 0x0e, 0x15, 0x07, 0x3e, 0x15, 0x08, 0x36, 0x04, 0x16, 0x09, 0x37, 0x05]
def cX0_bringLeast_r2 : List UInt8 := cX0_bringLeast_w2 ++ cX0_bringLeast_r3
def cX0_bringLeast_w1 : List UInt8 := [0xa2, 0x00, 0x37, 0x2a, 0xb4, 0x00, 0x11, 0x15, 0x07, 0x32, 0x15, 0x08, 0x2f, 0xb8, 0x00, 0x6e, 0x37, 0x09, 0x16, 0x09, 0x09, 0x94, 0x9e, 0x00, 0x1b]
def cX0_bringLeast_r1 : List UInt8 := cX0_bringLeast_w1 ++ cX0_bringLeast_r2
def cX0_bringLeast_w0 : List UInt8 := [0x02, 0x3e, 0x02, 0x36, 0x04, 0x09, 0x37, 0x05, 0x1b, 0x36, 0x07, 0x15, 0x07, 0x1c, 0xa2, 0x00, 0x49, 0x1b, 0x36, 0x08, 0x15, 0x08, 0x2a, 0xb4, 0x00, 0x52]
def cX0_bringLeast_r0 : List UInt8 := cX0_bringLeast_w0 ++ cX0_bringLeast_r1
theorem cX0_bringLeast_s0 : dw_S cX0_bringLeast 0 cX0_bringLeast_r0 := dw_S0 (by decide +kernel)
theorem cX0_bringLeast_s1 : dw_S cX0_bringLeast 26 cX0_bringLeast_r1 := dw_Sn (w := cX0_bringLeast_w0) (r := cX0_bringLeast_r1) cX0_bringLeast_s0 (by decide +kernel)
theorem cX0_bringLeast_k0 : dw_ok cX0_bringLeast (ByteArray.mk cX0_bringLeast_w0.toArray) 0 := dw_Sw (r := cX0_bringLeast_r1) cX0_bringLeast_s0
theorem cX0_bringLeast_s2 : dw_S cX0_bringLeast 51 cX0_bringLeast_r2 := dw_Sn (w := cX0_bringLeast_w1) (r := cX0_bringLeast_r2) cX0_bringLeast_s1 (by decide +kernel)
theorem cX0_bringLeast_k1 : dw_ok cX0_bringLeast (ByteArray.mk cX0_bringLeast_w1.toArray) 26 := dw_Sw (r := cX0_bringLeast_r2) cX0_bringLeast_s1
theorem cX0_bringLeast_s3 : dw_S cX0_bringLeast 75 cX0_bringLeast_r3 := dw_Sn (w := cX0_bringLeast_w2) (r := cX0_bringLeast_r3) cX0_bringLeast_s2 (by decide +kernel)
theorem cX0_bringLeast_k2 : dw_ok cX0_bringLeast (ByteArray.mk cX0_bringLeast_w2.toArray) 51 := dw_Sw (r := cX0_bringLeast_r3) cX0_bringLeast_s2
theorem cX0_bringLeast_s4 : dw_S cX0_bringLeast 99 cX0_bringLeast_r4 := dw_Sn (w := cX0_bringLeast_w3) (r := cX0_bringLeast_r4) cX0_bringLeast_s3 (by decide +kernel)
theorem cX0_bringLeast_k3 : dw_ok cX0_bringLeast (ByteArray.mk cX0_bringLeast_w3.toArray) 75 := dw_Sw (r := cX0_bringLeast_r4) cX0_bringLeast_s3
theorem cX0_bringLeast_s5 : dw_S cX0_bringLeast 123 cX0_bringLeast_r5 := dw_Sn (w := cX0_bringLeast_w4) (r := cX0_bringLeast_r5) cX0_bringLeast_s4 (by decide +kernel)
theorem cX0_bringLeast_k4 : dw_ok cX0_bringLeast (ByteArray.mk cX0_bringLeast_w4.toArray) 99 := dw_Sw (r := cX0_bringLeast_r5) cX0_bringLeast_s4
theorem cX0_bringLeast_s6 : dw_S cX0_bringLeast 149 cX0_bringLeast_r6 := dw_Sn (w := cX0_bringLeast_w5) (r := cX0_bringLeast_r6) cX0_bringLeast_s5 (by decide +kernel)
theorem cX0_bringLeast_k5 : dw_ok cX0_bringLeast (ByteArray.mk cX0_bringLeast_w5.toArray) 123 := dw_Sw (r := cX0_bringLeast_r6) cX0_bringLeast_s5
theorem cX0_bringLeast_s7 : dw_S cX0_bringLeast 173 cX0_bringLeast_r7 := dw_Sn (w := cX0_bringLeast_w6) (r := cX0_bringLeast_r7) cX0_bringLeast_s6 (by decide +kernel)
theorem cX0_bringLeast_k6 : dw_ok cX0_bringLeast (ByteArray.mk cX0_bringLeast_w6.toArray) 149 := dw_Sw (r := cX0_bringLeast_r7) cX0_bringLeast_s6
theorem cX0_bringLeast_s8 : dw_S cX0_bringLeast 197 cX0_bringLeast_r8 := dw_Sn (w := cX0_bringLeast_w7) (r := cX0_bringLeast_r8) cX0_bringLeast_s7 (by decide +kernel)
theorem cX0_bringLeast_k7 : dw_ok cX0_bringLeast (ByteArray.mk cX0_bringLeast_w7.toArray) 173 := dw_Sw (r := cX0_bringLeast_r8) cX0_bringLeast_s7
theorem cX0_bringLeast_k8 : dw_ok cX0_bringLeast (ByteArray.mk cX0_bringLeast_w8.toArray) 197 := dw_Sw (r := []) cX0_bringLeast_s8
def cX0_clearCross_w9 : List UInt8 := [0x7e, 0x36, 0x05, 0x84, 0x06, 0x01, 0xa7, 0xff, 0xa0, 0x15, 0x05, 0xac]
def cX0_clearCross_r9 : List UInt8 := cX0_clearCross_w9 ++ []
def cX0_clearCross_w8 : List UInt8 := [0xa7, 0xff, 0xd7, 0x15, 0x05, 0x2a, 0xb4, 0x00, 0x11, 0x1b, 0x32, 0x15, 0x06, 0x2f, 0x09, 0x94, 0x9a, 0x00, 0x07, 0x04, 0xa7, 0x00, 0x04, 0x03]
def cX0_clearCross_r8 : List UInt8 := cX0_clearCross_w8 ++ cX0_clearCross_r9
def cX0_clearCross_w7 : List UInt8 := [0x15, 0x09, 0x32, 0x15, 0x06, 0x5c, 0x2f, 0x16, 0x07, 0x2a, 0xb4, 0x00, 0x11, 0x15, 0x09, 0x32, 0x1b, 0x2f, 0x69, 0x65, 0x50, 0x84, 0x09, 0x01]
def cX0_clearCross_r7 : List UInt8 := cX0_clearCross_w7 ++ cX0_clearCross_r8
def cX0_clearCross_w6 : List UInt8 := [0x2f, 0x21, 0x6d, 0x37, 0x07, 0x1b, 0x36, 0x09, 0x15, 0x09, 0x1c, 0xa2, 0x00, 0x29, 0x16, 0x07, 0x09, 0x94, 0x99, 0x00, 0x22, 0x2a, 0xb4, 0x00, 0x11]
def cX0_clearCross_r6 : List UInt8 := cX0_clearCross_w6 ++ cX0_clearCross_r7
def cX0_clearCross_w5 : List UInt8 := [0xa7, 0xff, 0xa0, 0x1b, 0x04, 0x60, 0x36, 0x06, 0x15, 0x06, 0x2a, 0xb4, 0x00, 0x52, 0xa2, 0x00, 0x5d, 0x2a, 0xb4, 0x00, 0x11, 0x1b, 0x32, 0x15, 0x06]
def cX0_clearCross_r5 : List UInt8 := cX0_clearCross_w5 ++ cX0_clearCross_r6
def cX0_clearCross_w4 : List UInt8 := [0xb4, 0x00, 0x11, 0x15, 0x06, 0x32, 0x1b, 0x2f, 0x09, 0x94, 0x9a, 0x00, 0x07, 0x04, 0xa7, 0x00, 0x04, 0x03, 0x7e, 0x36, 0x05, 0x84, 0x06, 0x01]
def cX0_clearCross_r4 : List UInt8 := cX0_clearCross_w4 ++ cX0_clearCross_r5
def cX0_clearCross_w3 : List UInt8 := [0x2f, 0x16, 0x07, 0x2a, 0xb4, 0x00, 0x11, 0x1b, 0x32, 0x15, 0x09, 0x2f, 0x69, 0x65, 0x50, 0x84, 0x09, 0x01, 0xa7, 0xff, 0xd4, 0x15, 0x05, 0x2a]
def cX0_clearCross_r3 : List UInt8 := cX0_clearCross_w3 ++ cX0_clearCross_r4
def cX0_clearCross_w2 : List UInt8 := [0x2a, 0xb4, 0x00, 0x52, 0xa2, 0x00, 0x29, 0x16, 0x07, 0x09, 0x94, 0x99, 0x00, 0x22, 0x2a, 0xb4, 0x00, 0x11, 0x15, 0x06, 0x32, 0x15, 0x09, 0x5c]
def cX0_clearCross_r2 : List UInt8 := cX0_clearCross_w2 ++ cX0_clearCross_r3
def cX0_clearCross_w1 : List UInt8 := [0x15, 0x06, 0x1c, 0xa2, 0x00, 0x60, 0x2a, 0xb4, 0x00, 0x11, 0x15, 0x06, 0x32, 0x1b, 0x2f, 0x21, 0x6d, 0x37, 0x07, 0x1b, 0x36, 0x09, 0x15, 0x09]
def cX0_clearCross_r1 : List UInt8 := cX0_clearCross_w1 ++ cX0_clearCross_r2
def cX0_clearCross_w0 : List UInt8 := [0x2a, 0xb4, 0x00, 0x11, 0x1b, 0x32, 0x1b, 0x2f, 0x42, 0x21, 0x09, 0x94, 0x9a, 0x00, 0x05, 0x03, 0xac, 0x04, 0x36, 0x05, 0x1b, 0x04, 0x60, 0x36, 0x06]
def cX0_clearCross_r0 : List UInt8 := cX0_clearCross_w0 ++ cX0_clearCross_r1
theorem cX0_clearCross_s0 : dw_S cX0_clearCross 0 cX0_clearCross_r0 := dw_S0 (by decide +kernel)
theorem cX0_clearCross_s1 : dw_S cX0_clearCross 25 cX0_clearCross_r1 := dw_Sn (w := cX0_clearCross_w0) (r := cX0_clearCross_r1) cX0_clearCross_s0 (by decide +kernel)
theorem cX0_clearCross_k0 : dw_ok cX0_clearCross (ByteArray.mk cX0_clearCross_w0.toArray) 0 := dw_Sw (r := cX0_clearCross_r1) cX0_clearCross_s0
theorem cX0_clearCross_s2 : dw_S cX0_clearCross 49 cX0_clearCross_r2 := dw_Sn (w := cX0_clearCross_w1) (r := cX0_clearCross_r2) cX0_clearCross_s1 (by decide +kernel)
theorem cX0_clearCross_k1 : dw_ok cX0_clearCross (ByteArray.mk cX0_clearCross_w1.toArray) 25 := dw_Sw (r := cX0_clearCross_r2) cX0_clearCross_s1
theorem cX0_clearCross_s3 : dw_S cX0_clearCross 73 cX0_clearCross_r3 := dw_Sn (w := cX0_clearCross_w2) (r := cX0_clearCross_r3) cX0_clearCross_s2 (by decide +kernel)
theorem cX0_clearCross_k2 : dw_ok cX0_clearCross (ByteArray.mk cX0_clearCross_w2.toArray) 49 := dw_Sw (r := cX0_clearCross_r3) cX0_clearCross_s2
theorem cX0_clearCross_s4 : dw_S cX0_clearCross 97 cX0_clearCross_r4 := dw_Sn (w := cX0_clearCross_w3) (r := cX0_clearCross_r4) cX0_clearCross_s3 (by decide +kernel)
theorem cX0_clearCross_k3 : dw_ok cX0_clearCross (ByteArray.mk cX0_clearCross_w3.toArray) 73 := dw_Sw (r := cX0_clearCross_r4) cX0_clearCross_s3
theorem cX0_clearCross_s5 : dw_S cX0_clearCross 121 cX0_clearCross_r5 := dw_Sn (w := cX0_clearCross_w4) (r := cX0_clearCross_r5) cX0_clearCross_s4 (by decide +kernel)
theorem cX0_clearCross_k4 : dw_ok cX0_clearCross (ByteArray.mk cX0_clearCross_w4.toArray) 97 := dw_Sw (r := cX0_clearCross_r5) cX0_clearCross_s4
theorem cX0_clearCross_s6 : dw_S cX0_clearCross 146 cX0_clearCross_r6 := dw_Sn (w := cX0_clearCross_w5) (r := cX0_clearCross_r6) cX0_clearCross_s5 (by decide +kernel)
theorem cX0_clearCross_k5 : dw_ok cX0_clearCross (ByteArray.mk cX0_clearCross_w5.toArray) 121 := dw_Sw (r := cX0_clearCross_r6) cX0_clearCross_s5
theorem cX0_clearCross_s7 : dw_S cX0_clearCross 171 cX0_clearCross_r7 := dw_Sn (w := cX0_clearCross_w6) (r := cX0_clearCross_r7) cX0_clearCross_s6 (by decide +kernel)
theorem cX0_clearCross_k6 : dw_ok cX0_clearCross (ByteArray.mk cX0_clearCross_w6.toArray) 146 := dw_Sw (r := cX0_clearCross_r7) cX0_clearCross_s6
theorem cX0_clearCross_s8 : dw_S cX0_clearCross 195 cX0_clearCross_r8 := dw_Sn (w := cX0_clearCross_w7) (r := cX0_clearCross_r8) cX0_clearCross_s7 (by decide +kernel)
theorem cX0_clearCross_k7 : dw_ok cX0_clearCross (ByteArray.mk cX0_clearCross_w7.toArray) 171 := dw_Sw (r := cX0_clearCross_r8) cX0_clearCross_s7
theorem cX0_clearCross_s9 : dw_S cX0_clearCross 219 cX0_clearCross_r9 := dw_Sn (w := cX0_clearCross_w8) (r := cX0_clearCross_r9) cX0_clearCross_s8 (by decide +kernel)
theorem cX0_clearCross_k8 : dw_ok cX0_clearCross (ByteArray.mk cX0_clearCross_w8.toArray) 195 := dw_Sw (r := cX0_clearCross_r9) cX0_clearCross_s8
theorem cX0_clearCross_k9 : dw_ok cX0_clearCross (ByteArray.mk cX0_clearCross_w9.toArray) 219 := dw_Sw (r := []) cX0_clearCross_s9
def cX0_commonDivisor_w1 : List UInt8 := [0x16, 0x04, 0x16, 0x06, 0x71, 0x37, 0x09, 0x16, 0x06, 0x37, 0x04, 0x16, 0x09, 0x37, 0x06, 0x84, 0x08, 0x01, 0xa7, 0xff, 0xdf, 0x16, 0x04, 0xad]
def cX0_commonDivisor_r1 : List UInt8 := cX0_commonDivisor_w1 ++ []
def cX0_commonDivisor_w0 : List UInt8 := [0x1e, 0x37, 0x04, 0x20, 0x37, 0x06, 0x03, 0x36, 0x08, 0x15, 0x08, 0x11, 0x00, 0xc8, 0xa2, 0x00, 0x1f, 0x16, 0x06, 0x09, 0x94, 0x99, 0x00, 0x18]
def cX0_commonDivisor_r0 : List UInt8 := cX0_commonDivisor_w0 ++ cX0_commonDivisor_r1
theorem cX0_commonDivisor_s0 : dw_S cX0_commonDivisor 0 cX0_commonDivisor_r0 := dw_S0 (by decide +kernel)
theorem cX0_commonDivisor_s1 : dw_S cX0_commonDivisor 24 cX0_commonDivisor_r1 := dw_Sn (w := cX0_commonDivisor_w0) (r := cX0_commonDivisor_r1) cX0_commonDivisor_s0 (by decide +kernel)
theorem cX0_commonDivisor_k0 : dw_ok cX0_commonDivisor (ByteArray.mk cX0_commonDivisor_w0.toArray) 0 := dw_Sw (r := cX0_commonDivisor_r1) cX0_commonDivisor_s0
theorem cX0_commonDivisor_k1 : dw_ok cX0_commonDivisor (ByteArray.mk cX0_commonDivisor_w1.toArray) 24 := dw_Sw (r := []) cX0_commonDivisor_s1
def cX0_countFrom_w8 : List UInt8 := [0xa7, 0x00, 0x16, 0x2a, 0xb4, 0x00, 0x22, 0x2a, 0xb4, 0x00, 0x28, 0x15, 0x04, 0x2e, 0x2e, 0x15, 0x06, 0x9f, 0x00, 0x05, 0x09, 0xad, 0x84, 0x04, 0x01, 0xa7, 0xff, 0x2e, 0x0a, 0xad]
def cX0_countFrom_r8 : List UInt8 := cX0_countFrom_w8 ++ []
def cX0_countFrom_w7 : List UInt8 := [0xb4, 0x00, 0x25, 0x15, 0x04, 0x2e, 0x04, 0xa0, 0x00, 0x14, 0x2a, 0xb4, 0x00, 0x22, 0x2a, 0xb4, 0x00, 0x28, 0x15, 0x04, 0x2e, 0x15, 0x06, 0x4f]
def cX0_countFrom_r7 : List UInt8 := cX0_countFrom_w7 ++ cX0_countFrom_r8
def cX0_countFrom_w6 : List UInt8 := [0x33, 0xa7, 0x00, 0x05, 0x15, 0x05, 0x68, 0x2a, 0xb4, 0x00, 0x22, 0x2a, 0xb4, 0x00, 0x2e, 0x15, 0x04, 0x2e, 0x2e, 0x60, 0x33, 0x36, 0x06, 0x2a]
def cX0_countFrom_r6 : List UInt8 := cX0_countFrom_w6 ++ cX0_countFrom_r7
def cX0_countFrom_w5 : List UInt8 := [0x2e, 0x36, 0x05, 0x2a, 0xb4, 0x00, 0x18, 0x10, 0x18, 0x2a, 0xb4, 0x00, 0x31, 0x15, 0x04, 0x33, 0x99, 0x00, 0x0d, 0x2a, 0xb4, 0x00, 0x1c, 0x15, 0x05]
def cX0_countFrom_r5 : List UInt8 := cX0_countFrom_w5 ++ cX0_countFrom_r6
def cX0_countFrom_w4 : List UInt8 := [0x69, 0x61, 0x37, 0x05, 0x84, 0x07, 0x01, 0xa7, 0xff, 0xba, 0x16, 0x05, 0xad, 0x2a, 0xb4, 0x00, 0x22, 0x2a, 0xb4, 0x00, 0x2b, 0x15, 0x04, 0x2e]
def cX0_countFrom_r4 : List UInt8 := cX0_countFrom_w4 ++ cX0_countFrom_r5
def cX0_countFrom_w3 : List UInt8 := [0x15, 0x08, 0x9a, 0x00, 0x07, 0x09, 0xa7, 0x00, 0x13, 0x15, 0x08, 0x85, 0x2a, 0x15, 0x04, 0x04, 0x60, 0x1c, 0x04, 0x60, 0x1d, 0xb6, 0x00, 0x8f]
def cX0_countFrom_r3 : List UInt8 := cX0_countFrom_w3 ++ cX0_countFrom_r4
def cX0_countFrom_w2 : List UInt8 := [0x15, 0x07, 0x2e, 0xa7, 0x00, 0x04, 0x04, 0x36, 0x08, 0x2a, 0xb4, 0x00, 0x22, 0x2a, 0xb4, 0x00, 0x28, 0x15, 0x04, 0x2e, 0x15, 0x07, 0x4f, 0x16, 0x05]
def cX0_countFrom_r2 : List UInt8 := cX0_countFrom_w2 ++ cX0_countFrom_r3
def cX0_countFrom_w1 : List UInt8 := [0x15, 0x04, 0x2e, 0x9a, 0x00, 0x55, 0x09, 0x37, 0x05, 0x03, 0x36, 0x07, 0x15, 0x07, 0x1d, 0xa2, 0x00, 0x46, 0x1c, 0x9a, 0x00, 0x0d, 0x2a, 0xb4, 0x00, 0x1f]
def cX0_countFrom_r1 : List UInt8 := cX0_countFrom_w1 ++ cX0_countFrom_r2
def cX0_countFrom_w0 : List UInt8 := [0x1c, 0x10, 0x12, 0xa4, 0x00, 0x05, 0x09, 0xad, 0x1b, 0x36, 0x04, 0x15, 0x04, 0x2a, 0xb4, 0x00, 0xa3, 0xa2, 0x00, 0xcf, 0x2a, 0xb4, 0x00, 0x25]
def cX0_countFrom_r0 : List UInt8 := cX0_countFrom_w0 ++ cX0_countFrom_r1
theorem cX0_countFrom_s0 : dw_S cX0_countFrom 0 cX0_countFrom_r0 := dw_S0 (by decide +kernel)
theorem cX0_countFrom_s1 : dw_S cX0_countFrom 24 cX0_countFrom_r1 := dw_Sn (w := cX0_countFrom_w0) (r := cX0_countFrom_r1) cX0_countFrom_s0 (by decide +kernel)
theorem cX0_countFrom_k0 : dw_ok cX0_countFrom (ByteArray.mk cX0_countFrom_w0.toArray) 0 := dw_Sw (r := cX0_countFrom_r1) cX0_countFrom_s0
theorem cX0_countFrom_s2 : dw_S cX0_countFrom 50 cX0_countFrom_r2 := dw_Sn (w := cX0_countFrom_w1) (r := cX0_countFrom_r2) cX0_countFrom_s1 (by decide +kernel)
theorem cX0_countFrom_k1 : dw_ok cX0_countFrom (ByteArray.mk cX0_countFrom_w1.toArray) 24 := dw_Sw (r := cX0_countFrom_r2) cX0_countFrom_s1
theorem cX0_countFrom_s3 : dw_S cX0_countFrom 75 cX0_countFrom_r3 := dw_Sn (w := cX0_countFrom_w2) (r := cX0_countFrom_r3) cX0_countFrom_s2 (by decide +kernel)
theorem cX0_countFrom_k2 : dw_ok cX0_countFrom (ByteArray.mk cX0_countFrom_w2.toArray) 50 := dw_Sw (r := cX0_countFrom_r3) cX0_countFrom_s2
theorem cX0_countFrom_s4 : dw_S cX0_countFrom 99 cX0_countFrom_r4 := dw_Sn (w := cX0_countFrom_w3) (r := cX0_countFrom_r4) cX0_countFrom_s3 (by decide +kernel)
theorem cX0_countFrom_k3 : dw_ok cX0_countFrom (ByteArray.mk cX0_countFrom_w3.toArray) 75 := dw_Sw (r := cX0_countFrom_r4) cX0_countFrom_s3
theorem cX0_countFrom_s5 : dw_S cX0_countFrom 123 cX0_countFrom_r5 := dw_Sn (w := cX0_countFrom_w4) (r := cX0_countFrom_r5) cX0_countFrom_s4 (by decide +kernel)
theorem cX0_countFrom_k4 : dw_ok cX0_countFrom (ByteArray.mk cX0_countFrom_w4.toArray) 99 := dw_Sw (r := cX0_countFrom_r5) cX0_countFrom_s4
theorem cX0_countFrom_s6 : dw_S cX0_countFrom 148 cX0_countFrom_r6 := dw_Sn (w := cX0_countFrom_w5) (r := cX0_countFrom_r6) cX0_countFrom_s5 (by decide +kernel)
theorem cX0_countFrom_k5 : dw_ok cX0_countFrom (ByteArray.mk cX0_countFrom_w5.toArray) 123 := dw_Sw (r := cX0_countFrom_r6) cX0_countFrom_s5
theorem cX0_countFrom_s7 : dw_S cX0_countFrom 172 cX0_countFrom_r7 := dw_Sn (w := cX0_countFrom_w6) (r := cX0_countFrom_r7) cX0_countFrom_s6 (by decide +kernel)
theorem cX0_countFrom_k6 : dw_ok cX0_countFrom (ByteArray.mk cX0_countFrom_w6.toArray) 148 := dw_Sw (r := cX0_countFrom_r7) cX0_countFrom_s6
theorem cX0_countFrom_s8 : dw_S cX0_countFrom 196 cX0_countFrom_r8 := dw_Sn (w := cX0_countFrom_w7) (r := cX0_countFrom_r8) cX0_countFrom_s7 (by decide +kernel)
theorem cX0_countFrom_k7 : dw_ok cX0_countFrom (ByteArray.mk cX0_countFrom_w7.toArray) 172 := dw_Sw (r := cX0_countFrom_r8) cX0_countFrom_s7
theorem cX0_countFrom_k8 : dw_ok cX0_countFrom (ByteArray.mk cX0_countFrom_w8.toArray) 196 := dw_Sw (r := []) cX0_countFrom_s8
def cX0_countMaps_w3 : List UInt8 := [0xa2, 0x00, 0x1c, 0x2a, 0x2b, 0x15, 0x06, 0xb6, 0x00, 0x8b, 0x16, 0x04, 0x2a, 0x03, 0x03, 0x1d, 0xb6, 0x00, 0x8f, 0x69, 0x37, 0x04, 0x84, 0x06, 0x01, 0xa7, 0xff, 0xe1, 0x16, 0x04, 0xad]
def cX0_countMaps_r3 : List UInt8 := cX0_countMaps_w3 ++ []
def cX0_countMaps_w2 : List UInt8 := [0xa2, 0x00, 0x10, 0x16, 0x04, 0x1d, 0x85, 0x69, 0x37, 0x04, 0x84, 0x06, 0x01, 0xa7, 0xff, 0xed, 0x03, 0x36, 0x06, 0x15, 0x06, 0x2b, 0xb4, 0x00, 0x88]
def cX0_countMaps_r2 : List UInt8 := cX0_countMaps_w2 ++ cX0_countMaps_r3
def cX0_countMaps_w1 : List UInt8 := [0xb6, 0x00, 0x5b, 0x2b, 0xb6, 0x00, 0x81, 0x2a, 0x1d, 0xb6, 0x00, 0x84, 0x0a, 0x37, 0x04, 0x03, 0x36, 0x06, 0x15, 0x06, 0x2b, 0xb4, 0x00, 0x58]
def cX0_countMaps_r1 : List UInt8 := cX0_countMaps_w1 ++ cX0_countMaps_r2
def cX0_countMaps_w0 : List UInt8 := [0x1c, 0x07, 0xa0, 0x00, 0x08, 0x10, 0x18, 0xa7, 0x00, 0x0e, 0x1c, 0x06, 0xa0, 0x00, 0x08, 0x10, 0x06, 0xa7, 0x00, 0x04, 0x1c, 0x3e, 0x2a, 0x2b]
def cX0_countMaps_r0 : List UInt8 := cX0_countMaps_w0 ++ cX0_countMaps_r1
theorem cX0_countMaps_s0 : dw_S cX0_countMaps 0 cX0_countMaps_r0 := dw_S0 (by decide +kernel)
theorem cX0_countMaps_s1 : dw_S cX0_countMaps 24 cX0_countMaps_r1 := dw_Sn (w := cX0_countMaps_w0) (r := cX0_countMaps_r1) cX0_countMaps_s0 (by decide +kernel)
theorem cX0_countMaps_k0 : dw_ok cX0_countMaps (ByteArray.mk cX0_countMaps_w0.toArray) 0 := dw_Sw (r := cX0_countMaps_r1) cX0_countMaps_s0
theorem cX0_countMaps_s2 : dw_S cX0_countMaps 48 cX0_countMaps_r2 := dw_Sn (w := cX0_countMaps_w1) (r := cX0_countMaps_r2) cX0_countMaps_s1 (by decide +kernel)
theorem cX0_countMaps_k1 : dw_ok cX0_countMaps (ByteArray.mk cX0_countMaps_w1.toArray) 24 := dw_Sw (r := cX0_countMaps_r2) cX0_countMaps_s1
theorem cX0_countMaps_s3 : dw_S cX0_countMaps 73 cX0_countMaps_r3 := dw_Sn (w := cX0_countMaps_w2) (r := cX0_countMaps_r3) cX0_countMaps_s2 (by decide +kernel)
theorem cX0_countMaps_k2 : dw_ok cX0_countMaps (ByteArray.mk cX0_countMaps_w2.toArray) 48 := dw_Sw (r := cX0_countMaps_r3) cX0_countMaps_s2
theorem cX0_countMaps_k3 : dw_ok cX0_countMaps (ByteArray.mk cX0_countMaps_w3.toArray) 73 := dw_Sw (r := []) cX0_countMaps_s3
def cX0_findClasses_w2 : List UInt8 := [0xb4, 0x00, 0x1f, 0x1d, 0x5c, 0x2e, 0x04, 0x60, 0x4f, 0x84, 0x02, 0x01, 0xa7, 0xff, 0xcc, 0xb1]
def cX0_findClasses_r2 : List UInt8 := cX0_findClasses_w2 ++ []
def cX0_findClasses_w1 : List UInt8 := [0x1d, 0x2a, 0xb4, 0x00, 0x18, 0x10, 0x18, 0x15, 0x04, 0x68, 0x1c, 0x60, 0x33, 0xb8, 0x00, 0x93, 0x3e, 0x84, 0x04, 0x01, 0xa7, 0xff, 0xe6, 0x2a]
def cX0_findClasses_r1 : List UInt8 := cX0_findClasses_w1 ++ cX0_findClasses_r2
def cX0_findClasses_w0 : List UInt8 := [0x2a, 0xb4, 0x00, 0x1f, 0x03, 0xb8, 0x00, 0x4c, 0x03, 0x3d, 0x1c, 0x1b, 0xa2, 0x00, 0x35, 0x1c, 0x3e, 0x03, 0x36, 0x04, 0x15, 0x04, 0x1b, 0xa2, 0x00, 0x1a]
def cX0_findClasses_r0 : List UInt8 := cX0_findClasses_w0 ++ cX0_findClasses_r1
theorem cX0_findClasses_s0 : dw_S cX0_findClasses 0 cX0_findClasses_r0 := dw_S0 (by decide +kernel)
theorem cX0_findClasses_s1 : dw_S cX0_findClasses 26 cX0_findClasses_r1 := dw_Sn (w := cX0_findClasses_w0) (r := cX0_findClasses_r1) cX0_findClasses_s0 (by decide +kernel)
theorem cX0_findClasses_k0 : dw_ok cX0_findClasses (ByteArray.mk cX0_findClasses_w0.toArray) 0 := dw_Sw (r := cX0_findClasses_r1) cX0_findClasses_s0
theorem cX0_findClasses_s2 : dw_S cX0_findClasses 50 cX0_findClasses_r2 := dw_Sn (w := cX0_findClasses_w1) (r := cX0_findClasses_r2) cX0_findClasses_s1 (by decide +kernel)
theorem cX0_findClasses_k1 : dw_ok cX0_findClasses (ByteArray.mk cX0_findClasses_w1.toArray) 26 := dw_Sw (r := cX0_findClasses_r2) cX0_findClasses_s1
theorem cX0_findClasses_k2 : dw_ok cX0_findClasses (ByteArray.mk cX0_findClasses_w2.toArray) 50 := dw_Sw (r := []) cX0_findClasses_s2
def cX0_findCover_w9 : List UInt8 := [0x04, 0x60, 0xb5, 0x00, 0x67, 0x84, 0x03, 0x01, 0xa7, 0xff, 0xe1, 0xb1]
def cX0_findCover_r9 : List UInt8 := cX0_findCover_w9 ++ []
def cX0_findCover_w8 : List UInt8 := [0x60, 0x3e, 0x1d, 0x2a, 0xb4, 0x00, 0x52, 0xa2, 0x00, 0x1d, 0x2a, 0xb4, 0x00, 0x14, 0x2a, 0xb4, 0x00, 0x67, 0x09, 0x50, 0x2a, 0x59, 0xb4, 0x00, 0x67]
def cX0_findCover_r8 : List UInt8 := cX0_findCover_w8 ++ cX0_findCover_r9
def cX0_findCover_w7 : List UInt8 := [0x1d, 0x2f, 0xb8, 0x00, 0x6e, 0x50, 0x2a, 0x59, 0xb4, 0x00, 0x67, 0x04, 0x60, 0xb5, 0x00, 0x67, 0x84, 0x03, 0x01, 0xa7, 0xff, 0xad, 0x1c, 0x04]
def cX0_findCover_r7 : List UInt8 := cX0_findCover_w7 ++ cX0_findCover_r8
def cX0_findCover_w6 : List UInt8 := [0x1d, 0x2f, 0xb8, 0x00, 0x6e, 0x0a, 0x94, 0x99, 0x00, 0x21, 0x2a, 0xb4, 0x00, 0x14, 0x2a, 0xb4, 0x00, 0x67, 0x2a, 0xb4, 0x00, 0x11, 0x1d, 0x32]
def cX0_findCover_r6 : List UInt8 := cX0_findCover_w6 ++ cX0_findCover_r7
def cX0_findCover_w5 : List UInt8 := [0x2a, 0x1d, 0x2b, 0xb4, 0x00, 0x46, 0xb6, 0x00, 0x6a, 0x9a, 0x00, 0x06, 0xa7, 0x00, 0x3a, 0x84, 0x02, 0x01, 0x2a, 0xb4, 0x00, 0x11, 0x1d, 0x32]
def cX0_findCover_r5 : List UInt8 := cX0_findCover_w5 ++ cX0_findCover_r6
def cX0_findCover_w4 : List UInt8 := [0x2a, 0x03, 0xb5, 0x00, 0x67, 0x03, 0x3d, 0x03, 0x3e, 0x1d, 0x2b, 0xb4, 0x00, 0x46, 0xa2, 0x00, 0x51, 0x1d, 0x2a, 0xb4, 0x00, 0x52, 0xa2, 0x00, 0x49]
def cX0_findCover_r4 : List UInt8 := cX0_findCover_w4 ++ cX0_findCover_r5
def cX0_findCover_w3 : List UInt8 := [0xb4, 0x00, 0x09, 0x2b, 0xb4, 0x00, 0x64, 0x05, 0x1c, 0x68, 0x04, 0x60, 0x2e, 0x2e, 0x5c, 0x2f, 0x0a, 0x65, 0x50, 0x84, 0x02, 0x01, 0xa7, 0xff, 0xa7]
def cX0_findCover_r3 : List UInt8 := cX0_findCover_w3 ++ cX0_findCover_r4
def cX0_findCover_w2 : List UInt8 := [0x1c, 0x32, 0x2a, 0xb4, 0x00, 0x09, 0x05, 0x1c, 0x68, 0x04, 0x60, 0x2e, 0x5c, 0x2f, 0x0a, 0x65, 0x50, 0x2a, 0xb4, 0x00, 0x11, 0x1c, 0x32, 0x2a]
def cX0_findCover_r2 : List UInt8 := cX0_findCover_w2 ++ cX0_findCover_r3
def cX0_findCover_w1 : List UInt8 := [0x2a, 0xb4, 0x00, 0x11, 0x1c, 0x32, 0x2a, 0xb4, 0x00, 0x09, 0x05, 0x1c, 0x68, 0x2e, 0x5c, 0x2f, 0x14, 0x00, 0x62, 0x61, 0x50, 0x2a, 0xb4, 0x00, 0x11]
def cX0_findCover_r1 : List UInt8 := cX0_findCover_w1 ++ cX0_findCover_r2
def cX0_findCover_w0 : List UInt8 := [0x2a, 0x2b, 0xb6, 0x00, 0x5b, 0x03, 0x3d, 0x1c, 0x2b, 0xb4, 0x00, 0x46, 0xa2, 0x00, 0x57, 0x2a, 0xb4, 0x00, 0x11, 0x1c, 0x32, 0x09, 0xb8, 0x00, 0x5f]
def cX0_findCover_r0 : List UInt8 := cX0_findCover_w0 ++ cX0_findCover_r1
theorem cX0_findCover_s0 : dw_S cX0_findCover 0 cX0_findCover_r0 := dw_S0 (by decide +kernel)
theorem cX0_findCover_s1 : dw_S cX0_findCover 25 cX0_findCover_r1 := dw_Sn (w := cX0_findCover_w0) (r := cX0_findCover_r1) cX0_findCover_s0 (by decide +kernel)
theorem cX0_findCover_k0 : dw_ok cX0_findCover (ByteArray.mk cX0_findCover_w0.toArray) 0 := dw_Sw (r := cX0_findCover_r1) cX0_findCover_s0
theorem cX0_findCover_s2 : dw_S cX0_findCover 50 cX0_findCover_r2 := dw_Sn (w := cX0_findCover_w1) (r := cX0_findCover_r2) cX0_findCover_s1 (by decide +kernel)
theorem cX0_findCover_k1 : dw_ok cX0_findCover (ByteArray.mk cX0_findCover_w1.toArray) 25 := dw_Sw (r := cX0_findCover_r2) cX0_findCover_s1
theorem cX0_findCover_s3 : dw_S cX0_findCover 74 cX0_findCover_r3 := dw_Sn (w := cX0_findCover_w2) (r := cX0_findCover_r3) cX0_findCover_s2 (by decide +kernel)
theorem cX0_findCover_k2 : dw_ok cX0_findCover (ByteArray.mk cX0_findCover_w2.toArray) 50 := dw_Sw (r := cX0_findCover_r3) cX0_findCover_s2
theorem cX0_findCover_s4 : dw_S cX0_findCover 99 cX0_findCover_r4 := dw_Sn (w := cX0_findCover_w3) (r := cX0_findCover_r4) cX0_findCover_s3 (by decide +kernel)
theorem cX0_findCover_k3 : dw_ok cX0_findCover (ByteArray.mk cX0_findCover_w3.toArray) 74 := dw_Sw (r := cX0_findCover_r4) cX0_findCover_s3
theorem cX0_findCover_s5 : dw_S cX0_findCover 124 cX0_findCover_r5 := dw_Sn (w := cX0_findCover_w4) (r := cX0_findCover_r5) cX0_findCover_s4 (by decide +kernel)
theorem cX0_findCover_k4 : dw_ok cX0_findCover (ByteArray.mk cX0_findCover_w4.toArray) 99 := dw_Sw (r := cX0_findCover_r5) cX0_findCover_s4
theorem cX0_findCover_s6 : dw_S cX0_findCover 148 cX0_findCover_r6 := dw_Sn (w := cX0_findCover_w5) (r := cX0_findCover_r6) cX0_findCover_s5 (by decide +kernel)
theorem cX0_findCover_k5 : dw_ok cX0_findCover (ByteArray.mk cX0_findCover_w5.toArray) 124 := dw_Sw (r := cX0_findCover_r6) cX0_findCover_s5
theorem cX0_findCover_s7 : dw_S cX0_findCover 172 cX0_findCover_r7 := dw_Sn (w := cX0_findCover_w6) (r := cX0_findCover_r7) cX0_findCover_s6 (by decide +kernel)
theorem cX0_findCover_k6 : dw_ok cX0_findCover (ByteArray.mk cX0_findCover_w6.toArray) 148 := dw_Sw (r := cX0_findCover_r7) cX0_findCover_s6
theorem cX0_findCover_s8 : dw_S cX0_findCover 196 cX0_findCover_r8 := dw_Sn (w := cX0_findCover_w7) (r := cX0_findCover_r8) cX0_findCover_s7 (by decide +kernel)
theorem cX0_findCover_k7 : dw_ok cX0_findCover (ByteArray.mk cX0_findCover_w7.toArray) 172 := dw_Sw (r := cX0_findCover_r8) cX0_findCover_s7
theorem cX0_findCover_s9 : dw_S cX0_findCover 221 cX0_findCover_r9 := dw_Sn (w := cX0_findCover_w8) (r := cX0_findCover_r9) cX0_findCover_s8 (by decide +kernel)
theorem cX0_findCover_k8 : dw_ok cX0_findCover (ByteArray.mk cX0_findCover_w8.toArray) 196 := dw_Sw (r := cX0_findCover_r9) cX0_findCover_s8
theorem cX0_findCover_k9 : dw_ok cX0_findCover (ByteArray.mk cX0_findCover_w9.toArray) 221 := dw_Sw (r := []) cX0_findCover_s9
def cX0_init_w9 : List UInt8 := [0xb8, 0x00, 0x3f, 0x91, 0x54, 0x84, 0x02, 0x01, 0xa7, 0xff, 0x91, 0xb1]
def cX0_init_r9 : List UInt8 := cX0_init_w9 ++ []
def cX0_init_w8 : List UInt8 := [0xb8, 0x00, 0x3f, 0x91, 0x54, 0x84, 0x03, 0x01, 0xa7, 0xff, 0xb1, 0x2a, 0xb4, 0x00, 0x1c, 0x1c, 0x2b, 0x2b, 0x1c, 0x2e, 0x07, 0xb8, 0x00, 0x43]
def cX0_init_r8 : List UInt8 := cX0_init_w8 ++ cX0_init_r9
def cX0_init_w7 : List UInt8 := [0x68, 0x78, 0x80, 0x36, 0x04, 0x84, 0x05, 0x01, 0xa7, 0xff, 0xd5, 0x2a, 0xb4, 0x00, 0x18, 0x10, 0x18, 0x1c, 0x68, 0x1d, 0x60, 0x2b, 0x15, 0x04]
def cX0_init_r7 : List UInt8 := cX0_init_w7 ++ cX0_init_r8
def cX0_init_w6 : List UInt8 := [0xb8, 0x00, 0x39, 0x36, 0x06, 0x15, 0x04, 0x2b, 0x1c, 0x2e, 0x2b, 0x1d, 0x2e, 0x15, 0x05, 0xb8, 0x00, 0x39, 0xb8, 0x00, 0x39, 0x07, 0x15, 0x06]
def cX0_init_r6 : List UInt8 := cX0_init_w6 ++ cX0_init_r7
def cX0_init_w5 : List UInt8 := [0x03, 0x3e, 0x1d, 0x10, 0x18, 0xa2, 0x00, 0x4f, 0x03, 0x36, 0x04, 0x03, 0x36, 0x05, 0x15, 0x05, 0x07, 0xa2, 0x00, 0x2b, 0x2b, 0x1c, 0x2e, 0x15, 0x05]
def cX0_init_r5 : List UInt8 := cX0_init_w5 ++ cX0_init_r6
def cX0_init_w4 : List UInt8 := [0x2a, 0x10, 0x24, 0xbc, 0x04, 0xb5, 0x00, 0x31, 0x10, 0x18, 0xbc, 0x0a, 0x4c, 0x2b, 0xb8, 0x00, 0x35, 0x03, 0x3d, 0x1c, 0x10, 0x18, 0xa2, 0x00, 0x6f]
def cX0_init_r4 : List UInt8 := cX0_init_w4 ++ cX0_init_r5
def cX0_init_w3 : List UInt8 := [0x2a, 0x10, 0x24, 0xbc, 0x0a, 0xb5, 0x00, 0x28, 0x2a, 0x10, 0x24, 0xbc, 0x0a, 0xb5, 0x00, 0x2b, 0x2a, 0x10, 0x24, 0xbc, 0x0a, 0xb5, 0x00, 0x2e]
def cX0_init_r3 : List UInt8 := cX0_init_w3 ++ cX0_init_r4
def cX0_init_w2 : List UInt8 := [0x2a, 0x10, 0x18, 0xbc, 0x0a, 0xb5, 0x00, 0x1f, 0x2a, 0x10, 0x12, 0xbc, 0x0a, 0xb5, 0x00, 0x22, 0x2a, 0x10, 0x24, 0xbc, 0x0a, 0xb5, 0x00, 0x25]
def cX0_init_r2 : List UInt8 := cX0_init_w2 ++ cX0_init_r3
def cX0_init_w1 : List UInt8 := [0x2a, 0x10, 0x12, 0xbc, 0x0b, 0xb5, 0x00, 0x14, 0x2a, 0x11, 0x02, 0x40, 0xbc, 0x08, 0xb5, 0x00, 0x18, 0x2a, 0x10, 0x18, 0xbc, 0x08, 0xb5, 0x00, 0x1c]
def cX0_init_r1 : List UInt8 := cX0_init_w1 ++ cX0_init_r2
def cX0_init_w0 : List UInt8 := [0x2a, 0xb7, 0x00, 0x03, 0x2a, 0x10, 0x18, 0xbc, 0x0a, 0xb5, 0x00, 0x09, 0x2a, 0x10, 0x0c, 0x10, 0x12, 0xc5, 0x00, 0x0f, 0x02, 0xb5, 0x00, 0x11]
def cX0_init_r0 : List UInt8 := cX0_init_w0 ++ cX0_init_r1
theorem cX0_init_s0 : dw_S cX0_init 0 cX0_init_r0 := dw_S0 (by decide +kernel)
theorem cX0_init_s1 : dw_S cX0_init 24 cX0_init_r1 := dw_Sn (w := cX0_init_w0) (r := cX0_init_r1) cX0_init_s0 (by decide +kernel)
theorem cX0_init_k0 : dw_ok cX0_init (ByteArray.mk cX0_init_w0.toArray) 0 := dw_Sw (r := cX0_init_r1) cX0_init_s0
theorem cX0_init_s2 : dw_S cX0_init 49 cX0_init_r2 := dw_Sn (w := cX0_init_w1) (r := cX0_init_r2) cX0_init_s1 (by decide +kernel)
theorem cX0_init_k1 : dw_ok cX0_init (ByteArray.mk cX0_init_w1.toArray) 24 := dw_Sw (r := cX0_init_r2) cX0_init_s1
theorem cX0_init_s3 : dw_S cX0_init 73 cX0_init_r3 := dw_Sn (w := cX0_init_w2) (r := cX0_init_r3) cX0_init_s2 (by decide +kernel)
theorem cX0_init_k2 : dw_ok cX0_init (ByteArray.mk cX0_init_w2.toArray) 49 := dw_Sw (r := cX0_init_r3) cX0_init_s2
theorem cX0_init_s4 : dw_S cX0_init 97 cX0_init_r4 := dw_Sn (w := cX0_init_w3) (r := cX0_init_r4) cX0_init_s3 (by decide +kernel)
theorem cX0_init_k3 : dw_ok cX0_init (ByteArray.mk cX0_init_w3.toArray) 73 := dw_Sw (r := cX0_init_r4) cX0_init_s3
theorem cX0_init_s5 : dw_S cX0_init 122 cX0_init_r5 := dw_Sn (w := cX0_init_w4) (r := cX0_init_r5) cX0_init_s4 (by decide +kernel)
theorem cX0_init_k4 : dw_ok cX0_init (ByteArray.mk cX0_init_w4.toArray) 97 := dw_Sw (r := cX0_init_r5) cX0_init_s4
theorem cX0_init_s6 : dw_S cX0_init 147 cX0_init_r6 := dw_Sn (w := cX0_init_w5) (r := cX0_init_r6) cX0_init_s5 (by decide +kernel)
theorem cX0_init_k5 : dw_ok cX0_init (ByteArray.mk cX0_init_w5.toArray) 122 := dw_Sw (r := cX0_init_r6) cX0_init_s5
theorem cX0_init_s7 : dw_S cX0_init 171 cX0_init_r7 := dw_Sn (w := cX0_init_w6) (r := cX0_init_r7) cX0_init_s6 (by decide +kernel)
theorem cX0_init_k6 : dw_ok cX0_init (ByteArray.mk cX0_init_w6.toArray) 147 := dw_Sw (r := cX0_init_r7) cX0_init_s6
theorem cX0_init_s8 : dw_S cX0_init 195 cX0_init_r8 := dw_Sn (w := cX0_init_w7) (r := cX0_init_r8) cX0_init_s7 (by decide +kernel)
theorem cX0_init_k7 : dw_ok cX0_init (ByteArray.mk cX0_init_w7.toArray) 171 := dw_Sw (r := cX0_init_r8) cX0_init_s7
theorem cX0_init_s9 : dw_S cX0_init 219 cX0_init_r9 := dw_Sn (w := cX0_init_w8) (r := cX0_init_r9) cX0_init_s8 (by decide +kernel)
theorem cX0_init_k8 : dw_ok cX0_init (ByteArray.mk cX0_init_w8.toArray) 195 := dw_Sw (r := cX0_init_r9) cX0_init_s8
theorem cX0_init_k9 : dw_ok cX0_init (ByteArray.mk cX0_init_w9.toArray) 219 := dw_Sw (r := []) cX0_init_s9
def cX0_isolate_w3 : List UInt8 := [0x32, 0x15, 0x05, 0x2f, 0x61, 0x50, 0x84, 0x05, 0x01, 0xa7, 0xff, 0xde, 0x2a, 0x1b, 0x1c, 0xb6, 0x00, 0x77, 0x57, 0x84, 0x03, 0x01, 0xa7, 0xff, 0xa0, 0x04, 0xac]
def cX0_isolate_r3 : List UInt8 := cX0_isolate_w3 ++ []
def cX0_isolate_w2 : List UInt8 := [0x15, 0x05, 0x2a, 0xb4, 0x00, 0x52, 0xa2, 0x00, 0x1f, 0x2a, 0xb4, 0x00, 0x11, 0x1b, 0x32, 0x15, 0x05, 0x5c, 0x2f, 0x2a, 0xb4, 0x00, 0x11, 0x15, 0x04]
def cX0_isolate_r2 : List UInt8 := cX0_isolate_w2 ++ cX0_isolate_r3
def cX0_isolate_w1 : List UInt8 := [0x9a, 0x00, 0x06, 0xa7, 0x00, 0x42, 0x2a, 0x1b, 0x1c, 0xb6, 0x00, 0x7a, 0x36, 0x04, 0x15, 0x04, 0x02, 0xa0, 0x00, 0x05, 0x04, 0xac, 0x1b, 0x36, 0x05]
def cX0_isolate_r1 : List UInt8 := cX0_isolate_w1 ++ cX0_isolate_r2
def cX0_isolate_w0 : List UInt8 := [0x03, 0x3e, 0x1d, 0x11, 0x03, 0xe8, 0xa2, 0x00, 0x5f, 0x2a, 0x1b, 0x1c, 0xb6, 0x00, 0x74, 0x9a, 0x00, 0x05, 0x03, 0xac, 0x2a, 0x1b, 0x1c, 0xb6, 0x00, 0x77]
def cX0_isolate_r0 : List UInt8 := cX0_isolate_w0 ++ cX0_isolate_r1
theorem cX0_isolate_s0 : dw_S cX0_isolate 0 cX0_isolate_r0 := dw_S0 (by decide +kernel)
theorem cX0_isolate_s1 : dw_S cX0_isolate 26 cX0_isolate_r1 := dw_Sn (w := cX0_isolate_w0) (r := cX0_isolate_r1) cX0_isolate_s0 (by decide +kernel)
theorem cX0_isolate_k0 : dw_ok cX0_isolate (ByteArray.mk cX0_isolate_w0.toArray) 0 := dw_Sw (r := cX0_isolate_r1) cX0_isolate_s0
theorem cX0_isolate_s2 : dw_S cX0_isolate 51 cX0_isolate_r2 := dw_Sn (w := cX0_isolate_w1) (r := cX0_isolate_r2) cX0_isolate_s1 (by decide +kernel)
theorem cX0_isolate_k1 : dw_ok cX0_isolate (ByteArray.mk cX0_isolate_w1.toArray) 26 := dw_Sw (r := cX0_isolate_r2) cX0_isolate_s1
theorem cX0_isolate_s3 : dw_S cX0_isolate 76 cX0_isolate_r3 := dw_Sn (w := cX0_isolate_w2) (r := cX0_isolate_r3) cX0_isolate_s2 (by decide +kernel)
theorem cX0_isolate_k2 : dw_ok cX0_isolate (ByteArray.mk cX0_isolate_w2.toArray) 51 := dw_Sw (r := cX0_isolate_r3) cX0_isolate_s2
theorem cX0_isolate_k3 : dw_ok cX0_isolate (ByteArray.mk cX0_isolate_w3.toArray) 76 := dw_Sw (r := []) cX0_isolate_s3
def cX0_listPermutations_w3 : List UInt8 := [0x1b, 0x15, 0x06, 0x15, 0x05, 0x07, 0x78, 0x80, 0x15, 0x04, 0x10, 0x08, 0x78, 0x80, 0x1d, 0x10, 0x0c, 0x78, 0x80, 0x4f, 0x84, 0x01, 0x01, 0x84, 0x02, 0x01, 0xa7, 0xff, 0xa1, 0xb1]
def cX0_listPermutations_r3 : List UInt8 := cX0_listPermutations_w3 ++ []
def cX0_listPermutations_w2 : List UInt8 := [0x04, 0x15, 0x06, 0x78, 0x04, 0x15, 0x05, 0x78, 0x80, 0x04, 0x15, 0x04, 0x78, 0x80, 0x04, 0x1d, 0x78, 0x80, 0x10, 0x0f, 0xa0, 0x00, 0x1b, 0x2a]
def cX0_listPermutations_r2 : List UInt8 := cX0_listPermutations_w2 ++ cX0_listPermutations_r3
def cX0_listPermutations_w1 : List UInt8 := [0x06, 0x1c, 0x07, 0x7a, 0x06, 0x7e, 0x64, 0x36, 0x04, 0x06, 0x1c, 0x05, 0x7a, 0x06, 0x7e, 0x64, 0x36, 0x05, 0x06, 0x1c, 0x06, 0x7e, 0x64, 0x36, 0x06]
def cX0_listPermutations_r1 : List UInt8 := cX0_listPermutations_w1 ++ cX0_listPermutations_r2
def cX0_listPermutations_w0 : List UInt8 := [0x03, 0x3c, 0x03, 0x3d, 0x1c, 0x11, 0x01, 0x00, 0xa2, 0x00, 0x5e, 0x1b, 0x10, 0x18, 0xa2, 0x00, 0x58, 0x06, 0x1c, 0x10, 0x06, 0x7a, 0x64, 0x3e]
def cX0_listPermutations_r0 : List UInt8 := cX0_listPermutations_w0 ++ cX0_listPermutations_r1
theorem cX0_listPermutations_s0 : dw_S cX0_listPermutations 0 cX0_listPermutations_r0 := dw_S0 (by decide +kernel)
theorem cX0_listPermutations_s1 : dw_S cX0_listPermutations 24 cX0_listPermutations_r1 := dw_Sn (w := cX0_listPermutations_w0) (r := cX0_listPermutations_r1) cX0_listPermutations_s0 (by decide +kernel)
theorem cX0_listPermutations_k0 : dw_ok cX0_listPermutations (ByteArray.mk cX0_listPermutations_w0.toArray) 0 := dw_Sw (r := cX0_listPermutations_r1) cX0_listPermutations_s0
theorem cX0_listPermutations_s2 : dw_S cX0_listPermutations 49 cX0_listPermutations_r2 := dw_Sn (w := cX0_listPermutations_w1) (r := cX0_listPermutations_r2) cX0_listPermutations_s1 (by decide +kernel)
theorem cX0_listPermutations_k1 : dw_ok cX0_listPermutations (ByteArray.mk cX0_listPermutations_w1.toArray) 24 := dw_Sw (r := cX0_listPermutations_r2) cX0_listPermutations_s1
theorem cX0_listPermutations_s3 : dw_S cX0_listPermutations 73 cX0_listPermutations_r3 := dw_Sn (w := cX0_listPermutations_w2) (r := cX0_listPermutations_r3) cX0_listPermutations_s2 (by decide +kernel)
theorem cX0_listPermutations_k2 : dw_ok cX0_listPermutations (ByteArray.mk cX0_listPermutations_w2.toArray) 49 := dw_Sw (r := cX0_listPermutations_r3) cX0_listPermutations_s2
theorem cX0_listPermutations_k3 : dw_ok cX0_listPermutations (ByteArray.mk cX0_listPermutations_w3.toArray) 73 := dw_Sw (r := []) cX0_listPermutations_s3
def cX0_markArcs_w5 : List UInt8 := [0xa7, 0xff, 0xa1, 0x84, 0x03, 0xff, 0xa7, 0xff, 0x94, 0x2a, 0x59, 0xb4, 0x00, 0x52, 0x2b, 0xb4, 0x00, 0x58, 0x60, 0xb5, 0x00, 0x52, 0xb1]
def cX0_markArcs_r5 : List UInt8 := cX0_markArcs_w5 ++ []
def cX0_markArcs_w4 : List UInt8 := [0x15, 0x05, 0x2e, 0x36, 0x05, 0x84, 0x06, 0x01, 0xa7, 0xff, 0xcc, 0x2a, 0x59, 0xb4, 0x00, 0x52, 0x04, 0x60, 0xb5, 0x00, 0x52, 0x84, 0x04, 0x02]
def cX0_markArcs_r4 : List UInt8 := cX0_markArcs_w4 ++ cX0_markArcs_r5
def cX0_markArcs_w3 : List UInt8 := [0xb4, 0x00, 0x09, 0x15, 0x05, 0x2e, 0x02, 0xa0, 0x00, 0x1d, 0x2a, 0xb4, 0x00, 0x09, 0x15, 0x05, 0x2a, 0xb4, 0x00, 0x52, 0x4f, 0x2b, 0xb4, 0x00, 0x55]
def cX0_markArcs_r3 : List UInt8 := cX0_markArcs_w3 ++ cX0_markArcs_r4
def cX0_markArcs_w2 : List UInt8 := [0x36, 0x05, 0x03, 0x36, 0x06, 0x15, 0x06, 0x1c, 0xa2, 0x00, 0x34, 0x15, 0x06, 0x99, 0x00, 0x0a, 0x15, 0x05, 0x04, 0x7e, 0x9a, 0x00, 0x28, 0x2a]
def cX0_markArcs_r2 : List UInt8 := cX0_markArcs_w2 ++ cX0_markArcs_r3
def cX0_markArcs_w1 : List UInt8 := [0x1d, 0x36, 0x04, 0x15, 0x04, 0x1c, 0xa2, 0x00, 0x5f, 0x2a, 0xb4, 0x00, 0x09, 0x15, 0x04, 0x2e, 0x02, 0x9f, 0x00, 0x06, 0xa7, 0x00, 0x4b, 0x15, 0x04]
def cX0_markArcs_r1 : List UInt8 := cX0_markArcs_w1 ++ cX0_markArcs_r2
def cX0_markArcs_w0 : List UInt8 := [0x05, 0x2b, 0xb4, 0x00, 0x46, 0x68, 0x3d, 0x2a, 0xb4, 0x00, 0x09, 0x02, 0xb8, 0x00, 0x4c, 0x2a, 0x03, 0xb5, 0x00, 0x52, 0x04, 0x3e, 0x1d, 0x9b, 0x00, 0x6e]
def cX0_markArcs_r0 : List UInt8 := cX0_markArcs_w0 ++ cX0_markArcs_r1
theorem cX0_markArcs_s0 : dw_S cX0_markArcs 0 cX0_markArcs_r0 := dw_S0 (by decide +kernel)
theorem cX0_markArcs_s1 : dw_S cX0_markArcs 26 cX0_markArcs_r1 := dw_Sn (w := cX0_markArcs_w0) (r := cX0_markArcs_r1) cX0_markArcs_s0 (by decide +kernel)
theorem cX0_markArcs_k0 : dw_ok cX0_markArcs (ByteArray.mk cX0_markArcs_w0.toArray) 0 := dw_Sw (r := cX0_markArcs_r1) cX0_markArcs_s0
theorem cX0_markArcs_s2 : dw_S cX0_markArcs 51 cX0_markArcs_r2 := dw_Sn (w := cX0_markArcs_w1) (r := cX0_markArcs_r2) cX0_markArcs_s1 (by decide +kernel)
theorem cX0_markArcs_k1 : dw_ok cX0_markArcs (ByteArray.mk cX0_markArcs_w1.toArray) 26 := dw_Sw (r := cX0_markArcs_r2) cX0_markArcs_s1
theorem cX0_markArcs_s3 : dw_S cX0_markArcs 75 cX0_markArcs_r3 := dw_Sn (w := cX0_markArcs_w2) (r := cX0_markArcs_r3) cX0_markArcs_s2 (by decide +kernel)
theorem cX0_markArcs_k2 : dw_ok cX0_markArcs (ByteArray.mk cX0_markArcs_w2.toArray) 51 := dw_Sw (r := cX0_markArcs_r3) cX0_markArcs_s2
theorem cX0_markArcs_s4 : dw_S cX0_markArcs 100 cX0_markArcs_r4 := dw_Sn (w := cX0_markArcs_w3) (r := cX0_markArcs_r4) cX0_markArcs_s3 (by decide +kernel)
theorem cX0_markArcs_k3 : dw_ok cX0_markArcs (ByteArray.mk cX0_markArcs_w3.toArray) 75 := dw_Sw (r := cX0_markArcs_r4) cX0_markArcs_s3
theorem cX0_markArcs_s5 : dw_S cX0_markArcs 124 cX0_markArcs_r5 := dw_Sn (w := cX0_markArcs_w4) (r := cX0_markArcs_r5) cX0_markArcs_s4 (by decide +kernel)
theorem cX0_markArcs_k4 : dw_ok cX0_markArcs (ByteArray.mk cX0_markArcs_w4.toArray) 100 := dw_Sw (r := cX0_markArcs_r5) cX0_markArcs_s4
theorem cX0_markArcs_k5 : dw_ok cX0_markArcs (ByteArray.mk cX0_markArcs_w5.toArray) 124 := dw_Sw (r := []) cX0_markArcs_s5
def cX0_planCrossing_w10 : List UInt8 := [0x15, 0x04, 0x15, 0x06, 0x15, 0x07, 0xb6, 0x00, 0xa9, 0x1d, 0x04, 0x15, 0x05, 0x78, 0x80, 0x04, 0x15, 0x06, 0x78, 0x80, 0xac]
def cX0_planCrossing_r10 : List UInt8 := cX0_planCrossing_w10 ++ []
def cX0_planCrossing_w9 : List UInt8 := [0x15, 0x04, 0x15, 0x05, 0x15, 0x07, 0x9a, 0x00, 0x07, 0x04, 0xa7, 0x00, 0x04, 0x03, 0xb6, 0x00, 0xa9, 0xa7, 0x00, 0x10, 0x2a, 0x04, 0x15, 0x05]
def cX0_planCrossing_r9 : List UInt8 := cX0_planCrossing_w9 ++ cX0_planCrossing_r10
def cX0_planCrossing_w8 : List UInt8 := [0x15, 0x07, 0x9a, 0x00, 0x07, 0x04, 0xa7, 0x00, 0x04, 0x03, 0xb6, 0x00, 0xa9, 0xa7, 0x00, 0x2d, 0x15, 0x08, 0x99, 0x00, 0x1b, 0x2a, 0x04, 0x15, 0x06]
def cX0_planCrossing_r8 : List UInt8 := cX0_planCrossing_w8 ++ cX0_planCrossing_r9
def cX0_planCrossing_w7 : List UInt8 := [0x04, 0x1c, 0x78, 0x80, 0xb5, 0x00, 0xa6, 0x15, 0x08, 0x99, 0x00, 0x20, 0x15, 0x09, 0x99, 0x00, 0x1b, 0x2a, 0x05, 0x15, 0x06, 0x15, 0x04, 0x15, 0x05]
def cX0_planCrossing_r7 : List UInt8 := cX0_planCrossing_w7 ++ cX0_planCrossing_r8
def cX0_planCrossing_w6 : List UInt8 := [0x36, 0x04, 0x15, 0x0a, 0x99, 0x00, 0x0d, 0x15, 0x08, 0x9a, 0x00, 0x0a, 0x15, 0x09, 0x9a, 0x00, 0x05, 0x1d, 0xac, 0x2a, 0x59, 0xb4, 0x00, 0xa6]
def cX0_planCrossing_r6 : List UInt8 := cX0_planCrossing_w6 ++ cX0_planCrossing_r7
def cX0_planCrossing_w5 : List UInt8 := [0x15, 0x09, 0x99, 0x00, 0x07, 0x04, 0xa7, 0x00, 0x04, 0x03, 0x36, 0x0a, 0x15, 0x08, 0x99, 0x00, 0x08, 0x15, 0x05, 0xa7, 0x00, 0x05, 0x15, 0x06]
def cX0_planCrossing_r5 : List UInt8 := cX0_planCrossing_w5 ++ cX0_planCrossing_r6
def cX0_planCrossing_w4 : List UInt8 := [0x04, 0xa7, 0x00, 0x04, 0x03, 0x36, 0x0a, 0x15, 0x04, 0x15, 0x05, 0x9f, 0x00, 0x0a, 0x15, 0x04, 0x15, 0x06, 0xa0, 0x00, 0x22, 0x15, 0x08, 0x9a, 0x00, 0x08]
def cX0_planCrossing_r4 : List UInt8 := cX0_planCrossing_w4 ++ cX0_planCrossing_r5
def cX0_planCrossing_w3 : List UInt8 := [0x15, 0x06, 0x7a, 0x04, 0x7e, 0x99, 0x00, 0x07, 0x04, 0xa7, 0x00, 0x04, 0x03, 0x36, 0x09, 0x1d, 0x15, 0x04, 0x7a, 0x04, 0x7e, 0x99, 0x00, 0x07]
def cX0_planCrossing_r3 : List UInt8 := cX0_planCrossing_w3 ++ cX0_planCrossing_r4
def cX0_planCrossing_w2 : List UInt8 := [0x04, 0xa7, 0x00, 0x04, 0x03, 0x36, 0x07, 0x1d, 0x15, 0x05, 0x7a, 0x04, 0x7e, 0x99, 0x00, 0x07, 0x04, 0xa7, 0x00, 0x04, 0x03, 0x36, 0x08, 0x1d]
def cX0_planCrossing_r2 : List UInt8 := cX0_planCrossing_w2 ++ cX0_planCrossing_r3
def cX0_planCrossing_w1 : List UInt8 := [0x2e, 0x36, 0x05, 0x2a, 0xb4, 0x00, 0x09, 0x05, 0x1c, 0x68, 0x04, 0x60, 0x2e, 0x36, 0x06, 0x2b, 0xb4, 0x00, 0xb0, 0x1c, 0x2e, 0x9e, 0x00, 0x07]
def cX0_planCrossing_r1 : List UInt8 := cX0_planCrossing_w1 ++ cX0_planCrossing_r2
def cX0_planCrossing_w0 : List UInt8 := [0x2a, 0xb4, 0x00, 0x09, 0x05, 0x1c, 0x68, 0x2e, 0x36, 0x04, 0x2a, 0xb4, 0x00, 0x09, 0x2b, 0xb4, 0x00, 0x64, 0x05, 0x1c, 0x68, 0x04, 0x60, 0x2e]
def cX0_planCrossing_r0 : List UInt8 := cX0_planCrossing_w0 ++ cX0_planCrossing_r1
theorem cX0_planCrossing_s0 : dw_S cX0_planCrossing 0 cX0_planCrossing_r0 := dw_S0 (by decide +kernel)
theorem cX0_planCrossing_s1 : dw_S cX0_planCrossing 24 cX0_planCrossing_r1 := dw_Sn (w := cX0_planCrossing_w0) (r := cX0_planCrossing_r1) cX0_planCrossing_s0 (by decide +kernel)
theorem cX0_planCrossing_k0 : dw_ok cX0_planCrossing (ByteArray.mk cX0_planCrossing_w0.toArray) 0 := dw_Sw (r := cX0_planCrossing_r1) cX0_planCrossing_s0
theorem cX0_planCrossing_s2 : dw_S cX0_planCrossing 48 cX0_planCrossing_r2 := dw_Sn (w := cX0_planCrossing_w1) (r := cX0_planCrossing_r2) cX0_planCrossing_s1 (by decide +kernel)
theorem cX0_planCrossing_k1 : dw_ok cX0_planCrossing (ByteArray.mk cX0_planCrossing_w1.toArray) 24 := dw_Sw (r := cX0_planCrossing_r2) cX0_planCrossing_s1
theorem cX0_planCrossing_s3 : dw_S cX0_planCrossing 72 cX0_planCrossing_r3 := dw_Sn (w := cX0_planCrossing_w2) (r := cX0_planCrossing_r3) cX0_planCrossing_s2 (by decide +kernel)
theorem cX0_planCrossing_k2 : dw_ok cX0_planCrossing (ByteArray.mk cX0_planCrossing_w2.toArray) 48 := dw_Sw (r := cX0_planCrossing_r3) cX0_planCrossing_s2
theorem cX0_planCrossing_s4 : dw_S cX0_planCrossing 96 cX0_planCrossing_r4 := dw_Sn (w := cX0_planCrossing_w3) (r := cX0_planCrossing_r4) cX0_planCrossing_s3 (by decide +kernel)
theorem cX0_planCrossing_k3 : dw_ok cX0_planCrossing (ByteArray.mk cX0_planCrossing_w3.toArray) 72 := dw_Sw (r := cX0_planCrossing_r4) cX0_planCrossing_s3
theorem cX0_planCrossing_s5 : dw_S cX0_planCrossing 122 cX0_planCrossing_r5 := dw_Sn (w := cX0_planCrossing_w4) (r := cX0_planCrossing_r5) cX0_planCrossing_s4 (by decide +kernel)
theorem cX0_planCrossing_k4 : dw_ok cX0_planCrossing (ByteArray.mk cX0_planCrossing_w4.toArray) 96 := dw_Sw (r := cX0_planCrossing_r5) cX0_planCrossing_s4
theorem cX0_planCrossing_s6 : dw_S cX0_planCrossing 146 cX0_planCrossing_r6 := dw_Sn (w := cX0_planCrossing_w5) (r := cX0_planCrossing_r6) cX0_planCrossing_s5 (by decide +kernel)
theorem cX0_planCrossing_k5 : dw_ok cX0_planCrossing (ByteArray.mk cX0_planCrossing_w5.toArray) 122 := dw_Sw (r := cX0_planCrossing_r6) cX0_planCrossing_s5
theorem cX0_planCrossing_s7 : dw_S cX0_planCrossing 170 cX0_planCrossing_r7 := dw_Sn (w := cX0_planCrossing_w6) (r := cX0_planCrossing_r7) cX0_planCrossing_s6 (by decide +kernel)
theorem cX0_planCrossing_k6 : dw_ok cX0_planCrossing (ByteArray.mk cX0_planCrossing_w6.toArray) 146 := dw_Sw (r := cX0_planCrossing_r7) cX0_planCrossing_s6
theorem cX0_planCrossing_s8 : dw_S cX0_planCrossing 195 cX0_planCrossing_r8 := dw_Sn (w := cX0_planCrossing_w7) (r := cX0_planCrossing_r8) cX0_planCrossing_s7 (by decide +kernel)
theorem cX0_planCrossing_k7 : dw_ok cX0_planCrossing (ByteArray.mk cX0_planCrossing_w7.toArray) 170 := dw_Sw (r := cX0_planCrossing_r8) cX0_planCrossing_s7
theorem cX0_planCrossing_s9 : dw_S cX0_planCrossing 220 cX0_planCrossing_r9 := dw_Sn (w := cX0_planCrossing_w8) (r := cX0_planCrossing_r9) cX0_planCrossing_s8 (by decide +kernel)
theorem cX0_planCrossing_k8 : dw_ok cX0_planCrossing (ByteArray.mk cX0_planCrossing_w8.toArray) 195 := dw_Sw (r := cX0_planCrossing_r9) cX0_planCrossing_s8
theorem cX0_planCrossing_s10 : dw_S cX0_planCrossing 244 cX0_planCrossing_r10 := dw_Sn (w := cX0_planCrossing_w9) (r := cX0_planCrossing_r10) cX0_planCrossing_s9 (by decide +kernel)
theorem cX0_planCrossing_k9 : dw_ok cX0_planCrossing (ByteArray.mk cX0_planCrossing_w9.toArray) 220 := dw_Sw (r := cX0_planCrossing_r10) cX0_planCrossing_s9
theorem cX0_planCrossing_k10 : dw_ok cX0_planCrossing (ByteArray.mk cX0_planCrossing_w10.toArray) 244 := dw_Sw (r := []) cX0_planCrossing_s10
def cX0_planFrom_w6 : List UInt8 := [0xa7, 0x00, 0x09, 0x84, 0x06, 0x01, 0xa7, 0xff, 0xad, 0x84, 0x05, 0x01, 0xa7, 0xff, 0x70, 0x15, 0x04, 0xac]
def cX0_planFrom_r6 : List UInt8 := cX0_planFrom_w6 ++ []
def cX0_planFrom_w5 : List UInt8 := [0x15, 0x04, 0xb6, 0x00, 0xad, 0x36, 0x04, 0x84, 0x08, 0x01, 0xa7, 0xff, 0xd0, 0x15, 0x04, 0x15, 0x07, 0xa0, 0x00, 0x0b, 0x15, 0x06, 0x9e, 0x00, 0x06]
def cX0_planFrom_r5 : List UInt8 := cX0_planFrom_w5 ++ cX0_planFrom_r6
def cX0_planFrom_w4 : List UInt8 := [0x05, 0x15, 0x08, 0x68, 0x2e, 0x1c, 0xa0, 0x00, 0x1a, 0x2a, 0xb4, 0x00, 0xa6, 0x15, 0x08, 0x7a, 0x04, 0x7e, 0x9a, 0x00, 0x0e, 0x2a, 0x2b, 0x15, 0x08]
def cX0_planFrom_r4 : List UInt8 := cX0_planFrom_w4 ++ cX0_planFrom_r5
def cX0_planFrom_w3 : List UInt8 := [0x10, 0x0c, 0xa2, 0x00, 0x52, 0x15, 0x04, 0x36, 0x07, 0x03, 0x36, 0x08, 0x15, 0x08, 0x2b, 0xb4, 0x00, 0x46, 0xa2, 0x00, 0x2d, 0x2b, 0xb4, 0x00, 0x96]
def cX0_planFrom_r3 : List UInt8 := cX0_planFrom_w3 ++ cX0_planFrom_r4
def cX0_planFrom_w2 : List UInt8 := [0x15, 0x05, 0x15, 0x05, 0x15, 0x05, 0x03, 0xb6, 0x00, 0xa9, 0x15, 0x04, 0x04, 0x15, 0x05, 0x78, 0x80, 0x36, 0x04, 0x03, 0x36, 0x06, 0x15, 0x06]
def cX0_planFrom_r2 : List UInt8 := cX0_planFrom_w2 ++ cX0_planFrom_r3
def cX0_planFrom_w1 : List UInt8 := [0x1d, 0x15, 0x05, 0x7a, 0x04, 0x7e, 0x99, 0x00, 0x7e, 0x15, 0x04, 0x15, 0x05, 0x7a, 0x04, 0x7e, 0x99, 0x00, 0x06, 0xa7, 0x00, 0x71, 0x2a, 0x03]
def cX0_planFrom_r1 : List UInt8 := cX0_planFrom_w1 ++ cX0_planFrom_r2
def cX0_planFrom_w0 : List UInt8 := [0x03, 0x36, 0x04, 0x2a, 0x03, 0xb5, 0x00, 0xa3, 0x2a, 0x03, 0xb5, 0x00, 0xa6, 0x03, 0x36, 0x05, 0x15, 0x05, 0x2a, 0xb4, 0x00, 0x52, 0xa2, 0x00, 0x8d]
def cX0_planFrom_r0 : List UInt8 := cX0_planFrom_w0 ++ cX0_planFrom_r1
theorem cX0_planFrom_s0 : dw_S cX0_planFrom 0 cX0_planFrom_r0 := dw_S0 (by decide +kernel)
theorem cX0_planFrom_s1 : dw_S cX0_planFrom 25 cX0_planFrom_r1 := dw_Sn (w := cX0_planFrom_w0) (r := cX0_planFrom_r1) cX0_planFrom_s0 (by decide +kernel)
theorem cX0_planFrom_k0 : dw_ok cX0_planFrom (ByteArray.mk cX0_planFrom_w0.toArray) 0 := dw_Sw (r := cX0_planFrom_r1) cX0_planFrom_s0
theorem cX0_planFrom_s2 : dw_S cX0_planFrom 49 cX0_planFrom_r2 := dw_Sn (w := cX0_planFrom_w1) (r := cX0_planFrom_r2) cX0_planFrom_s1 (by decide +kernel)
theorem cX0_planFrom_k1 : dw_ok cX0_planFrom (ByteArray.mk cX0_planFrom_w1.toArray) 25 := dw_Sw (r := cX0_planFrom_r2) cX0_planFrom_s1
theorem cX0_planFrom_s3 : dw_S cX0_planFrom 73 cX0_planFrom_r3 := dw_Sn (w := cX0_planFrom_w2) (r := cX0_planFrom_r3) cX0_planFrom_s2 (by decide +kernel)
theorem cX0_planFrom_k2 : dw_ok cX0_planFrom (ByteArray.mk cX0_planFrom_w2.toArray) 49 := dw_Sw (r := cX0_planFrom_r3) cX0_planFrom_s2
theorem cX0_planFrom_s4 : dw_S cX0_planFrom 98 cX0_planFrom_r4 := dw_Sn (w := cX0_planFrom_w3) (r := cX0_planFrom_r4) cX0_planFrom_s3 (by decide +kernel)
theorem cX0_planFrom_k3 : dw_ok cX0_planFrom (ByteArray.mk cX0_planFrom_w3.toArray) 73 := dw_Sw (r := cX0_planFrom_r4) cX0_planFrom_s3
theorem cX0_planFrom_s5 : dw_S cX0_planFrom 123 cX0_planFrom_r5 := dw_Sn (w := cX0_planFrom_w4) (r := cX0_planFrom_r5) cX0_planFrom_s4 (by decide +kernel)
theorem cX0_planFrom_k4 : dw_ok cX0_planFrom (ByteArray.mk cX0_planFrom_w4.toArray) 98 := dw_Sw (r := cX0_planFrom_r5) cX0_planFrom_s4
theorem cX0_planFrom_s6 : dw_S cX0_planFrom 148 cX0_planFrom_r6 := dw_Sn (w := cX0_planFrom_w5) (r := cX0_planFrom_r6) cX0_planFrom_s5 (by decide +kernel)
theorem cX0_planFrom_k5 : dw_ok cX0_planFrom (ByteArray.mk cX0_planFrom_w5.toArray) 123 := dw_Sw (r := cX0_planFrom_r6) cX0_planFrom_s5
theorem cX0_planFrom_k6 : dw_ok cX0_planFrom (ByteArray.mk cX0_planFrom_w6.toArray) 148 := dw_Sw (r := []) cX0_planFrom_s6
def cX0_planPart_w4 : List UInt8 := [0xb1, 0x84, 0x05, 0x01, 0xa7, 0xff, 0xd7, 0x84, 0x04, 0x01, 0xa7, 0xff, 0xc5, 0xb1]
def cX0_planPart_r4 : List UInt8 := cX0_planPart_w4 ++ []
def cX0_planPart_w3 : List UInt8 := [0x9a, 0x00, 0x1a, 0x15, 0x05, 0xb8, 0x00, 0x99, 0x15, 0x04, 0xa0, 0x00, 0x10, 0x2a, 0x2b, 0x1c, 0x15, 0x05, 0xb6, 0x00, 0x9f, 0x1d, 0xa0, 0x00, 0x04]
def cX0_planPart_r3 : List UInt8 := cX0_planPart_w3 ++ cX0_planPart_r4
def cX0_planPart_w2 : List UInt8 := [0x15, 0x04, 0x2a, 0xb4, 0x00, 0x52, 0xa3, 0x00, 0x38, 0x04, 0x36, 0x05, 0x15, 0x05, 0x1d, 0xa3, 0x00, 0x29, 0x15, 0x05, 0x1d, 0x02, 0x82, 0x7e]
def cX0_planPart_r2 : List UInt8 := cX0_planPart_w2 ++ cX0_planPart_r3
def cX0_planPart_w1 : List UInt8 := [0xa0, 0x00, 0x0f, 0x1d, 0x04, 0x2a, 0xb4, 0x00, 0x09, 0x15, 0x04, 0x2e, 0x78, 0x80, 0x3e, 0x84, 0x04, 0x01, 0xa7, 0xff, 0xdb, 0x04, 0x36, 0x04]
def cX0_planPart_r1 : List UInt8 := cX0_planPart_w1 ++ cX0_planPart_r2
def cX0_planPart_w0 : List UInt8 := [0x03, 0x3e, 0x03, 0x36, 0x04, 0x15, 0x04, 0x05, 0x2b, 0xb4, 0x00, 0x46, 0x68, 0xa2, 0x00, 0x20, 0x2b, 0xb4, 0x00, 0x96, 0x15, 0x04, 0x2e, 0x1c]
def cX0_planPart_r0 : List UInt8 := cX0_planPart_w0 ++ cX0_planPart_r1
theorem cX0_planPart_s0 : dw_S cX0_planPart 0 cX0_planPart_r0 := dw_S0 (by decide +kernel)
theorem cX0_planPart_s1 : dw_S cX0_planPart 24 cX0_planPart_r1 := dw_Sn (w := cX0_planPart_w0) (r := cX0_planPart_r1) cX0_planPart_s0 (by decide +kernel)
theorem cX0_planPart_k0 : dw_ok cX0_planPart (ByteArray.mk cX0_planPart_w0.toArray) 0 := dw_Sw (r := cX0_planPart_r1) cX0_planPart_s0
theorem cX0_planPart_s2 : dw_S cX0_planPart 48 cX0_planPart_r2 := dw_Sn (w := cX0_planPart_w1) (r := cX0_planPart_r2) cX0_planPart_s1 (by decide +kernel)
theorem cX0_planPart_k1 : dw_ok cX0_planPart (ByteArray.mk cX0_planPart_w1.toArray) 24 := dw_Sw (r := cX0_planPart_r2) cX0_planPart_s1
theorem cX0_planPart_s3 : dw_S cX0_planPart 72 cX0_planPart_r3 := dw_Sn (w := cX0_planPart_w2) (r := cX0_planPart_r3) cX0_planPart_s2 (by decide +kernel)
theorem cX0_planPart_k2 : dw_ok cX0_planPart (ByteArray.mk cX0_planPart_w2.toArray) 48 := dw_Sw (r := cX0_planPart_r3) cX0_planPart_s2
theorem cX0_planPart_s4 : dw_S cX0_planPart 97 cX0_planPart_r4 := dw_Sn (w := cX0_planPart_w3) (r := cX0_planPart_r4) cX0_planPart_s3 (by decide +kernel)
theorem cX0_planPart_k3 : dw_ok cX0_planPart (ByteArray.mk cX0_planPart_w3.toArray) 72 := dw_Sw (r := cX0_planPart_r4) cX0_planPart_s3
theorem cX0_planPart_k4 : dw_ok cX0_planPart (ByteArray.mk cX0_planPart_w4.toArray) 97 := dw_Sw (r := []) cX0_planPart_s4
def cX0_undivided_w2 : List UInt8 := [0x21, 0x71, 0x09, 0x94, 0x99, 0x00, 0x06, 0x15, 0x05, 0xac, 0x84, 0x06, 0x01, 0xa7, 0xff, 0xe0, 0x84, 0x05, 0x01, 0xa7, 0xff, 0xc9, 0x02, 0xac]
def cX0_undivided_r2 : List UInt8 := cX0_undivided_w2 ++ []
def cX0_undivided_w1 : List UInt8 := [0x1b, 0x04, 0x60, 0x36, 0x06, 0x15, 0x06, 0x2a, 0xb4, 0x00, 0x52, 0xa2, 0x00, 0x1d, 0x2a, 0xb4, 0x00, 0x11, 0x15, 0x05, 0x32, 0x15, 0x06, 0x2f]
def cX0_undivided_r1 : List UInt8 := cX0_undivided_w1 ++ cX0_undivided_r2
def cX0_undivided_w0 : List UInt8 := [0x2a, 0xb4, 0x00, 0x11, 0x1b, 0x32, 0x1b, 0x2f, 0x42, 0x1b, 0x04, 0x60, 0x36, 0x05, 0x15, 0x05, 0x1c, 0xa2, 0x00, 0x37, 0x21, 0x09, 0x94, 0x99, 0x00, 0x31]
def cX0_undivided_r0 : List UInt8 := cX0_undivided_w0 ++ cX0_undivided_r1
theorem cX0_undivided_s0 : dw_S cX0_undivided 0 cX0_undivided_r0 := dw_S0 (by decide +kernel)
theorem cX0_undivided_s1 : dw_S cX0_undivided 26 cX0_undivided_r1 := dw_Sn (w := cX0_undivided_w0) (r := cX0_undivided_r1) cX0_undivided_s0 (by decide +kernel)
theorem cX0_undivided_k0 : dw_ok cX0_undivided (ByteArray.mk cX0_undivided_w0.toArray) 0 := dw_Sw (r := cX0_undivided_r1) cX0_undivided_s0
theorem cX0_undivided_s2 : dw_S cX0_undivided 50 cX0_undivided_r2 := dw_Sn (w := cX0_undivided_w1) (r := cX0_undivided_r2) cX0_undivided_s1 (by decide +kernel)
theorem cX0_undivided_k1 : dw_ok cX0_undivided (ByteArray.mk cX0_undivided_w1.toArray) 26 := dw_Sw (r := cX0_undivided_r2) cX0_undivided_s1
theorem cX0_undivided_k2 : dw_ok cX0_undivided (ByteArray.mk cX0_undivided_w2.toArray) 50 := dw_Sw (r := []) cX0_undivided_s2
def cX10_add_w6 : List UInt8 := [0xb8, 0x00, 0x63, 0x2a, 0xb4, 0x00, 0x0f, 0x1b, 0x2a, 0xb4, 0x00, 0x38, 0x4f, 0x2a, 0x59, 0xb4, 0x00, 0x38, 0x04, 0x60, 0xb5, 0x00, 0x38, 0xb1]
def cX10_add_r6 : List UInt8 := cX10_add_w6 ++ []
def cX10_add_w5 : List UInt8 := [0xb4, 0x00, 0x58, 0xb8, 0x00, 0x63, 0x2a, 0xb4, 0x00, 0x0f, 0x1b, 0x2a, 0xb4, 0x00, 0x0f, 0x1b, 0x04, 0x60, 0x2a, 0xb4, 0x00, 0x38, 0x1b, 0x64]
def cX10_add_r5 : List UInt8 := cX10_add_w5 ++ cX10_add_r6
def cX10_add_w4 : List UInt8 := [0xa4, 0x00, 0x04, 0xb1, 0x2a, 0xb4, 0x00, 0x15, 0xb4, 0x00, 0x60, 0x03, 0x2a, 0xb4, 0x00, 0x0b, 0x2a, 0xb4, 0x00, 0x38, 0x10, 0x14, 0x68, 0x2a]
def cX10_add_r4 : List UInt8 := cX10_add_w4 ++ cX10_add_r5
def cX10_add_w3 : List UInt8 := [0x15, 0x04, 0x3d, 0x84, 0x03, 0x01, 0xa7, 0xff, 0xb9, 0x2a, 0xb4, 0x00, 0x38, 0x11, 0x00, 0xc8, 0xa3, 0x00, 0x0c, 0x2a, 0xb4, 0x00, 0x58, 0x10, 0x14]
def cX10_add_r3 : List UInt8 := cX10_add_w3 ++ cX10_add_r4
def cX10_add_w2 : List UInt8 := [0x03, 0xb6, 0x00, 0x6d, 0x36, 0x05, 0x15, 0x05, 0x9a, 0x00, 0x04, 0xb1, 0x15, 0x05, 0x9c, 0x00, 0x0b, 0x15, 0x04, 0x04, 0x60, 0x3c, 0xa7, 0x00, 0x06]
def cX10_add_r2 : List UInt8 := cX10_add_w2 ++ cX10_add_r3
def cX10_add_w1 : List UInt8 := [0x7c, 0x36, 0x04, 0x2a, 0x2a, 0xb4, 0x00, 0x0b, 0x2a, 0xb4, 0x00, 0x0f, 0x15, 0x04, 0x2e, 0x10, 0x14, 0x68, 0x2a, 0xb4, 0x00, 0x15, 0xb4, 0x00, 0x60]
def cX10_add_r1 : List UInt8 := cX10_add_w1 ++ cX10_add_r2
def cX10_add_w0 : List UInt8 := [0x03, 0x3c, 0x2a, 0xb4, 0x00, 0x38, 0x3d, 0x03, 0x3e, 0x1d, 0x10, 0x10, 0xa2, 0x00, 0x47, 0x1b, 0x1c, 0xa2, 0x00, 0x42, 0x1b, 0x1c, 0x60, 0x04]
def cX10_add_r0 : List UInt8 := cX10_add_w0 ++ cX10_add_r1
theorem cX10_add_s0 : dw_S cX10_add 0 cX10_add_r0 := dw_S0 (by decide +kernel)
theorem cX10_add_s1 : dw_S cX10_add 24 cX10_add_r1 := dw_Sn (w := cX10_add_w0) (r := cX10_add_r1) cX10_add_s0 (by decide +kernel)
theorem cX10_add_k0 : dw_ok cX10_add (ByteArray.mk cX10_add_w0.toArray) 0 := dw_Sw (r := cX10_add_r1) cX10_add_s0
theorem cX10_add_s2 : dw_S cX10_add 49 cX10_add_r2 := dw_Sn (w := cX10_add_w1) (r := cX10_add_r2) cX10_add_s1 (by decide +kernel)
theorem cX10_add_k1 : dw_ok cX10_add (ByteArray.mk cX10_add_w1.toArray) 24 := dw_Sw (r := cX10_add_r2) cX10_add_s1
theorem cX10_add_s3 : dw_S cX10_add 74 cX10_add_r3 := dw_Sn (w := cX10_add_w2) (r := cX10_add_r3) cX10_add_s2 (by decide +kernel)
theorem cX10_add_k2 : dw_ok cX10_add (ByteArray.mk cX10_add_w2.toArray) 49 := dw_Sw (r := cX10_add_r3) cX10_add_s2
theorem cX10_add_s4 : dw_S cX10_add 99 cX10_add_r4 := dw_Sn (w := cX10_add_w3) (r := cX10_add_r4) cX10_add_s3 (by decide +kernel)
theorem cX10_add_k3 : dw_ok cX10_add (ByteArray.mk cX10_add_w3.toArray) 74 := dw_Sw (r := cX10_add_r4) cX10_add_s3
theorem cX10_add_s5 : dw_S cX10_add 123 cX10_add_r5 := dw_Sn (w := cX10_add_w4) (r := cX10_add_r5) cX10_add_s4 (by decide +kernel)
theorem cX10_add_k4 : dw_ok cX10_add (ByteArray.mk cX10_add_w4.toArray) 99 := dw_Sw (r := cX10_add_r5) cX10_add_s4
theorem cX10_add_s6 : dw_S cX10_add 147 cX10_add_r6 := dw_Sn (w := cX10_add_w5) (r := cX10_add_r6) cX10_add_s5 (by decide +kernel)
theorem cX10_add_k5 : dw_ok cX10_add (ByteArray.mk cX10_add_w5.toArray) 123 := dw_Sw (r := cX10_add_r6) cX10_add_s5
theorem cX10_add_k6 : dw_ok cX10_add (ByteArray.mk cX10_add_w6.toArray) 147 := dw_Sw (r := []) cX10_add_s6
def cX10_changesOf_w2 : List UInt8 := [0x03, 0x80, 0x3d, 0x84, 0x04, 0x01, 0xa7, 0xff, 0xd7, 0x84, 0x03, 0x01, 0xa7, 0xff, 0xc4, 0x1c, 0xac]
def cX10_changesOf_r2 : List UInt8 := cX10_changesOf_w2 ++ []
def cX10_changesOf_w1 : List UInt8 := [0x1c, 0x1b, 0x1d, 0xb8, 0x00, 0x47, 0x1b, 0x15, 0x04, 0xb8, 0x00, 0x47, 0xa4, 0x00, 0x0e, 0x04, 0x07, 0x1d, 0x68, 0x15, 0x04, 0x60, 0x78, 0xa7, 0x00, 0x04]
def cX10_changesOf_r1 : List UInt8 := cX10_changesOf_w1 ++ cX10_changesOf_r2
def cX10_changesOf_w0 : List UInt8 := [0x03, 0x3d, 0x03, 0x3e, 0x1d, 0x2a, 0xb4, 0x00, 0x26, 0xa2, 0x00, 0x3a, 0x1d, 0x04, 0x60, 0x36, 0x04, 0x15, 0x04, 0x2a, 0xb4, 0x00, 0x26, 0xa2, 0x00, 0x26]
def cX10_changesOf_r0 : List UInt8 := cX10_changesOf_w0 ++ cX10_changesOf_r1
theorem cX10_changesOf_s0 : dw_S cX10_changesOf 0 cX10_changesOf_r0 := dw_S0 (by decide +kernel)
theorem cX10_changesOf_s1 : dw_S cX10_changesOf 26 cX10_changesOf_r1 := dw_Sn (w := cX10_changesOf_w0) (r := cX10_changesOf_r1) cX10_changesOf_s0 (by decide +kernel)
theorem cX10_changesOf_k0 : dw_ok cX10_changesOf (ByteArray.mk cX10_changesOf_w0.toArray) 0 := dw_Sw (r := cX10_changesOf_r1) cX10_changesOf_s0
theorem cX10_changesOf_s2 : dw_S cX10_changesOf 52 cX10_changesOf_r2 := dw_Sn (w := cX10_changesOf_w1) (r := cX10_changesOf_r2) cX10_changesOf_s1 (by decide +kernel)
theorem cX10_changesOf_k1 : dw_ok cX10_changesOf (ByteArray.mk cX10_changesOf_w1.toArray) 26 := dw_Sw (r := cX10_changesOf_r2) cX10_changesOf_s1
theorem cX10_changesOf_k2 : dw_ok cX10_changesOf (ByteArray.mk cX10_changesOf_w2.toArray) 52 := dw_Sw (r := []) cX10_changesOf_s2
def cX10_climb_w5 : List UInt8 := [0x60, 0x3c, 0x84, 0x02, 0x01, 0xa7, 0xff, 0xbe, 0xb1]
def cX10_climb_r5 : List UInt8 := cX10_climb_w5 ++ []
def cX10_climb_w4 : List UInt8 := [0xb4, 0x00, 0x15, 0xb4, 0x00, 0x4b, 0x2a, 0xb4, 0x00, 0x15, 0xb4, 0x00, 0x51, 0x60, 0x1d, 0xa2, 0x00, 0x07, 0x03, 0xa7, 0x00, 0x06, 0x1b, 0x04]
def cX10_climb_r4 : List UInt8 := cX10_climb_w4 ++ cX10_climb_r5
def cX10_climb_w3 : List UInt8 := [0x2a, 0xb4, 0x00, 0x15, 0xb4, 0x00, 0x4b, 0x2a, 0xb4, 0x00, 0x15, 0xb4, 0x00, 0x51, 0x60, 0x3e, 0x2a, 0xb4, 0x00, 0x15, 0xb6, 0x00, 0x54, 0x2a]
def cX10_climb_r3 : List UInt8 := cX10_climb_w3 ++ cX10_climb_r4
def cX10_climb_w2 : List UInt8 := [0x04, 0x60, 0x3c, 0x84, 0x02, 0x01, 0xa7, 0xff, 0xce, 0x03, 0x3c, 0x03, 0x3d, 0x1c, 0x11, 0x07, 0xd0, 0xa2, 0x00, 0x41, 0x1b, 0x10, 0x1e, 0xa2, 0x00, 0x3b]
def cX10_climb_r2 : List UInt8 := cX10_climb_w2 ++ cX10_climb_r3
def cX10_climb_w1 : List UInt8 := [0x3e, 0x2a, 0xb4, 0x00, 0x15, 0xb6, 0x00, 0x4e, 0x2a, 0xb4, 0x00, 0x15, 0xb4, 0x00, 0x4b, 0x1d, 0xa4, 0x00, 0x07, 0x03, 0xa7, 0x00, 0x06, 0x1b]
def cX10_climb_r1 : List UInt8 := cX10_climb_w1 ++ cX10_climb_r2
def cX10_climb_w0 : List UInt8 := [0x03, 0x3c, 0x03, 0x3d, 0x1c, 0x11, 0x07, 0xd0, 0xa2, 0x00, 0x31, 0x1b, 0x10, 0x1e, 0xa2, 0x00, 0x2b, 0x2a, 0xb4, 0x00, 0x15, 0xb4, 0x00, 0x4b]
def cX10_climb_r0 : List UInt8 := cX10_climb_w0 ++ cX10_climb_r1
theorem cX10_climb_s0 : dw_S cX10_climb 0 cX10_climb_r0 := dw_S0 (by decide +kernel)
theorem cX10_climb_s1 : dw_S cX10_climb 24 cX10_climb_r1 := dw_Sn (w := cX10_climb_w0) (r := cX10_climb_r1) cX10_climb_s0 (by decide +kernel)
theorem cX10_climb_k0 : dw_ok cX10_climb (ByteArray.mk cX10_climb_w0.toArray) 0 := dw_Sw (r := cX10_climb_r1) cX10_climb_s0
theorem cX10_climb_s2 : dw_S cX10_climb 48 cX10_climb_r2 := dw_Sn (w := cX10_climb_w1) (r := cX10_climb_r2) cX10_climb_s1 (by decide +kernel)
theorem cX10_climb_k1 : dw_ok cX10_climb (ByteArray.mk cX10_climb_w1.toArray) 24 := dw_Sw (r := cX10_climb_r2) cX10_climb_s1
theorem cX10_climb_s3 : dw_S cX10_climb 74 cX10_climb_r3 := dw_Sn (w := cX10_climb_w2) (r := cX10_climb_r3) cX10_climb_s2 (by decide +kernel)
theorem cX10_climb_k2 : dw_ok cX10_climb (ByteArray.mk cX10_climb_w2.toArray) 48 := dw_Sw (r := cX10_climb_r3) cX10_climb_s2
theorem cX10_climb_s4 : dw_S cX10_climb 98 cX10_climb_r4 := dw_Sn (w := cX10_climb_w3) (r := cX10_climb_r4) cX10_climb_s3 (by decide +kernel)
theorem cX10_climb_k3 : dw_ok cX10_climb (ByteArray.mk cX10_climb_w3.toArray) 74 := dw_Sw (r := cX10_climb_r4) cX10_climb_s3
theorem cX10_climb_s5 : dw_S cX10_climb 122 cX10_climb_r5 := dw_Sn (w := cX10_climb_w4) (r := cX10_climb_r5) cX10_climb_s4 (by decide +kernel)
theorem cX10_climb_k4 : dw_ok cX10_climb (ByteArray.mk cX10_climb_w4.toArray) 98 := dw_Sw (r := cX10_climb_r5) cX10_climb_s4
theorem cX10_climb_k5 : dw_ok cX10_climb (ByteArray.mk cX10_climb_w5.toArray) 122 := dw_Sw (r := []) cX10_climb_s5
def cX10_compare_w2 : List UInt8 := [0x04, 0xac, 0x84, 0x05, 0x01, 0xa7, 0xff, 0xce, 0x03, 0xac]
def cX10_compare_r2 : List UInt8 := cX10_compare_w2 ++ []
def cX10_compare_w1 : List UInt8 := [0x2e, 0x9f, 0x00, 0x19, 0x2b, 0x1c, 0x15, 0x05, 0x60, 0x2e, 0x2d, 0x15, 0x04, 0x15, 0x05, 0x60, 0x2e, 0xa2, 0x00, 0x07, 0x02, 0xa7, 0x00, 0x04]
def cX10_compare_r1 : List UInt8 := cX10_compare_w1 ++ cX10_compare_r2
def cX10_compare_w0 : List UInt8 := [0x03, 0x36, 0x05, 0x15, 0x05, 0x2a, 0xb4, 0x00, 0x58, 0xa2, 0x00, 0x2f, 0x2b, 0x1c, 0x15, 0x05, 0x60, 0x2e, 0x2d, 0x15, 0x04, 0x15, 0x05, 0x60]
def cX10_compare_r0 : List UInt8 := cX10_compare_w0 ++ cX10_compare_r1
theorem cX10_compare_s0 : dw_S cX10_compare 0 cX10_compare_r0 := dw_S0 (by decide +kernel)
theorem cX10_compare_s1 : dw_S cX10_compare 24 cX10_compare_r1 := dw_Sn (w := cX10_compare_w0) (r := cX10_compare_r1) cX10_compare_s0 (by decide +kernel)
theorem cX10_compare_k0 : dw_ok cX10_compare (ByteArray.mk cX10_compare_w0.toArray) 0 := dw_Sw (r := cX10_compare_r1) cX10_compare_s0
theorem cX10_compare_s2 : dw_S cX10_compare 48 cX10_compare_r2 := dw_Sn (w := cX10_compare_w1) (r := cX10_compare_r2) cX10_compare_s1 (by decide +kernel)
theorem cX10_compare_k1 : dw_ok cX10_compare (ByteArray.mk cX10_compare_w1.toArray) 24 := dw_Sw (r := cX10_compare_r2) cX10_compare_s1
theorem cX10_compare_k2 : dw_ok cX10_compare (ByteArray.mk cX10_compare_w2.toArray) 48 := dw_Sw (r := []) cX10_compare_s2
def cX10_find_w2 : List UInt8 := [0xa4, 0x00, 0x08, 0x10, 0xfe, 0xa7, 0x00, 0x07, 0x2a, 0xb4, 0x00, 0x38, 0xac, 0x84, 0x02, 0x01, 0xa7, 0xff, 0xd4, 0x10, 0xfe, 0xac]
def cX10_find_r2 : List UInt8 := cX10_find_w2 ++ []
def cX10_find_w1 : List UInt8 := [0xa2, 0x00, 0x2c, 0x2a, 0xb6, 0x00, 0x2e, 0x2a, 0xb6, 0x00, 0x31, 0x2a, 0xb6, 0x00, 0x34, 0x99, 0x00, 0x17, 0x2a, 0xb4, 0x00, 0x38, 0x11, 0x00, 0xc8]
def cX10_find_r1 : List UInt8 := cX10_find_w1 ++ cX10_find_r2
def cX10_find_w0 : List UInt8 := [0x2a, 0x2b, 0xb4, 0x00, 0x22, 0xb5, 0x00, 0x26, 0x2a, 0xb4, 0x00, 0x15, 0x2b, 0xb6, 0x00, 0x27, 0x2a, 0xb6, 0x00, 0x2b, 0x03, 0x3d, 0x1c, 0x10, 0x64]
def cX10_find_r0 : List UInt8 := cX10_find_w0 ++ cX10_find_r1
theorem cX10_find_s0 : dw_S cX10_find 0 cX10_find_r0 := dw_S0 (by decide +kernel)
theorem cX10_find_s1 : dw_S cX10_find 25 cX10_find_r1 := dw_Sn (w := cX10_find_w0) (r := cX10_find_r1) cX10_find_s0 (by decide +kernel)
theorem cX10_find_k0 : dw_ok cX10_find (ByteArray.mk cX10_find_w0.toArray) 0 := dw_Sw (r := cX10_find_r1) cX10_find_s0
theorem cX10_find_s2 : dw_S cX10_find 50 cX10_find_r2 := dw_Sn (w := cX10_find_w1) (r := cX10_find_r2) cX10_find_s1 (by decide +kernel)
theorem cX10_find_k1 : dw_ok cX10_find (ByteArray.mk cX10_find_w1.toArray) 25 := dw_Sw (r := cX10_find_r2) cX10_find_s1
theorem cX10_find_k2 : dw_ok cX10_find (ByteArray.mk cX10_find_w2.toArray) 50 := dw_Sw (r := []) cX10_find_s2
def cX10_gather_w8 : List UInt8 := [0x1d, 0x2e, 0x4f, 0x84, 0x02, 0x01, 0x84, 0x03, 0x01, 0xa7, 0xff, 0x4a, 0x84, 0x01, 0x01, 0xa7, 0xff, 0x2e, 0x04, 0xac]
def cX10_gather_r8 : List UInt8 := cX10_gather_w8 ++ []
def cX10_gather_w7 : List UInt8 := [0xb4, 0x00, 0x15, 0xb4, 0x00, 0x51, 0x2a, 0xb4, 0x00, 0x58, 0xa0, 0x00, 0x16, 0x2a, 0xb6, 0x00, 0x59, 0x2a, 0xb4, 0x00, 0x1f, 0x1c, 0x2a, 0xb4, 0x00, 0x1c]
def cX10_gather_r7 : List UInt8 := cX10_gather_w7 ++ cX10_gather_r8
def cX10_gather_w6 : List UInt8 := [0x2a, 0xb4, 0x00, 0x58, 0xa2, 0x00, 0x05, 0x03, 0xac, 0x2a, 0xb4, 0x00, 0x15, 0xb4, 0x00, 0x4b, 0x2a, 0xb4, 0x00, 0x57, 0xa0, 0x00, 0x24, 0x2a]
def cX10_gather_r6 : List UInt8 := cX10_gather_w6 ++ cX10_gather_r7
def cX10_gather_w5 : List UInt8 := [0xa3, 0x00, 0x1f, 0x2a, 0xb4, 0x00, 0x15, 0xb4, 0x00, 0x4b, 0x2a, 0xb4, 0x00, 0x57, 0xa0, 0x00, 0x13, 0x2a, 0xb4, 0x00, 0x15, 0xb4, 0x00, 0x51]
def cX10_gather_r5 : List UInt8 := cX10_gather_w5 ++ cX10_gather_r6
def cX10_gather_w4 : List UInt8 := [0x2a, 0xb4, 0x00, 0x15, 0x2a, 0xb4, 0x00, 0x19, 0x1d, 0x2e, 0xb6, 0x00, 0x69, 0x2a, 0xb4, 0x00, 0x15, 0xb4, 0x00, 0x4b, 0x2a, 0xb4, 0x00, 0x57]
def cX10_gather_r4 : List UInt8 := cX10_gather_w4 ++ cX10_gather_r5
def cX10_gather_w3 : List UInt8 := [0xb5, 0x00, 0x51, 0x2a, 0xb4, 0x00, 0x0b, 0x1b, 0x10, 0x14, 0x68, 0x2a, 0xb4, 0x00, 0x15, 0xb4, 0x00, 0x60, 0x03, 0x2a, 0xb4, 0x00, 0x58, 0xb8, 0x00, 0x63]
def cX10_gather_r3 : List UInt8 := cX10_gather_w3 ++ cX10_gather_r4
def cX10_gather_w2 : List UInt8 := [0x99, 0x00, 0x06, 0xa7, 0x00, 0x98, 0x2a, 0xb4, 0x00, 0x15, 0x2a, 0xb4, 0x00, 0x57, 0xb5, 0x00, 0x4b, 0x2a, 0xb4, 0x00, 0x15, 0x2a, 0xb4, 0x00, 0x58]
def cX10_gather_r2 : List UInt8 := cX10_gather_w2 ++ cX10_gather_r3
def cX10_gather_w1 : List UInt8 := [0x1d, 0x2a, 0xb4, 0x00, 0x3b, 0xa2, 0x00, 0xb4, 0x2a, 0xb4, 0x00, 0x38, 0x11, 0x00, 0xc8, 0xa3, 0x00, 0xaa, 0x2a, 0x1d, 0x1c, 0xb6, 0x00, 0x5c]
def cX10_gather_r1 : List UInt8 := cX10_gather_w1 ++ cX10_gather_r2
def cX10_gather_w0 : List UInt8 := [0x03, 0x3c, 0x1b, 0x2a, 0xb4, 0x00, 0x38, 0xa2, 0x00, 0xd0, 0x2a, 0xb4, 0x00, 0x38, 0x11, 0x00, 0xc8, 0xa3, 0x00, 0xc6, 0x03, 0x3d, 0x03, 0x3e]
def cX10_gather_r0 : List UInt8 := cX10_gather_w0 ++ cX10_gather_r1
theorem cX10_gather_s0 : dw_S cX10_gather 0 cX10_gather_r0 := dw_S0 (by decide +kernel)
theorem cX10_gather_s1 : dw_S cX10_gather 24 cX10_gather_r1 := dw_Sn (w := cX10_gather_w0) (r := cX10_gather_r1) cX10_gather_s0 (by decide +kernel)
theorem cX10_gather_k0 : dw_ok cX10_gather (ByteArray.mk cX10_gather_w0.toArray) 0 := dw_Sw (r := cX10_gather_r1) cX10_gather_s0
theorem cX10_gather_s2 : dw_S cX10_gather 48 cX10_gather_r2 := dw_Sn (w := cX10_gather_w1) (r := cX10_gather_r2) cX10_gather_s1 (by decide +kernel)
theorem cX10_gather_k1 : dw_ok cX10_gather (ByteArray.mk cX10_gather_w1.toArray) 24 := dw_Sw (r := cX10_gather_r2) cX10_gather_s1
theorem cX10_gather_s3 : dw_S cX10_gather 73 cX10_gather_r3 := dw_Sn (w := cX10_gather_w2) (r := cX10_gather_r3) cX10_gather_s2 (by decide +kernel)
theorem cX10_gather_k2 : dw_ok cX10_gather (ByteArray.mk cX10_gather_w2.toArray) 48 := dw_Sw (r := cX10_gather_r3) cX10_gather_s2
theorem cX10_gather_s4 : dw_S cX10_gather 99 cX10_gather_r4 := dw_Sn (w := cX10_gather_w3) (r := cX10_gather_r4) cX10_gather_s3 (by decide +kernel)
theorem cX10_gather_k3 : dw_ok cX10_gather (ByteArray.mk cX10_gather_w3.toArray) 73 := dw_Sw (r := cX10_gather_r4) cX10_gather_s3
theorem cX10_gather_s5 : dw_S cX10_gather 123 cX10_gather_r5 := dw_Sn (w := cX10_gather_w4) (r := cX10_gather_r5) cX10_gather_s4 (by decide +kernel)
theorem cX10_gather_k4 : dw_ok cX10_gather (ByteArray.mk cX10_gather_w4.toArray) 99 := dw_Sw (r := cX10_gather_r5) cX10_gather_s4
theorem cX10_gather_s6 : dw_S cX10_gather 147 cX10_gather_r6 := dw_Sn (w := cX10_gather_w5) (r := cX10_gather_r6) cX10_gather_s5 (by decide +kernel)
theorem cX10_gather_k5 : dw_ok cX10_gather (ByteArray.mk cX10_gather_w5.toArray) 123 := dw_Sw (r := cX10_gather_r6) cX10_gather_s5
theorem cX10_gather_s7 : dw_S cX10_gather 171 cX10_gather_r7 := dw_Sn (w := cX10_gather_w6) (r := cX10_gather_r7) cX10_gather_s6 (by decide +kernel)
theorem cX10_gather_k6 : dw_ok cX10_gather (ByteArray.mk cX10_gather_w6.toArray) 147 := dw_Sw (r := cX10_gather_r7) cX10_gather_s6
theorem cX10_gather_s8 : dw_S cX10_gather 197 cX10_gather_r8 := dw_Sn (w := cX10_gather_w7) (r := cX10_gather_r8) cX10_gather_s7 (by decide +kernel)
theorem cX10_gather_k7 : dw_ok cX10_gather (ByteArray.mk cX10_gather_w7.toArray) 171 := dw_Sw (r := cX10_gather_r8) cX10_gather_s7
theorem cX10_gather_k8 : dw_ok cX10_gather (ByteArray.mk cX10_gather_w8.toArray) 197 := dw_Sw (r := []) cX10_gather_s8
def cX10_init_w2 : List UInt8 := [0x10, 0x18, 0xbc, 0x0a, 0xb5, 0x00, 0x1f, 0xb1]
def cX10_init_r2 : List UInt8 := cX10_init_w2 ++ []
def cX10_init_w1 : List UInt8 := [0x59, 0xb7, 0x00, 0x14, 0xb5, 0x00, 0x15, 0x2a, 0x10, 0x18, 0xbc, 0x0a, 0xb5, 0x00, 0x19, 0x2a, 0x10, 0x18, 0xbc, 0x0a, 0xb5, 0x00, 0x1c, 0x2a]
def cX10_init_r1 : List UInt8 := cX10_init_w1 ++ cX10_init_r2
def cX10_init_w0 : List UInt8 := [0x2a, 0xb7, 0x00, 0x03, 0x2a, 0x11, 0x0f, 0xb4, 0xbc, 0x0a, 0xb5, 0x00, 0x0b, 0x2a, 0x11, 0x00, 0xc9, 0xbc, 0x0a, 0xb5, 0x00, 0x0f, 0x2a, 0xbb, 0x00, 0x12]
def cX10_init_r0 : List UInt8 := cX10_init_w0 ++ cX10_init_r1
theorem cX10_init_s0 : dw_S cX10_init 0 cX10_init_r0 := dw_S0 (by decide +kernel)
theorem cX10_init_s1 : dw_S cX10_init 26 cX10_init_r1 := dw_Sn (w := cX10_init_w0) (r := cX10_init_r1) cX10_init_s0 (by decide +kernel)
theorem cX10_init_k0 : dw_ok cX10_init (ByteArray.mk cX10_init_w0.toArray) 0 := dw_Sw (r := cX10_init_r1) cX10_init_s0
theorem cX10_init_s2 : dw_S cX10_init 50 cX10_init_r2 := dw_Sn (w := cX10_init_w1) (r := cX10_init_r2) cX10_init_s1 (by decide +kernel)
theorem cX10_init_k1 : dw_ok cX10_init (ByteArray.mk cX10_init_w1.toArray) 26 := dw_Sw (r := cX10_init_r2) cX10_init_s1
theorem cX10_init_k2 : dw_ok cX10_init (ByteArray.mk cX10_init_w2.toArray) 50 := dw_Sw (r := []) cX10_init_s2
def cX10_listSimples_w6 : List UInt8 := [0x2a, 0x1d, 0xb6, 0x00, 0x3e, 0x4f, 0x2a, 0x59, 0xb4, 0x00, 0x3b, 0x04, 0x60, 0xb5, 0x00, 0x3b, 0x84, 0x02, 0x01, 0xa7, 0xff, 0x6a, 0x84, 0x01, 0x01, 0xa7, 0xff, 0x5c, 0xb1]
def cX10_listSimples_r6 : List UInt8 := cX10_listSimples_w6 ++ []
def cX10_listSimples_w5 : List UInt8 := [0xb8, 0x00, 0x42, 0x1b, 0xa0, 0x00, 0x25, 0x2a, 0xb4, 0x00, 0x19, 0x2a, 0xb4, 0x00, 0x3b, 0x1d, 0x4f, 0x2a, 0xb4, 0x00, 0x1c, 0x2a, 0xb4, 0x00, 0x3b]
def cX10_listSimples_r5 : List UInt8 := cX10_listSimples_w5 ++ cX10_listSimples_r6
def cX10_listSimples_w4 : List UInt8 := [0xb4, 0x00, 0x19, 0xbe, 0xa2, 0x00, 0x07, 0x04, 0xa7, 0x00, 0x04, 0x03, 0x36, 0x05, 0x15, 0x05, 0x99, 0x00, 0x31, 0x2a, 0x1d, 0xb6, 0x00, 0x3e]
def cX10_listSimples_r4 : List UInt8 := cX10_listSimples_w4 ++ cX10_listSimples_r5
def cX10_listSimples_w3 : List UInt8 := [0x84, 0x05, 0x01, 0xa7, 0xff, 0xd7, 0x15, 0x04, 0x04, 0x2a, 0xb4, 0x00, 0x26, 0x78, 0x04, 0x64, 0xa0, 0x00, 0x13, 0x2a, 0xb4, 0x00, 0x3b, 0x2a]
def cX10_listSimples_r3 : List UInt8 := cX10_listSimples_w3 ++ cX10_listSimples_r4
def cX10_listSimples_w2 : List UInt8 := [0x68, 0x7a, 0x06, 0x7e, 0x36, 0x06, 0x1d, 0x15, 0x06, 0x07, 0x15, 0x05, 0x68, 0x78, 0x80, 0x3e, 0x15, 0x04, 0x04, 0x15, 0x06, 0x78, 0x80, 0x36, 0x04]
def cX10_listSimples_r2 : List UInt8 := cX10_listSimples_w2 ++ cX10_listSimples_r3
def cX10_listSimples_w1 : List UInt8 := [0xa2, 0x00, 0x90, 0x03, 0x3e, 0x03, 0x36, 0x04, 0x03, 0x36, 0x05, 0x15, 0x05, 0x2a, 0xb4, 0x00, 0x26, 0xa2, 0x00, 0x26, 0x1c, 0x05, 0x15, 0x05]
def cX10_listSimples_r1 : List UInt8 := cX10_listSimples_w1 ++ cX10_listSimples_r2
def cX10_listSimples_w0 : List UInt8 := [0x2a, 0x03, 0xb5, 0x00, 0x3b, 0x04, 0x3c, 0x1b, 0x10, 0x06, 0xa3, 0x00, 0xa4, 0x03, 0x3d, 0x1c, 0x04, 0x05, 0x2a, 0xb4, 0x00, 0x26, 0x68, 0x78]
def cX10_listSimples_r0 : List UInt8 := cX10_listSimples_w0 ++ cX10_listSimples_r1
theorem cX10_listSimples_s0 : dw_S cX10_listSimples 0 cX10_listSimples_r0 := dw_S0 (by decide +kernel)
theorem cX10_listSimples_s1 : dw_S cX10_listSimples 24 cX10_listSimples_r1 := dw_Sn (w := cX10_listSimples_w0) (r := cX10_listSimples_r1) cX10_listSimples_s0 (by decide +kernel)
theorem cX10_listSimples_k0 : dw_ok cX10_listSimples (ByteArray.mk cX10_listSimples_w0.toArray) 0 := dw_Sw (r := cX10_listSimples_r1) cX10_listSimples_s0
theorem cX10_listSimples_s2 : dw_S cX10_listSimples 48 cX10_listSimples_r2 := dw_Sn (w := cX10_listSimples_w1) (r := cX10_listSimples_r2) cX10_listSimples_s1 (by decide +kernel)
theorem cX10_listSimples_k1 : dw_ok cX10_listSimples (ByteArray.mk cX10_listSimples_w1.toArray) 24 := dw_Sw (r := cX10_listSimples_r2) cX10_listSimples_s1
theorem cX10_listSimples_s3 : dw_S cX10_listSimples 73 cX10_listSimples_r3 := dw_Sn (w := cX10_listSimples_w2) (r := cX10_listSimples_r3) cX10_listSimples_s2 (by decide +kernel)
theorem cX10_listSimples_k2 : dw_ok cX10_listSimples (ByteArray.mk cX10_listSimples_w2.toArray) 48 := dw_Sw (r := cX10_listSimples_r3) cX10_listSimples_s2
theorem cX10_listSimples_s4 : dw_S cX10_listSimples 97 cX10_listSimples_r4 := dw_Sn (w := cX10_listSimples_w3) (r := cX10_listSimples_r4) cX10_listSimples_s3 (by decide +kernel)
theorem cX10_listSimples_k3 : dw_ok cX10_listSimples (ByteArray.mk cX10_listSimples_w3.toArray) 73 := dw_Sw (r := cX10_listSimples_r4) cX10_listSimples_s3
theorem cX10_listSimples_s5 : dw_S cX10_listSimples 121 cX10_listSimples_r5 := dw_Sn (w := cX10_listSimples_w4) (r := cX10_listSimples_r5) cX10_listSimples_s4 (by decide +kernel)
theorem cX10_listSimples_k4 : dw_ok cX10_listSimples (ByteArray.mk cX10_listSimples_w4.toArray) 97 := dw_Sw (r := cX10_listSimples_r5) cX10_listSimples_s4
theorem cX10_listSimples_s6 : dw_S cX10_listSimples 146 cX10_listSimples_r6 := dw_Sn (w := cX10_listSimples_w5) (r := cX10_listSimples_r6) cX10_listSimples_s5 (by decide +kernel)
theorem cX10_listSimples_k5 : dw_ok cX10_listSimples (ByteArray.mk cX10_listSimples_w5.toArray) 121 := dw_Sw (r := cX10_listSimples_r6) cX10_listSimples_s5
theorem cX10_listSimples_k6 : dw_ok cX10_listSimples (ByteArray.mk cX10_listSimples_w6.toArray) 146 := dw_Sw (r := []) cX10_listSimples_s6
def cX10_sameAs_w3 : List UInt8 := [0x2b, 0xb4, 0x00, 0x0f, 0x1c, 0x2e, 0x10, 0x14, 0x68, 0xb6, 0x00, 0x6d, 0x99, 0x00, 0x05, 0x03, 0xac, 0x84, 0x02, 0x01, 0xa7, 0xff, 0xd2, 0x04, 0xac]
def cX10_sameAs_r3 : List UInt8 := cX10_sameAs_w3 ++ []
def cX10_sameAs_w2 : List UInt8 := [0xb4, 0x00, 0x38, 0xa2, 0x00, 0x2c, 0x2a, 0x2a, 0xb4, 0x00, 0x0b, 0x2a, 0xb4, 0x00, 0x0f, 0x1c, 0x2e, 0x10, 0x14, 0x68, 0x2b, 0xb4, 0x00, 0x0b]
def cX10_sameAs_r2 : List UInt8 := cX10_sameAs_w2 ++ cX10_sameAs_r3
def cX10_sameAs_w1 : List UInt8 := [0x2b, 0xb4, 0x00, 0x58, 0xa0, 0x00, 0x0e, 0x2a, 0xb4, 0x00, 0x38, 0x2b, 0xb4, 0x00, 0x38, 0x9f, 0x00, 0x05, 0x03, 0xac, 0x03, 0x3d, 0x1c, 0x2a]
def cX10_sameAs_r1 : List UInt8 := cX10_sameAs_w1 ++ cX10_sameAs_r2
def cX10_sameAs_w0 : List UInt8 := [0x2a, 0xb4, 0x00, 0x26, 0x2b, 0xb4, 0x00, 0x26, 0xa0, 0x00, 0x24, 0x2a, 0xb4, 0x00, 0x57, 0x2b, 0xb4, 0x00, 0x57, 0xa0, 0x00, 0x19, 0x2a, 0xb4, 0x00, 0x58]
def cX10_sameAs_r0 : List UInt8 := cX10_sameAs_w0 ++ cX10_sameAs_r1
theorem cX10_sameAs_s0 : dw_S cX10_sameAs 0 cX10_sameAs_r0 := dw_S0 (by decide +kernel)
theorem cX10_sameAs_s1 : dw_S cX10_sameAs 26 cX10_sameAs_r1 := dw_Sn (w := cX10_sameAs_w0) (r := cX10_sameAs_r1) cX10_sameAs_s0 (by decide +kernel)
theorem cX10_sameAs_k0 : dw_ok cX10_sameAs (ByteArray.mk cX10_sameAs_w0.toArray) 0 := dw_Sw (r := cX10_sameAs_r1) cX10_sameAs_s0
theorem cX10_sameAs_s2 : dw_S cX10_sameAs 50 cX10_sameAs_r2 := dw_Sn (w := cX10_sameAs_w1) (r := cX10_sameAs_r2) cX10_sameAs_s1 (by decide +kernel)
theorem cX10_sameAs_k1 : dw_ok cX10_sameAs (ByteArray.mk cX10_sameAs_w1.toArray) 26 := dw_Sw (r := cX10_sameAs_r2) cX10_sameAs_s1
theorem cX10_sameAs_s3 : dw_S cX10_sameAs 74 cX10_sameAs_r3 := dw_Sn (w := cX10_sameAs_w2) (r := cX10_sameAs_r3) cX10_sameAs_s2 (by decide +kernel)
theorem cX10_sameAs_k2 : dw_ok cX10_sameAs (ByteArray.mk cX10_sameAs_w2.toArray) 50 := dw_Sw (r := cX10_sameAs_r3) cX10_sameAs_s2
theorem cX10_sameAs_k3 : dw_ok cX10_sameAs (ByteArray.mk cX10_sameAs_w3.toArray) 74 := dw_Sw (r := []) cX10_sameAs_s3
def cX11_braid_w3 : List UInt8 := [0x1c, 0x1d, 0x4f, 0x2a, 0xb4, 0x00, 0x5b, 0x1c, 0x1b, 0x4f, 0x1c, 0xac]
def cX11_braid_r3 : List UInt8 := cX11_braid_w3 ++ []
def cX11_braid_w2 : List UInt8 := [0x36, 0x04, 0x2a, 0xb4, 0x00, 0x33, 0x03, 0xb5, 0x00, 0x72, 0x15, 0x04, 0x02, 0x9f, 0x00, 0x08, 0x02, 0x15, 0x04, 0x64, 0xac, 0x2a, 0xb4, 0x00, 0x57]
def cX11_braid_r2 : List UInt8 := cX11_braid_w2 ++ cX11_braid_r3
def cX11_braid_w1 : List UInt8 := [0x3d, 0x2a, 0xb4, 0x00, 0x33, 0xb4, 0x00, 0x72, 0x3e, 0x2a, 0xb4, 0x00, 0x33, 0x1b, 0x2a, 0xb4, 0x00, 0x53, 0x1c, 0x10, 0x10, 0x68, 0xb6, 0x00, 0x9a]
def cX11_braid_r1 : List UInt8 := cX11_braid_w1 ++ cX11_braid_r2
def cX11_braid_w0 : List UInt8 := [0x1b, 0x05, 0xa1, 0x00, 0x08, 0x1b, 0x08, 0xa4, 0x00, 0x0d, 0xbb, 0x00, 0x80, 0x59, 0x12, 0x95, 0xb7, 0x00, 0x84, 0xbf, 0x2a, 0xb6, 0x00, 0x97]
def cX11_braid_r0 : List UInt8 := cX11_braid_w0 ++ cX11_braid_r1
theorem cX11_braid_s0 : dw_S cX11_braid 0 cX11_braid_r0 := dw_S0 (by decide +kernel)
theorem cX11_braid_s1 : dw_S cX11_braid 24 cX11_braid_r1 := dw_Sn (w := cX11_braid_w0) (r := cX11_braid_r1) cX11_braid_s0 (by decide +kernel)
theorem cX11_braid_k0 : dw_ok cX11_braid (ByteArray.mk cX11_braid_w0.toArray) 0 := dw_Sw (r := cX11_braid_r1) cX11_braid_s0
theorem cX11_braid_s2 : dw_S cX11_braid 49 cX11_braid_r2 := dw_Sn (w := cX11_braid_w1) (r := cX11_braid_r2) cX11_braid_s1 (by decide +kernel)
theorem cX11_braid_k1 : dw_ok cX11_braid (ByteArray.mk cX11_braid_w1.toArray) 24 := dw_Sw (r := cX11_braid_r2) cX11_braid_s1
theorem cX11_braid_s3 : dw_S cX11_braid 74 cX11_braid_r3 := dw_Sn (w := cX11_braid_w2) (r := cX11_braid_r3) cX11_braid_s2 (by decide +kernel)
theorem cX11_braid_k2 : dw_ok cX11_braid (ByteArray.mk cX11_braid_w2.toArray) 49 := dw_Sw (r := cX11_braid_r3) cX11_braid_s2
theorem cX11_braid_k3 : dw_ok cX11_braid (ByteArray.mk cX11_braid_w3.toArray) 74 := dw_Sw (r := []) cX11_braid_s3
def cX11_chain_w4 : List UInt8 := [0x2a, 0xb4, 0x00, 0x1b, 0x1c, 0xb6, 0x01, 0x73, 0xac]
def cX11_chain_r4 : List UInt8 := cX11_chain_w4 ++ []
def cX11_chain_w3 : List UInt8 := [0xb4, 0x00, 0xcc, 0x60, 0x10, 0x09, 0xa4, 0x00, 0x0e, 0xbb, 0x01, 0x07, 0x59, 0x13, 0x01, 0x71, 0xb7, 0x01, 0x0b, 0xbf, 0x2a, 0xb4, 0x00, 0x4f]
def cX11_chain_r3 : List UInt8 := cX11_chain_w3 ++ cX11_chain_r4
def cX11_chain_w2 : List UInt8 := [0xb4, 0x00, 0x1b, 0xb6, 0x00, 0xcf, 0x2a, 0xb4, 0x00, 0x1b, 0xb4, 0x00, 0xc6, 0x2a, 0xb4, 0x00, 0x1b, 0xb4, 0x00, 0xd2, 0x60, 0x2a, 0xb4, 0x00, 0x1b]
def cX11_chain_r2 : List UInt8 := cX11_chain_w2 ++ cX11_chain_r3
def cX11_chain_w1 : List UInt8 := [0xbb, 0x00, 0x80, 0x59, 0x13, 0x01, 0x6f, 0xb7, 0x00, 0x84, 0xbf, 0x2a, 0xb4, 0x00, 0x1b, 0x2a, 0xb4, 0x00, 0x0e, 0x1b, 0xb6, 0x00, 0xc2, 0x2a]
def cX11_chain_r1 : List UInt8 := cX11_chain_w1 ++ cX11_chain_r2
def cX11_chain_w0 : List UInt8 := [0x2a, 0x1b, 0xb6, 0x00, 0xbd, 0x1c, 0x05, 0xa1, 0x00, 0x11, 0x1c, 0x11, 0x03, 0xe5, 0xa3, 0x00, 0x0a, 0x1c, 0xb8, 0x01, 0x6c, 0x9a, 0x00, 0x0e]
def cX11_chain_r0 : List UInt8 := cX11_chain_w0 ++ cX11_chain_r1
theorem cX11_chain_s0 : dw_S cX11_chain 0 cX11_chain_r0 := dw_S0 (by decide +kernel)
theorem cX11_chain_s1 : dw_S cX11_chain 24 cX11_chain_r1 := dw_Sn (w := cX11_chain_w0) (r := cX11_chain_r1) cX11_chain_s0 (by decide +kernel)
theorem cX11_chain_k0 : dw_ok cX11_chain (ByteArray.mk cX11_chain_w0.toArray) 0 := dw_Sw (r := cX11_chain_r1) cX11_chain_s0
theorem cX11_chain_s2 : dw_S cX11_chain 48 cX11_chain_r2 := dw_Sn (w := cX11_chain_w1) (r := cX11_chain_r2) cX11_chain_s1 (by decide +kernel)
theorem cX11_chain_k1 : dw_ok cX11_chain (ByteArray.mk cX11_chain_w1.toArray) 24 := dw_Sw (r := cX11_chain_r2) cX11_chain_s1
theorem cX11_chain_s3 : dw_S cX11_chain 73 cX11_chain_r3 := dw_Sn (w := cX11_chain_w2) (r := cX11_chain_r3) cX11_chain_s2 (by decide +kernel)
theorem cX11_chain_k2 : dw_ok cX11_chain (ByteArray.mk cX11_chain_w2.toArray) 48 := dw_Sw (r := cX11_chain_r3) cX11_chain_s2
theorem cX11_chain_s4 : dw_S cX11_chain 97 cX11_chain_r4 := dw_Sn (w := cX11_chain_w3) (r := cX11_chain_r4) cX11_chain_s3 (by decide +kernel)
theorem cX11_chain_k3 : dw_ok cX11_chain (ByteArray.mk cX11_chain_w3.toArray) 73 := dw_Sw (r := cX11_chain_r4) cX11_chain_s3
theorem cX11_chain_k4 : dw_ok cX11_chain (ByteArray.mk cX11_chain_w4.toArray) 97 := dw_Sw (r := []) cX11_chain_s4
def cX11_change_w1 : List UInt8 := [0x3e, 0x2a, 0xb4, 0x00, 0x1b, 0x1c, 0xb6, 0x00, 0xf8, 0x2a, 0x1d, 0xb6, 0x00, 0x91, 0xac]
def cX11_change_r1 : List UInt8 := cX11_change_w1 ++ []
def cX11_change_w0 : List UInt8 := [0x2a, 0x1b, 0xb6, 0x00, 0xbd, 0x2a, 0xb4, 0x00, 0x1b, 0x2a, 0xb4, 0x00, 0x0e, 0x1b, 0xb6, 0x00, 0xc2, 0x2a, 0x1c, 0xb6, 0x00, 0xfe, 0x2a, 0xb6, 0x00, 0x85]
def cX11_change_r0 : List UInt8 := cX11_change_w0 ++ cX11_change_r1
theorem cX11_change_s0 : dw_S cX11_change 0 cX11_change_r0 := dw_S0 (by decide +kernel)
theorem cX11_change_s1 : dw_S cX11_change 26 cX11_change_r1 := dw_Sn (w := cX11_change_w0) (r := cX11_change_r1) cX11_change_s0 (by decide +kernel)
theorem cX11_change_k0 : dw_ok cX11_change (ByteArray.mk cX11_change_w0.toArray) 0 := dw_Sw (r := cX11_change_r1) cX11_change_s0
theorem cX11_change_k1 : dw_ok cX11_change (ByteArray.mk cX11_change_w1.toArray) 26 := dw_Sw (r := []) cX11_change_s1
def cX11_closure_w2 : List UInt8 := [0x2a, 0xb4, 0x00, 0x5b, 0x1b, 0x2e, 0xb6, 0x01, 0x80, 0x2a, 0x1c, 0xb6, 0x00, 0x91, 0xac]
def cX11_closure_r2 : List UInt8 := cX11_closure_w2 ++ []
def cX11_closure_w1 : List UInt8 := [0xbf, 0x2a, 0xb6, 0x00, 0x85, 0x3d, 0x2a, 0xb4, 0x00, 0x1b, 0x2a, 0xb4, 0x00, 0x53, 0x1b, 0x10, 0x10, 0x68, 0x2a, 0xb4, 0x00, 0x57, 0x1b, 0x2e]
def cX11_closure_r1 : List UInt8 := cX11_closure_w1 ++ cX11_closure_r2
def cX11_closure_w0 : List UInt8 := [0x2a, 0x1b, 0xb6, 0x01, 0x7b, 0x2a, 0xb4, 0x00, 0x57, 0x1b, 0x2e, 0x10, 0x0c, 0xa4, 0x00, 0x0e, 0xbb, 0x01, 0x07, 0x59, 0x13, 0x01, 0x7e, 0xb7, 0x01, 0x0b]
def cX11_closure_r0 : List UInt8 := cX11_closure_w0 ++ cX11_closure_r1
theorem cX11_closure_s0 : dw_S cX11_closure 0 cX11_closure_r0 := dw_S0 (by decide +kernel)
theorem cX11_closure_s1 : dw_S cX11_closure 26 cX11_closure_r1 := dw_Sn (w := cX11_closure_w0) (r := cX11_closure_r1) cX11_closure_s0 (by decide +kernel)
theorem cX11_closure_k0 : dw_ok cX11_closure (ByteArray.mk cX11_closure_w0.toArray) 0 := dw_Sw (r := cX11_closure_r1) cX11_closure_s0
theorem cX11_closure_s2 : dw_S cX11_closure 50 cX11_closure_r2 := dw_Sn (w := cX11_closure_w1) (r := cX11_closure_r2) cX11_closure_s1 (by decide +kernel)
theorem cX11_closure_k1 : dw_ok cX11_closure (ByteArray.mk cX11_closure_w1.toArray) 26 := dw_Sw (r := cX11_closure_r2) cX11_closure_s1
theorem cX11_closure_k2 : dw_ok cX11_closure (ByteArray.mk cX11_closure_w2.toArray) 50 := dw_Sw (r := []) cX11_closure_s2
def cX11_colours_w2 : List UInt8 := [0x2a, 0xb4, 0x00, 0x48, 0x1c, 0xb6, 0x01, 0x60, 0xad]
def cX11_colours_r2 : List UInt8 := cX11_colours_w2 ++ []
def cX11_colours_w1 : List UInt8 := [0xbf, 0x2a, 0xb4, 0x00, 0x1b, 0x2a, 0xb4, 0x00, 0x0e, 0x1b, 0xb6, 0x00, 0xc2, 0x2a, 0xb4, 0x00, 0x48, 0x2a, 0xb4, 0x00, 0x1b, 0xb6, 0x01, 0x58]
def cX11_colours_r1 : List UInt8 := cX11_colours_w1 ++ cX11_colours_r2
def cX11_colours_w0 : List UInt8 := [0x2a, 0x1b, 0xb6, 0x00, 0xbd, 0x1c, 0x04, 0xa1, 0x00, 0x09, 0x1c, 0x10, 0x64, 0xa4, 0x00, 0x0e, 0xbb, 0x00, 0x80, 0x59, 0x13, 0x01, 0x5e, 0xb7, 0x00, 0x84]
def cX11_colours_r0 : List UInt8 := cX11_colours_w0 ++ cX11_colours_r1
theorem cX11_colours_s0 : dw_S cX11_colours 0 cX11_colours_r0 := dw_S0 (by decide +kernel)
theorem cX11_colours_s1 : dw_S cX11_colours 26 cX11_colours_r1 := dw_Sn (w := cX11_colours_w0) (r := cX11_colours_r1) cX11_colours_s0 (by decide +kernel)
theorem cX11_colours_k0 : dw_ok cX11_colours (ByteArray.mk cX11_colours_w0.toArray) 0 := dw_Sw (r := cX11_colours_r1) cX11_colours_s0
theorem cX11_colours_s2 : dw_S cX11_colours 50 cX11_colours_r2 := dw_Sn (w := cX11_colours_w1) (r := cX11_colours_r2) cX11_colours_s1 (by decide +kernel)
theorem cX11_colours_k1 : dw_ok cX11_colours (ByteArray.mk cX11_colours_w1.toArray) 26 := dw_Sw (r := cX11_colours_r2) cX11_colours_s1
theorem cX11_colours_k2 : dw_ok cX11_colours (ByteArray.mk cX11_colours_w2.toArray) 50 := dw_Sw (r := []) cX11_colours_s2
def cX11_conjugate_w4 : List UInt8 := [0xac, 0x2a, 0xb4, 0x00, 0x6b, 0x2a, 0xb4, 0x00, 0x6f, 0xb6, 0x01, 0xad, 0x99, 0x00, 0x07, 0x04, 0xa7, 0x00, 0x04, 0x03, 0xac]
def cX11_conjugate_r4 : List UInt8 := cX11_conjugate_w4 ++ []
def cX11_conjugate_w3 : List UInt8 := [0x2a, 0xb4, 0x00, 0x61, 0xb6, 0x01, 0xaa, 0x36, 0x04, 0x1d, 0x10, 0xfe, 0x9f, 0x00, 0x0a, 0x15, 0x04, 0x10, 0xfe, 0xa0, 0x00, 0x06, 0x10, 0xfe]
def cX11_conjugate_r3 : List UInt8 := cX11_conjugate_w3 ++ cX11_conjugate_r4
def cX11_conjugate_w2 : List UInt8 := [0x2a, 0xb4, 0x00, 0x6b, 0x2a, 0xb4, 0x00, 0x61, 0xb6, 0x01, 0xaa, 0x3e, 0x2a, 0x2a, 0xb4, 0x00, 0x61, 0x1c, 0xb6, 0x01, 0x96, 0x2a, 0xb4, 0x00, 0x6f]
def cX11_conjugate_r2 : List UInt8 := cX11_conjugate_w2 ++ cX11_conjugate_r3
def cX11_conjugate_w1 : List UInt8 := [0xbb, 0x00, 0x80, 0x59, 0x13, 0x01, 0x84, 0xb7, 0x00, 0x84, 0xbf, 0x2a, 0x1b, 0xb6, 0x01, 0xa7, 0x2a, 0x2a, 0xb4, 0x00, 0x61, 0x1b, 0xb6, 0x01, 0x96]
def cX11_conjugate_r1 : List UInt8 := cX11_conjugate_w1 ++ cX11_conjugate_r2
def cX11_conjugate_w0 : List UInt8 := [0x2a, 0x1b, 0xb6, 0x01, 0x7b, 0x2a, 0x1c, 0xb6, 0x01, 0x7b, 0x2a, 0xb4, 0x00, 0x5b, 0x1b, 0x2e, 0x2a, 0xb4, 0x00, 0x5b, 0x1c, 0x2e, 0x9f, 0x00, 0x0e]
def cX11_conjugate_r0 : List UInt8 := cX11_conjugate_w0 ++ cX11_conjugate_r1
theorem cX11_conjugate_s0 : dw_S cX11_conjugate 0 cX11_conjugate_r0 := dw_S0 (by decide +kernel)
theorem cX11_conjugate_s1 : dw_S cX11_conjugate 25 cX11_conjugate_r1 := dw_Sn (w := cX11_conjugate_w0) (r := cX11_conjugate_r1) cX11_conjugate_s0 (by decide +kernel)
theorem cX11_conjugate_k0 : dw_ok cX11_conjugate (ByteArray.mk cX11_conjugate_w0.toArray) 0 := dw_Sw (r := cX11_conjugate_r1) cX11_conjugate_s0
theorem cX11_conjugate_s2 : dw_S cX11_conjugate 50 cX11_conjugate_r2 := dw_Sn (w := cX11_conjugate_w1) (r := cX11_conjugate_r2) cX11_conjugate_s1 (by decide +kernel)
theorem cX11_conjugate_k1 : dw_ok cX11_conjugate (ByteArray.mk cX11_conjugate_w1.toArray) 25 := dw_Sw (r := cX11_conjugate_r2) cX11_conjugate_s1
theorem cX11_conjugate_s3 : dw_S cX11_conjugate 75 cX11_conjugate_r3 := dw_Sn (w := cX11_conjugate_w2) (r := cX11_conjugate_r3) cX11_conjugate_s2 (by decide +kernel)
theorem cX11_conjugate_k2 : dw_ok cX11_conjugate (ByteArray.mk cX11_conjugate_w2.toArray) 50 := dw_Sw (r := cX11_conjugate_r3) cX11_conjugate_s2
theorem cX11_conjugate_s4 : dw_S cX11_conjugate 99 cX11_conjugate_r4 := dw_Sn (w := cX11_conjugate_w3) (r := cX11_conjugate_r4) cX11_conjugate_s3 (by decide +kernel)
theorem cX11_conjugate_k3 : dw_ok cX11_conjugate (ByteArray.mk cX11_conjugate_w3.toArray) 75 := dw_Sw (r := cX11_conjugate_r4) cX11_conjugate_s3
theorem cX11_conjugate_k4 : dw_ok cX11_conjugate (ByteArray.mk cX11_conjugate_w4.toArray) 99 := dw_Sw (r := []) cX11_conjugate_s4
def cX11_copyOut_w1 : List UInt8 := [0xb6, 0x00, 0x85, 0x3e, 0x2a, 0xb4, 0x00, 0x0e, 0x1d, 0x2b, 0x2b, 0xb4, 0x01, 0x28, 0x1c, 0x2e, 0xb6, 0x00, 0xb9, 0x1d, 0xac]
def cX11_copyOut_r1 : List UInt8 := cX11_copyOut_w1 ++ []
def cX11_copyOut_w0 : List UInt8 := [0x1c, 0x9b, 0x00, 0x0b, 0x1c, 0x2b, 0xb4, 0x01, 0x1b, 0xa1, 0x00, 0x0e, 0xbb, 0x00, 0xa4, 0x59, 0x13, 0x01, 0x26, 0xb7, 0x00, 0xa8, 0xbf, 0x2a]
def cX11_copyOut_r0 : List UInt8 := cX11_copyOut_w0 ++ cX11_copyOut_r1
theorem cX11_copyOut_s0 : dw_S cX11_copyOut 0 cX11_copyOut_r0 := dw_S0 (by decide +kernel)
theorem cX11_copyOut_s1 : dw_S cX11_copyOut 24 cX11_copyOut_r1 := dw_Sn (w := cX11_copyOut_w0) (r := cX11_copyOut_r1) cX11_copyOut_s0 (by decide +kernel)
theorem cX11_copyOut_k0 : dw_ok cX11_copyOut (ByteArray.mk cX11_copyOut_w0.toArray) 0 := dw_Sw (r := cX11_copyOut_r1) cX11_copyOut_s0
theorem cX11_copyOut_k1 : dw_ok cX11_copyOut (ByteArray.mk cX11_copyOut_w1.toArray) 24 := dw_Sw (r := []) cX11_copyOut_s1
def cX11_diagram_w2 : List UInt8 := [0x1c, 0x02, 0xa0, 0x00, 0x0b, 0x2a, 0x1b, 0xb6, 0x00, 0x91, 0xa7, 0x00, 0x06, 0x02, 0x1c, 0x64, 0xac]
def cX11_diagram_r2 : List UInt8 := cX11_diagram_w2 ++ []
def cX11_diagram_w1 : List UInt8 := [0x2a, 0xb4, 0x00, 0x1b, 0xb6, 0x00, 0x8d, 0x9a, 0x00, 0x0b, 0x2a, 0xb4, 0x00, 0x33, 0xb4, 0x00, 0x72, 0x3d, 0x2a, 0xb4, 0x00, 0x33, 0x03, 0xb5, 0x00, 0x72]
def cX11_diagram_r1 : List UInt8 := cX11_diagram_w1 ++ cX11_diagram_r2
def cX11_diagram_w0 : List UInt8 := [0x2a, 0xb6, 0x00, 0x85, 0x3c, 0x2a, 0xb4, 0x00, 0x33, 0x2a, 0xb4, 0x00, 0x1b, 0xb6, 0x00, 0x89, 0x3d, 0x1c, 0x02, 0xa0, 0x00, 0x19, 0x2a, 0xb4, 0x00, 0x25]
def cX11_diagram_r0 : List UInt8 := cX11_diagram_w0 ++ cX11_diagram_r1
theorem cX11_diagram_s0 : dw_S cX11_diagram 0 cX11_diagram_r0 := dw_S0 (by decide +kernel)
theorem cX11_diagram_s1 : dw_S cX11_diagram 26 cX11_diagram_r1 := dw_Sn (w := cX11_diagram_w0) (r := cX11_diagram_r1) cX11_diagram_s0 (by decide +kernel)
theorem cX11_diagram_k0 : dw_ok cX11_diagram (ByteArray.mk cX11_diagram_w0.toArray) 0 := dw_Sw (r := cX11_diagram_r1) cX11_diagram_s0
theorem cX11_diagram_s2 : dw_S cX11_diagram 52 cX11_diagram_r2 := dw_Sn (w := cX11_diagram_w1) (r := cX11_diagram_r2) cX11_diagram_s1 (by decide +kernel)
theorem cX11_diagram_k1 : dw_ok cX11_diagram (ByteArray.mk cX11_diagram_w1.toArray) 26 := dw_Sw (r := cX11_diagram_r2) cX11_diagram_s1
theorem cX11_diagram_k2 : dw_ok cX11_diagram (ByteArray.mk cX11_diagram_w2.toArray) 52 := dw_Sw (r := []) cX11_diagram_s2
def cX11_equal_w2 : List UInt8 := [0x2a, 0xb4, 0x00, 0x61, 0x2a, 0xb4, 0x00, 0x65, 0xb6, 0x01, 0xa3, 0xac]
def cX11_equal_r2 : List UInt8 := cX11_equal_w2 ++ []
def cX11_equal_w1 : List UInt8 := [0x1c, 0x2e, 0x9f, 0x00, 0x05, 0x03, 0xac, 0x2a, 0x2a, 0xb4, 0x00, 0x61, 0x1b, 0xb6, 0x01, 0x96, 0x2a, 0x2a, 0xb4, 0x00, 0x65, 0x1c, 0xb6, 0x01, 0x96]
def cX11_equal_r1 : List UInt8 := cX11_equal_w1 ++ cX11_equal_r2
def cX11_equal_w0 : List UInt8 := [0x2a, 0x1b, 0xb6, 0x00, 0xa9, 0x99, 0x00, 0x1a, 0x2a, 0x1c, 0xb6, 0x00, 0xa9, 0x99, 0x00, 0x12, 0x2a, 0xb4, 0x00, 0x5b, 0x1b, 0x2e, 0x2a, 0xb4, 0x00, 0x5b]
def cX11_equal_r0 : List UInt8 := cX11_equal_w0 ++ cX11_equal_r1
theorem cX11_equal_s0 : dw_S cX11_equal 0 cX11_equal_r0 := dw_S0 (by decide +kernel)
theorem cX11_equal_s1 : dw_S cX11_equal 26 cX11_equal_r1 := dw_Sn (w := cX11_equal_w0) (r := cX11_equal_r1) cX11_equal_s0 (by decide +kernel)
theorem cX11_equal_k0 : dw_ok cX11_equal (ByteArray.mk cX11_equal_w0.toArray) 0 := dw_Sw (r := cX11_equal_r1) cX11_equal_s0
theorem cX11_equal_s2 : dw_S cX11_equal 51 cX11_equal_r2 := dw_Sn (w := cX11_equal_w1) (r := cX11_equal_r2) cX11_equal_s1 (by decide +kernel)
theorem cX11_equal_k1 : dw_ok cX11_equal (ByteArray.mk cX11_equal_w1.toArray) 26 := dw_Sw (r := cX11_equal_r2) cX11_equal_s1
theorem cX11_equal_k2 : dw_ok cX11_equal (ByteArray.mk cX11_equal_w2.toArray) 51 := dw_Sw (r := []) cX11_equal_s2
def cX11_factor_w2 : List UInt8 := [0xb4, 0x01, 0x9d, 0x1c, 0x04, 0x64, 0x2e, 0x1d, 0xb8, 0x01, 0xa0, 0xac]
def cX11_factor_r2 : List UInt8 := cX11_factor_w2 ++ []
def cX11_factor_w1 : List UInt8 := [0xb4, 0x01, 0x9c, 0xa3, 0x00, 0x11, 0x1d, 0x9b, 0x00, 0x0d, 0x1d, 0x2a, 0xb4, 0x00, 0x5b, 0x1b, 0x2e, 0xa1, 0x00, 0x05, 0x02, 0xac, 0x2a, 0xb4, 0x00, 0x61]
def cX11_factor_r1 : List UInt8 := cX11_factor_w1 ++ cX11_factor_r2
def cX11_factor_w0 : List UInt8 := [0x2a, 0x1b, 0xb6, 0x01, 0x7b, 0x2a, 0x2a, 0xb4, 0x00, 0x61, 0x1b, 0xb6, 0x01, 0x96, 0x1c, 0x04, 0xa1, 0x00, 0x1c, 0x1c, 0x2a, 0xb4, 0x00, 0x61]
def cX11_factor_r0 : List UInt8 := cX11_factor_w0 ++ cX11_factor_r1
theorem cX11_factor_s0 : dw_S cX11_factor 0 cX11_factor_r0 := dw_S0 (by decide +kernel)
theorem cX11_factor_s1 : dw_S cX11_factor 24 cX11_factor_r1 := dw_Sn (w := cX11_factor_w0) (r := cX11_factor_r1) cX11_factor_s0 (by decide +kernel)
theorem cX11_factor_k0 : dw_ok cX11_factor (ByteArray.mk cX11_factor_w0.toArray) 0 := dw_Sw (r := cX11_factor_r1) cX11_factor_s0
theorem cX11_factor_s2 : dw_S cX11_factor 50 cX11_factor_r2 := dw_Sn (w := cX11_factor_w1) (r := cX11_factor_r2) cX11_factor_s1 (by decide +kernel)
theorem cX11_factor_k1 : dw_ok cX11_factor (ByteArray.mk cX11_factor_w1.toArray) 24 := dw_Sw (r := cX11_factor_r2) cX11_factor_s1
theorem cX11_factor_k2 : dw_ok cX11_factor (ByteArray.mk cX11_factor_w2.toArray) 50 := dw_Sw (r := []) cX11_factor_s2
def cX11_feed_w2 : List UInt8 := [0x2a, 0xb4, 0x00, 0x33, 0x15, 0x04, 0xb6, 0x00, 0x7d, 0x2a, 0xb4, 0x00, 0x33, 0x15, 0x05, 0xb6, 0x00, 0x7d, 0x2a, 0xb4, 0x00, 0x33, 0xb4, 0x00, 0x72, 0xac]
def cX11_feed_r2 : List UInt8 := cX11_feed_w2 ++ []
def cX11_feed_w1 : List UInt8 := [0xbf, 0x2a, 0xb4, 0x00, 0x33, 0x1b, 0xb6, 0x00, 0x7d, 0x2a, 0xb4, 0x00, 0x33, 0x1c, 0xb6, 0x00, 0x7d, 0x2a, 0xb4, 0x00, 0x33, 0x1d, 0xb6, 0x00, 0x7d]
def cX11_feed_r1 : List UInt8 := cX11_feed_w1 ++ cX11_feed_r2
def cX11_feed_w0 : List UInt8 := [0x2a, 0xb4, 0x00, 0x33, 0xb4, 0x00, 0x72, 0x10, 0x14, 0x60, 0x11, 0x01, 0x90, 0xa4, 0x00, 0x0d, 0xbb, 0x00, 0x76, 0x59, 0x12, 0x78, 0xb7, 0x00, 0x7a]
def cX11_feed_r0 : List UInt8 := cX11_feed_w0 ++ cX11_feed_r1
theorem cX11_feed_s0 : dw_S cX11_feed 0 cX11_feed_r0 := dw_S0 (by decide +kernel)
theorem cX11_feed_s1 : dw_S cX11_feed 25 cX11_feed_r1 := dw_Sn (w := cX11_feed_w0) (r := cX11_feed_r1) cX11_feed_s0 (by decide +kernel)
theorem cX11_feed_k0 : dw_ok cX11_feed (ByteArray.mk cX11_feed_w0.toArray) 0 := dw_Sw (r := cX11_feed_r1) cX11_feed_s0
theorem cX11_feed_s2 : dw_S cX11_feed 50 cX11_feed_r2 := dw_Sn (w := cX11_feed_w1) (r := cX11_feed_r2) cX11_feed_s1 (by decide +kernel)
theorem cX11_feed_k1 : dw_ok cX11_feed (ByteArray.mk cX11_feed_w1.toArray) 25 := dw_Sw (r := cX11_feed_r2) cX11_feed_s1
theorem cX11_feed_k2 : dw_ok cX11_feed (ByteArray.mk cX11_feed_w2.toArray) 50 := dw_Sw (r := []) cX11_feed_s2
def cX11_figure_w4 : List UInt8 := [0xb4, 0x00, 0x1b, 0xb6, 0x00, 0xd5, 0xac, 0x2a, 0xb4, 0x00, 0x1b, 0xb6, 0x00, 0xd8, 0x99, 0x00, 0x07, 0x04, 0xa7, 0x00, 0x04, 0x03, 0xac]
def cX11_figure_r4 : List UInt8 := cX11_figure_w4 ++ []
def cX11_figure_w3 : List UInt8 := [0x2a, 0xb4, 0x00, 0x1b, 0xb6, 0x00, 0xcf, 0x2a, 0xb4, 0x00, 0x1b, 0xb4, 0x00, 0xd2, 0x2a, 0xb4, 0x00, 0x1b, 0xb4, 0x00, 0xcc, 0x60, 0xac, 0x2a]
def cX11_figure_r3 : List UInt8 := cX11_figure_w3 ++ cX11_figure_r4
def cX11_figure_w2 : List UInt8 := [0x2a, 0xb4, 0x00, 0x1b, 0xb4, 0x00, 0xc6, 0xac, 0x2a, 0xb4, 0x00, 0x1b, 0xb4, 0x00, 0xc9, 0xac, 0x2a, 0xb4, 0x00, 0x1b, 0xb4, 0x00, 0xcc, 0xac]
def cX11_figure_r2 : List UInt8 := cX11_figure_w2 ++ cX11_figure_r3
def cX11_figure_w1 : List UInt8 := [0x2a, 0xb4, 0x00, 0x1b, 0x2a, 0xb4, 0x00, 0x0e, 0x1b, 0xb6, 0x00, 0xc2, 0x1c, 0xaa, 0x00, 0x00, 0x00, 0x00, 0x00, 0x5a, 0x00, 0x00, 0x00, 0x00, 0x00, 0x00, 0x00, 0x04, 0x00, 0x00, 0x00, 0x23, 0x00, 0x00, 0x00, 0x2b, 0x00, 0x00, 0x00, 0x33, 0x00, 0x00, 0x00, 0x3b, 0x00, 0x00, 0x00, 0x52]
def cX11_figure_r1 : List UInt8 := cX11_figure_w1 ++ cX11_figure_r2
def cX11_figure_w0 : List UInt8 := [0x2a, 0x1b, 0xb6, 0x00, 0xbd, 0x1c, 0x9b, 0x00, 0x08, 0x1c, 0x08, 0xa4, 0x00, 0x0d, 0xbb, 0x00, 0x80, 0x59, 0x12, 0xc0, 0xb7, 0x00, 0x84, 0xbf]
def cX11_figure_r0 : List UInt8 := cX11_figure_w0 ++ cX11_figure_r1
theorem cX11_figure_s0 : dw_S cX11_figure 0 cX11_figure_r0 := dw_S0 (by decide +kernel)
theorem cX11_figure_s1 : dw_S cX11_figure 24 cX11_figure_r1 := dw_Sn (w := cX11_figure_w0) (r := cX11_figure_r1) cX11_figure_s0 (by decide +kernel)
theorem cX11_figure_k0 : dw_ok cX11_figure (ByteArray.mk cX11_figure_w0.toArray) 0 := dw_Sw (r := cX11_figure_r1) cX11_figure_s0
theorem cX11_figure_s2 : dw_S cX11_figure 72 cX11_figure_r2 := dw_Sn (w := cX11_figure_w1) (r := cX11_figure_r2) cX11_figure_s1 (by decide +kernel)
theorem cX11_figure_k1 : dw_ok cX11_figure (ByteArray.mk cX11_figure_w1.toArray) 24 := dw_Sw (r := cX11_figure_r2) cX11_figure_s1
theorem cX11_figure_s3 : dw_S cX11_figure 96 cX11_figure_r3 := dw_Sn (w := cX11_figure_w2) (r := cX11_figure_r3) cX11_figure_s2 (by decide +kernel)
theorem cX11_figure_k2 : dw_ok cX11_figure (ByteArray.mk cX11_figure_w2.toArray) 72 := dw_Sw (r := cX11_figure_r3) cX11_figure_s2
theorem cX11_figure_s4 : dw_S cX11_figure 120 cX11_figure_r4 := dw_Sn (w := cX11_figure_w3) (r := cX11_figure_r4) cX11_figure_s3 (by decide +kernel)
theorem cX11_figure_k3 : dw_ok cX11_figure (ByteArray.mk cX11_figure_w3.toArray) 96 := dw_Sw (r := cX11_figure_r4) cX11_figure_s3
theorem cX11_figure_k4 : dw_ok cX11_figure (ByteArray.mk cX11_figure_w4.toArray) 120 := dw_Sw (r := []) cX11_figure_s4
def cX11_init_w8 : List UInt8 := [0xb5, 0x00, 0x6b, 0x2a, 0xbb, 0x00, 0x68, 0x59, 0xb7, 0x00, 0x6a, 0xb5, 0x00, 0x6f, 0xb1]
def cX11_init_r8 : List UInt8 := cX11_init_w8 ++ []
def cX11_init_w7 : List UInt8 := [0xb7, 0x00, 0x60, 0xb5, 0x00, 0x61, 0x2a, 0xbb, 0x00, 0x5e, 0x59, 0xb7, 0x00, 0x60, 0xb5, 0x00, 0x65, 0x2a, 0xbb, 0x00, 0x68, 0x59, 0xb7, 0x00, 0x6a]
def cX11_init_r7 : List UInt8 := cX11_init_w7 ++ cX11_init_r8
def cX11_init_w6 : List UInt8 := [0xb5, 0x00, 0x53, 0x2a, 0x10, 0x14, 0xbc, 0x0a, 0xb5, 0x00, 0x57, 0x2a, 0x10, 0x14, 0xbc, 0x0a, 0xb5, 0x00, 0x5b, 0x2a, 0xbb, 0x00, 0x5e, 0x59]
def cX11_init_r6 : List UInt8 := cX11_init_w6 ++ cX11_init_r7
def cX11_init_w5 : List UInt8 := [0x59, 0xb7, 0x00, 0x47, 0xb5, 0x00, 0x48, 0x2a, 0xbb, 0x00, 0x4c, 0x59, 0xb7, 0x00, 0x4e, 0xb5, 0x00, 0x4f, 0x2a, 0x11, 0x01, 0x40, 0xbc, 0x08]
def cX11_init_r5 : List UInt8 := cX11_init_w5 ++ cX11_init_r6
def cX11_init_w4 : List UInt8 := [0x2a, 0xbb, 0x00, 0x37, 0x59, 0xb7, 0x00, 0x39, 0xb5, 0x00, 0x3a, 0x2a, 0xbb, 0x00, 0x3e, 0x59, 0xb7, 0x00, 0x40, 0xb5, 0x00, 0x41, 0x2a, 0xbb, 0x00, 0x45]
def cX11_init_r4 : List UInt8 := cX11_init_w4 ++ cX11_init_r5
def cX11_init_w3 : List UInt8 := [0xb5, 0x00, 0x25, 0x2a, 0xbb, 0x00, 0x29, 0x59, 0xb7, 0x00, 0x2b, 0xb5, 0x00, 0x2c, 0x2a, 0xbb, 0x00, 0x30, 0x59, 0xb7, 0x00, 0x32, 0xb5, 0x00, 0x33]
def cX11_init_r3 : List UInt8 := cX11_init_w3 ++ cX11_init_r4
def cX11_init_w2 : List UInt8 := [0xb7, 0x00, 0x1a, 0xb5, 0x00, 0x1b, 0x2a, 0xbb, 0x00, 0x18, 0x59, 0xb7, 0x00, 0x1a, 0xb5, 0x00, 0x1f, 0x2a, 0xbb, 0x00, 0x22, 0x59, 0xb7, 0x00, 0x24]
def cX11_init_r2 : List UInt8 := cX11_init_w2 ++ cX11_init_r3
def cX11_init_w1 : List UInt8 := [0xb7, 0x00, 0x0b, 0xb5, 0x00, 0x12, 0x2a, 0xbb, 0x00, 0x07, 0x59, 0x10, 0x0c, 0xb7, 0x00, 0x0b, 0xb5, 0x00, 0x15, 0x2a, 0xbb, 0x00, 0x18, 0x59]
def cX11_init_r1 : List UInt8 := cX11_init_w1 ++ cX11_init_r2
def cX11_init_w0 : List UInt8 := [0x2a, 0xb7, 0x00, 0x01, 0x2a, 0xbb, 0x00, 0x07, 0x59, 0x10, 0x28, 0xb7, 0x00, 0x0b, 0xb5, 0x00, 0x0e, 0x2a, 0xbb, 0x00, 0x07, 0x59, 0x11, 0x07, 0x38]
def cX11_init_r0 : List UInt8 := cX11_init_w0 ++ cX11_init_r1
theorem cX11_init_s0 : dw_S cX11_init 0 cX11_init_r0 := dw_S0 (by decide +kernel)
theorem cX11_init_s1 : dw_S cX11_init 25 cX11_init_r1 := dw_Sn (w := cX11_init_w0) (r := cX11_init_r1) cX11_init_s0 (by decide +kernel)
theorem cX11_init_k0 : dw_ok cX11_init (ByteArray.mk cX11_init_w0.toArray) 0 := dw_Sw (r := cX11_init_r1) cX11_init_s0
theorem cX11_init_s2 : dw_S cX11_init 49 cX11_init_r2 := dw_Sn (w := cX11_init_w1) (r := cX11_init_r2) cX11_init_s1 (by decide +kernel)
theorem cX11_init_k1 : dw_ok cX11_init (ByteArray.mk cX11_init_w1.toArray) 25 := dw_Sw (r := cX11_init_r2) cX11_init_s1
theorem cX11_init_s3 : dw_S cX11_init 74 cX11_init_r3 := dw_Sn (w := cX11_init_w2) (r := cX11_init_r3) cX11_init_s2 (by decide +kernel)
theorem cX11_init_k2 : dw_ok cX11_init (ByteArray.mk cX11_init_w2.toArray) 49 := dw_Sw (r := cX11_init_r3) cX11_init_s2
theorem cX11_init_s4 : dw_S cX11_init 99 cX11_init_r4 := dw_Sn (w := cX11_init_w3) (r := cX11_init_r4) cX11_init_s3 (by decide +kernel)
theorem cX11_init_k3 : dw_ok cX11_init (ByteArray.mk cX11_init_w3.toArray) 74 := dw_Sw (r := cX11_init_r4) cX11_init_s3
theorem cX11_init_s5 : dw_S cX11_init 125 cX11_init_r5 := dw_Sn (w := cX11_init_w4) (r := cX11_init_r5) cX11_init_s4 (by decide +kernel)
theorem cX11_init_k4 : dw_ok cX11_init (ByteArray.mk cX11_init_w4.toArray) 99 := dw_Sw (r := cX11_init_r5) cX11_init_s4
theorem cX11_init_s6 : dw_S cX11_init 149 cX11_init_r6 := dw_Sn (w := cX11_init_w5) (r := cX11_init_r6) cX11_init_s5 (by decide +kernel)
theorem cX11_init_k5 : dw_ok cX11_init (ByteArray.mk cX11_init_w5.toArray) 125 := dw_Sw (r := cX11_init_r6) cX11_init_s5
theorem cX11_init_s7 : dw_S cX11_init 173 cX11_init_r7 := dw_Sn (w := cX11_init_w6) (r := cX11_init_r7) cX11_init_s6 (by decide +kernel)
theorem cX11_init_k6 : dw_ok cX11_init (ByteArray.mk cX11_init_w6.toArray) 149 := dw_Sw (r := cX11_init_r7) cX11_init_s6
theorem cX11_init_s8 : dw_S cX11_init 198 cX11_init_r8 := dw_Sn (w := cX11_init_w7) (r := cX11_init_r8) cX11_init_s7 (by decide +kernel)
theorem cX11_init_k7 : dw_ok cX11_init (ByteArray.mk cX11_init_w7.toArray) 173 := dw_Sw (r := cX11_init_r8) cX11_init_s7
theorem cX11_init_k8 : dw_ok cX11_init (ByteArray.mk cX11_init_w8.toArray) 198 := dw_Sw (r := []) cX11_init_s8
def cX11_inverse_w3 : List UInt8 := [0xb4, 0x00, 0x5b, 0x1b, 0x2e, 0x4f, 0x1c, 0xac]
def cX11_inverse_r3 : List UInt8 := cX11_inverse_w3 ++ []
def cX11_inverse_w2 : List UInt8 := [0x64, 0x33, 0x74, 0x91, 0x54, 0x84, 0x04, 0x01, 0xa7, 0xff, 0xd9, 0x2a, 0xb4, 0x00, 0x57, 0x1c, 0x1d, 0x4f, 0x2a, 0xb4, 0x00, 0x5b, 0x1c, 0x2a]
def cX11_inverse_r2 : List UInt8 := cX11_inverse_w2 ++ cX11_inverse_r3
def cX11_inverse_w1 : List UInt8 := [0x2a, 0xb4, 0x00, 0x53, 0x1c, 0x10, 0x10, 0x68, 0x15, 0x04, 0x60, 0x2a, 0xb4, 0x00, 0x53, 0x1b, 0x10, 0x10, 0x68, 0x1d, 0x60, 0x04, 0x64, 0x15, 0x04]
def cX11_inverse_r1 : List UInt8 := cX11_inverse_w1 ++ cX11_inverse_r2
def cX11_inverse_w0 : List UInt8 := [0x2a, 0x1b, 0xb6, 0x01, 0x7b, 0x2a, 0xb6, 0x00, 0x97, 0x3d, 0x2a, 0xb4, 0x00, 0x57, 0x1b, 0x2e, 0x3e, 0x03, 0x36, 0x04, 0x15, 0x04, 0x1d, 0xa2, 0x00, 0x27]
def cX11_inverse_r0 : List UInt8 := cX11_inverse_w0 ++ cX11_inverse_r1
theorem cX11_inverse_s0 : dw_S cX11_inverse 0 cX11_inverse_r0 := dw_S0 (by decide +kernel)
theorem cX11_inverse_s1 : dw_S cX11_inverse 26 cX11_inverse_r1 := dw_Sn (w := cX11_inverse_w0) (r := cX11_inverse_r1) cX11_inverse_s0 (by decide +kernel)
theorem cX11_inverse_k0 : dw_ok cX11_inverse (ByteArray.mk cX11_inverse_w0.toArray) 0 := dw_Sw (r := cX11_inverse_r1) cX11_inverse_s0
theorem cX11_inverse_s2 : dw_S cX11_inverse 51 cX11_inverse_r2 := dw_Sn (w := cX11_inverse_w1) (r := cX11_inverse_r2) cX11_inverse_s1 (by decide +kernel)
theorem cX11_inverse_k1 : dw_ok cX11_inverse (ByteArray.mk cX11_inverse_w1.toArray) 26 := dw_Sw (r := cX11_inverse_r2) cX11_inverse_s1
theorem cX11_inverse_s3 : dw_S cX11_inverse 75 cX11_inverse_r3 := dw_Sn (w := cX11_inverse_w2) (r := cX11_inverse_r3) cX11_inverse_s2 (by decide +kernel)
theorem cX11_inverse_k2 : dw_ok cX11_inverse (ByteArray.mk cX11_inverse_w2.toArray) 51 := dw_Sw (r := cX11_inverse_r3) cX11_inverse_s2
theorem cX11_inverse_k3 : dw_ok cX11_inverse (ByteArray.mk cX11_inverse_w3.toArray) 75 := dw_Sw (r := []) cX11_inverse_s3
def cX11_join_w5 : List UInt8 := [0x2a, 0xb4, 0x00, 0x1f, 0xb6, 0x01, 0x10, 0x2a, 0xb4, 0x00, 0x1b, 0x15, 0x06, 0x15, 0x07, 0xb6, 0x01, 0x13, 0x2a, 0x15, 0x05, 0xb6, 0x00, 0x91, 0xac]
def cX11_join_r5 : List UInt8 := cX11_join_w5 ++ []
def cX11_join_w4 : List UInt8 := [0xb4, 0x00, 0x1b, 0xb4, 0x00, 0xc6, 0x68, 0x2a, 0xb4, 0x00, 0x1f, 0xb4, 0x00, 0xe2, 0x15, 0x04, 0x2e, 0x60, 0x36, 0x07, 0x2a, 0xb4, 0x00, 0x1b]
def cX11_join_r4 : List UInt8 := cX11_join_w4 ++ cX11_join_r5
def cX11_join_w3 : List UInt8 := [0x1d, 0x04, 0xb6, 0x01, 0x0c, 0x2a, 0xb6, 0x00, 0x85, 0x36, 0x05, 0x2a, 0xb4, 0x00, 0x1b, 0xb4, 0x00, 0xe2, 0x1c, 0x2e, 0x36, 0x06, 0x05, 0x2a]
def cX11_join_r3 : List UInt8 := cX11_join_w3 ++ cX11_join_r4
def cX11_join_w2 : List UInt8 := [0xb4, 0x00, 0x0e, 0xb4, 0x00, 0xdc, 0x1d, 0x33, 0x68, 0xa1, 0x00, 0x0d, 0xbb, 0x00, 0xa4, 0x59, 0x12, 0xde, 0xb7, 0x00, 0xa8, 0xbf, 0x2a, 0x1b]
def cX11_join_r2 : List UInt8 := cX11_join_w2 ++ cX11_join_r3
def cX11_join_w1 : List UInt8 := [0xbb, 0x00, 0xa4, 0x59, 0x12, 0xde, 0xb7, 0x00, 0xa8, 0xbf, 0x2a, 0x1d, 0xb6, 0x00, 0xbd, 0x15, 0x04, 0x9b, 0x00, 0x13, 0x15, 0x04, 0x05, 0x2a]
def cX11_join_r1 : List UInt8 := cX11_join_w1 ++ cX11_join_r2
def cX11_join_w0 : List UInt8 := [0x2a, 0x1b, 0xb6, 0x00, 0xbd, 0x1c, 0x9b, 0x00, 0x12, 0x1c, 0x05, 0x2a, 0xb4, 0x00, 0x0e, 0xb4, 0x00, 0xdc, 0x1b, 0x33, 0x68, 0xa1, 0x00, 0x0d]
def cX11_join_r0 : List UInt8 := cX11_join_w0 ++ cX11_join_r1
theorem cX11_join_s0 : dw_S cX11_join 0 cX11_join_r0 := dw_S0 (by decide +kernel)
theorem cX11_join_s1 : dw_S cX11_join 24 cX11_join_r1 := dw_Sn (w := cX11_join_w0) (r := cX11_join_r1) cX11_join_s0 (by decide +kernel)
theorem cX11_join_k0 : dw_ok cX11_join (ByteArray.mk cX11_join_w0.toArray) 0 := dw_Sw (r := cX11_join_r1) cX11_join_s0
theorem cX11_join_s2 : dw_S cX11_join 48 cX11_join_r2 := dw_Sn (w := cX11_join_w1) (r := cX11_join_r2) cX11_join_s1 (by decide +kernel)
theorem cX11_join_k1 : dw_ok cX11_join (ByteArray.mk cX11_join_w1.toArray) 24 := dw_Sw (r := cX11_join_r2) cX11_join_s1
theorem cX11_join_s3 : dw_S cX11_join 72 cX11_join_r3 := dw_Sn (w := cX11_join_w2) (r := cX11_join_r3) cX11_join_s2 (by decide +kernel)
theorem cX11_join_k2 : dw_ok cX11_join (ByteArray.mk cX11_join_w2.toArray) 48 := dw_Sw (r := cX11_join_r3) cX11_join_s2
theorem cX11_join_s4 : dw_S cX11_join 96 cX11_join_r4 := dw_Sn (w := cX11_join_w3) (r := cX11_join_r4) cX11_join_s3 (by decide +kernel)
theorem cX11_join_k3 : dw_ok cX11_join (ByteArray.mk cX11_join_w3.toArray) 72 := dw_Sw (r := cX11_join_r4) cX11_join_s3
theorem cX11_join_s5 : dw_S cX11_join 120 cX11_join_r5 := dw_Sn (w := cX11_join_w4) (r := cX11_join_r5) cX11_join_s4 (by decide +kernel)
theorem cX11_join_k4 : dw_ok cX11_join (ByteArray.mk cX11_join_w4.toArray) 96 := dw_Sw (r := cX11_join_r5) cX11_join_s4
theorem cX11_join_k5 : dw_ok cX11_join (ByteArray.mk cX11_join_w5.toArray) 120 := dw_Sw (r := []) cX11_join_s5
def cX11_linking_w5 : List UInt8 := [0xb4, 0x00, 0xe8, 0x15, 0x05, 0x2e, 0x60, 0x36, 0x04, 0x84, 0x05, 0x01, 0xa7, 0xff, 0xac, 0x15, 0x04, 0x05, 0x6c, 0xac]
def cX11_linking_r5 : List UInt8 := cX11_linking_w5 ++ []
def cX11_linking_w4 : List UInt8 := [0x15, 0x07, 0x1d, 0x9f, 0x00, 0x0f, 0x15, 0x06, 0x1d, 0xa0, 0x00, 0x18, 0x15, 0x07, 0x1c, 0xa0, 0x00, 0x12, 0x15, 0x04, 0x2a, 0xb4, 0x00, 0x1b]
def cX11_linking_r4 : List UInt8 := cX11_linking_w4 ++ cX11_linking_r5
def cX11_linking_w3 : List UInt8 := [0x36, 0x06, 0x2a, 0xb4, 0x00, 0x1b, 0xb4, 0x00, 0xe5, 0x05, 0x15, 0x05, 0x68, 0x04, 0x60, 0x2e, 0x36, 0x07, 0x15, 0x06, 0x1c, 0xa0, 0x00, 0x09]
def cX11_linking_r3 : List UInt8 := cX11_linking_w3 ++ cX11_linking_r4
def cX11_linking_w2 : List UInt8 := [0x15, 0x05, 0x2a, 0xb4, 0x00, 0x1b, 0xb4, 0x00, 0xc6, 0xa2, 0x00, 0x4e, 0x2a, 0xb4, 0x00, 0x1b, 0xb4, 0x00, 0xe5, 0x05, 0x15, 0x05, 0x68, 0x2e]
def cX11_linking_r2 : List UInt8 := cX11_linking_w2 ++ cX11_linking_r3
def cX11_linking_w1 : List UInt8 := [0xb6, 0x00, 0xeb, 0x1c, 0x1d, 0xa0, 0x00, 0x0d, 0xbb, 0x00, 0x80, 0x59, 0x12, 0xee, 0xb7, 0x00, 0x84, 0xbf, 0x03, 0x36, 0x04, 0x03, 0x36, 0x05]
def cX11_linking_r1 : List UInt8 := cX11_linking_w1 ++ cX11_linking_r2
def cX11_linking_w0 : List UInt8 := [0x2a, 0x1b, 0xb6, 0x00, 0xbd, 0x2a, 0xb4, 0x00, 0x1b, 0x2a, 0xb4, 0x00, 0x0e, 0x1b, 0xb6, 0x00, 0xc2, 0x2a, 0x1c, 0xb6, 0x00, 0xeb, 0x2a, 0x1d]
def cX11_linking_r0 : List UInt8 := cX11_linking_w0 ++ cX11_linking_r1
theorem cX11_linking_s0 : dw_S cX11_linking 0 cX11_linking_r0 := dw_S0 (by decide +kernel)
theorem cX11_linking_s1 : dw_S cX11_linking 24 cX11_linking_r1 := dw_Sn (w := cX11_linking_w0) (r := cX11_linking_r1) cX11_linking_s0 (by decide +kernel)
theorem cX11_linking_k0 : dw_ok cX11_linking (ByteArray.mk cX11_linking_w0.toArray) 0 := dw_Sw (r := cX11_linking_r1) cX11_linking_s0
theorem cX11_linking_s2 : dw_S cX11_linking 48 cX11_linking_r2 := dw_Sn (w := cX11_linking_w1) (r := cX11_linking_r2) cX11_linking_s1 (by decide +kernel)
theorem cX11_linking_k1 : dw_ok cX11_linking (ByteArray.mk cX11_linking_w1.toArray) 24 := dw_Sw (r := cX11_linking_r2) cX11_linking_s1
theorem cX11_linking_s3 : dw_S cX11_linking 72 cX11_linking_r3 := dw_Sn (w := cX11_linking_w2) (r := cX11_linking_r3) cX11_linking_s2 (by decide +kernel)
theorem cX11_linking_k2 : dw_ok cX11_linking (ByteArray.mk cX11_linking_w2.toArray) 48 := dw_Sw (r := cX11_linking_r3) cX11_linking_s2
theorem cX11_linking_s4 : dw_S cX11_linking 96 cX11_linking_r4 := dw_Sn (w := cX11_linking_w3) (r := cX11_linking_r4) cX11_linking_s3 (by decide +kernel)
theorem cX11_linking_k3 : dw_ok cX11_linking (ByteArray.mk cX11_linking_w3.toArray) 72 := dw_Sw (r := cX11_linking_r4) cX11_linking_s3
theorem cX11_linking_s5 : dw_S cX11_linking 120 cX11_linking_r5 := dw_Sn (w := cX11_linking_w4) (r := cX11_linking_r5) cX11_linking_s4 (by decide +kernel)
theorem cX11_linking_k4 : dw_ok cX11_linking (ByteArray.mk cX11_linking_w4.toArray) 96 := dw_Sw (r := cX11_linking_r5) cX11_linking_s4
theorem cX11_linking_k5 : dw_ok cX11_linking (ByteArray.mk cX11_linking_w5.toArray) 120 := dw_Sw (r := []) cX11_linking_s5
def cX11_loadBoth_w2 : List UInt8 := [0xb4, 0x00, 0xc9, 0x2a, 0xb4, 0x00, 0x1f, 0xb4, 0x00, 0xc9, 0x60, 0x1d, 0x64, 0x10, 0x06, 0xa4, 0x00, 0x0e, 0xbb, 0x01, 0x07, 0x59, 0x13, 0x01, 0x17, 0xb7, 0x01, 0x0b, 0xbf, 0xb1]
def cX11_loadBoth_r2 : List UInt8 := cX11_loadBoth_w2 ++ []
def cX11_loadBoth_w1 : List UInt8 := [0x2a, 0xb4, 0x00, 0x1b, 0xb4, 0x00, 0xc6, 0x2a, 0xb4, 0x00, 0x1f, 0xb4, 0x00, 0xc6, 0x60, 0x10, 0x0c, 0xa3, 0x00, 0x19, 0x2a, 0xb4, 0x00, 0x1b]
def cX11_loadBoth_r1 : List UInt8 := cX11_loadBoth_w1 ++ cX11_loadBoth_r2
def cX11_loadBoth_w0 : List UInt8 := [0x2a, 0xb4, 0x00, 0x1b, 0x2a, 0xb4, 0x00, 0x0e, 0x1b, 0xb6, 0x00, 0xc2, 0x2a, 0xb4, 0x00, 0x1f, 0x2a, 0xb4, 0x00, 0x0e, 0x1c, 0xb6, 0x00, 0xc2]
def cX11_loadBoth_r0 : List UInt8 := cX11_loadBoth_w0 ++ cX11_loadBoth_r1
theorem cX11_loadBoth_s0 : dw_S cX11_loadBoth 0 cX11_loadBoth_r0 := dw_S0 (by decide +kernel)
theorem cX11_loadBoth_s1 : dw_S cX11_loadBoth 24 cX11_loadBoth_r1 := dw_Sn (w := cX11_loadBoth_w0) (r := cX11_loadBoth_r1) cX11_loadBoth_s0 (by decide +kernel)
theorem cX11_loadBoth_k0 : dw_ok cX11_loadBoth (ByteArray.mk cX11_loadBoth_w0.toArray) 0 := dw_Sw (r := cX11_loadBoth_r1) cX11_loadBoth_s0
theorem cX11_loadBoth_s2 : dw_S cX11_loadBoth 48 cX11_loadBoth_r2 := dw_Sn (w := cX11_loadBoth_w1) (r := cX11_loadBoth_r2) cX11_loadBoth_s1 (by decide +kernel)
theorem cX11_loadBoth_k1 : dw_ok cX11_loadBoth (ByteArray.mk cX11_loadBoth_w1.toArray) 24 := dw_Sw (r := cX11_loadBoth_r2) cX11_loadBoth_s1
theorem cX11_loadBoth_k2 : dw_ok cX11_loadBoth (ByteArray.mk cX11_loadBoth_w2.toArray) 48 := dw_Sw (r := []) cX11_loadBoth_s2
def cX11_maps_w3 : List UInt8 := [0x2a, 0xb4, 0x00, 0x1b, 0x1c, 0xb6, 0x01, 0x68, 0x88, 0xac]
def cX11_maps_r3 : List UInt8 := cX11_maps_w3 ++ []
def cX11_maps_w2 : List UInt8 := [0x2a, 0xb4, 0x00, 0x1b, 0xb4, 0x00, 0xc9, 0x07, 0xa4, 0x00, 0x0e, 0xbb, 0x01, 0x07, 0x59, 0x13, 0x01, 0x66, 0xb7, 0x01, 0x0b, 0xbf, 0x2a, 0xb4, 0x00, 0x48]
def cX11_maps_r2 : List UInt8 := cX11_maps_w2 ++ cX11_maps_r3
def cX11_maps_w1 : List UInt8 := [0xbf, 0x2a, 0xb4, 0x00, 0x1b, 0x2a, 0xb4, 0x00, 0x0e, 0x1b, 0xb6, 0x00, 0xc2, 0x2a, 0xb4, 0x00, 0x1b, 0xb4, 0x00, 0xc6, 0x10, 0x07, 0xa3, 0x00, 0x0e]
def cX11_maps_r1 : List UInt8 := cX11_maps_w1 ++ cX11_maps_r2
def cX11_maps_w0 : List UInt8 := [0x2a, 0x1b, 0xb6, 0x00, 0xbd, 0x1c, 0x04, 0xa1, 0x00, 0x08, 0x1c, 0x07, 0xa4, 0x00, 0x0e, 0xbb, 0x00, 0x80, 0x59, 0x13, 0x01, 0x64, 0xb7, 0x00, 0x84]
def cX11_maps_r0 : List UInt8 := cX11_maps_w0 ++ cX11_maps_r1
theorem cX11_maps_s0 : dw_S cX11_maps 0 cX11_maps_r0 := dw_S0 (by decide +kernel)
theorem cX11_maps_s1 : dw_S cX11_maps 25 cX11_maps_r1 := dw_Sn (w := cX11_maps_w0) (r := cX11_maps_r1) cX11_maps_s0 (by decide +kernel)
theorem cX11_maps_k0 : dw_ok cX11_maps (ByteArray.mk cX11_maps_w0.toArray) 0 := dw_Sw (r := cX11_maps_r1) cX11_maps_s0
theorem cX11_maps_s2 : dw_S cX11_maps 50 cX11_maps_r2 := dw_Sn (w := cX11_maps_w1) (r := cX11_maps_r2) cX11_maps_s1 (by decide +kernel)
theorem cX11_maps_k1 : dw_ok cX11_maps (ByteArray.mk cX11_maps_w1.toArray) 25 := dw_Sw (r := cX11_maps_r2) cX11_maps_s1
theorem cX11_maps_s3 : dw_S cX11_maps 76 cX11_maps_r3 := dw_Sn (w := cX11_maps_w2) (r := cX11_maps_r3) cX11_maps_s2 (by decide +kernel)
theorem cX11_maps_k2 : dw_ok cX11_maps (ByteArray.mk cX11_maps_w2.toArray) 50 := dw_Sw (r := cX11_maps_r3) cX11_maps_s2
theorem cX11_maps_k3 : dw_ok cX11_maps (ByteArray.mk cX11_maps_w3.toArray) 76 := dw_Sw (r := []) cX11_maps_s3
def cX11_mirror_w1 : List UInt8 := [0x1d, 0x2a, 0xb4, 0x00, 0x1b, 0xb4, 0x00, 0xc6, 0xa2, 0x00, 0x11, 0x2a, 0xb4, 0x00, 0x1b, 0x1d, 0xb6, 0x00, 0xf8, 0x84, 0x03, 0x01, 0xa7, 0xff, 0xea, 0x2a, 0x1c, 0xb6, 0x00, 0x91, 0xac]
def cX11_mirror_r1 : List UInt8 := cX11_mirror_w1 ++ []
def cX11_mirror_w0 : List UInt8 := [0x2a, 0x1b, 0xb6, 0x00, 0xbd, 0x2a, 0xb6, 0x00, 0x85, 0x3d, 0x2a, 0xb4, 0x00, 0x1b, 0x2a, 0xb4, 0x00, 0x0e, 0x1b, 0xb6, 0x00, 0xc2, 0x03, 0x3e]
def cX11_mirror_r0 : List UInt8 := cX11_mirror_w0 ++ cX11_mirror_r1
theorem cX11_mirror_s0 : dw_S cX11_mirror 0 cX11_mirror_r0 := dw_S0 (by decide +kernel)
theorem cX11_mirror_s1 : dw_S cX11_mirror 24 cX11_mirror_r1 := dw_Sn (w := cX11_mirror_w0) (r := cX11_mirror_r1) cX11_mirror_s0 (by decide +kernel)
theorem cX11_mirror_k0 : dw_ok cX11_mirror (ByteArray.mk cX11_mirror_w0.toArray) 0 := dw_Sw (r := cX11_mirror_r1) cX11_mirror_s0
theorem cX11_mirror_k1 : dw_ok cX11_mirror (ByteArray.mk cX11_mirror_w1.toArray) 24 := dw_Sw (r := []) cX11_mirror_s1
def cX11_moves_w2 : List UInt8 := [0x2a, 0xb4, 0x00, 0x12, 0xb4, 0x01, 0x1b, 0xac]
def cX11_moves_r2 : List UInt8 := cX11_moves_w2 ++ []
def cX11_moves_w1 : List UInt8 := [0xbf, 0x2a, 0xb4, 0x00, 0x12, 0x03, 0xb5, 0x01, 0x1b, 0x2a, 0xb4, 0x00, 0x3a, 0x2a, 0xb4, 0x00, 0x0e, 0x1b, 0x1c, 0x2a, 0xb4, 0x00, 0x12, 0xb6, 0x01, 0x1e]
def cX11_moves_r1 : List UInt8 := cX11_moves_w1 ++ cX11_moves_r2
def cX11_moves_w0 : List UInt8 := [0x2a, 0x1b, 0xb6, 0x00, 0xbd, 0x1c, 0x9b, 0x00, 0x08, 0x1c, 0x08, 0xa1, 0x00, 0x0e, 0xbb, 0x00, 0x80, 0x59, 0x13, 0x01, 0x19, 0xb7, 0x00, 0x84]
def cX11_moves_r0 : List UInt8 := cX11_moves_w0 ++ cX11_moves_r1
theorem cX11_moves_s0 : dw_S cX11_moves 0 cX11_moves_r0 := dw_S0 (by decide +kernel)
theorem cX11_moves_s1 : dw_S cX11_moves 24 cX11_moves_r1 := dw_Sn (w := cX11_moves_w0) (r := cX11_moves_r1) cX11_moves_s0 (by decide +kernel)
theorem cX11_moves_k0 : dw_ok cX11_moves (ByteArray.mk cX11_moves_w0.toArray) 0 := dw_Sw (r := cX11_moves_r1) cX11_moves_s0
theorem cX11_moves_s2 : dw_S cX11_moves 50 cX11_moves_r2 := dw_Sn (w := cX11_moves_w1) (r := cX11_moves_r2) cX11_moves_s1 (by decide +kernel)
theorem cX11_moves_k1 : dw_ok cX11_moves (ByteArray.mk cX11_moves_w1.toArray) 24 := dw_Sw (r := cX11_moves_r2) cX11_moves_s1
theorem cX11_moves_k2 : dw_ok cX11_moves (ByteArray.mk cX11_moves_w2.toArray) 50 := dw_Sw (r := []) cX11_moves_s2
def cX11_normal_w2 : List UInt8 := [0x2a, 0xb4, 0x00, 0x61, 0xb4, 0x01, 0x99, 0xac, 0x2a, 0xb4, 0x00, 0x61, 0xb4, 0x01, 0x9c, 0xac, 0x2a, 0xb4, 0x00, 0x57, 0x1b, 0x2e, 0xac, 0x2a, 0xb4, 0x00, 0x5b, 0x1b, 0x2e, 0xac]
def cX11_normal_r2 : List UInt8 := cX11_normal_w2 ++ []
def cX11_normal_w1 : List UInt8 := [0xbf, 0x2a, 0x2a, 0xb4, 0x00, 0x61, 0x1b, 0xb6, 0x01, 0x96, 0x1c, 0xaa, 0x00, 0x00, 0x00, 0x30, 0x00, 0x00, 0x00, 0x00, 0x00, 0x00, 0x00, 0x02, 0x00, 0x00, 0x00, 0x19, 0x00, 0x00, 0x00, 0x21, 0x00, 0x00, 0x00, 0x29]
def cX11_normal_r1 : List UInt8 := cX11_normal_w1 ++ cX11_normal_r2
def cX11_normal_w0 : List UInt8 := [0x2a, 0x1b, 0xb6, 0x01, 0x7b, 0x1c, 0x9b, 0x00, 0x08, 0x1c, 0x06, 0xa4, 0x00, 0x0e, 0xbb, 0x00, 0x80, 0x59, 0x13, 0x01, 0x94, 0xb7, 0x00, 0x84]
def cX11_normal_r0 : List UInt8 := cX11_normal_w0 ++ cX11_normal_r1
theorem cX11_normal_s0 : dw_S cX11_normal 0 cX11_normal_r0 := dw_S0 (by decide +kernel)
theorem cX11_normal_s1 : dw_S cX11_normal 24 cX11_normal_r1 := dw_Sn (w := cX11_normal_w0) (r := cX11_normal_r1) cX11_normal_s0 (by decide +kernel)
theorem cX11_normal_k0 : dw_ok cX11_normal (ByteArray.mk cX11_normal_w0.toArray) 0 := dw_Sw (r := cX11_normal_r1) cX11_normal_s0
theorem cX11_normal_s2 : dw_S cX11_normal 60 cX11_normal_r2 := dw_Sn (w := cX11_normal_w1) (r := cX11_normal_r2) cX11_normal_s1 (by decide +kernel)
theorem cX11_normal_k1 : dw_ok cX11_normal (ByteArray.mk cX11_normal_w1.toArray) 24 := dw_Sw (r := cX11_normal_r2) cX11_normal_s1
theorem cX11_normal_k2 : dw_ok cX11_normal (ByteArray.mk cX11_normal_w2.toArray) 60 := dw_Sw (r := []) cX11_normal_s2
def cX11_product_w6 : List UInt8 := [0x2a, 0xb4, 0x00, 0x5b, 0x1d, 0x2a, 0xb4, 0x00, 0x5b, 0x1b, 0x2e, 0x4f, 0x1d, 0xac]
def cX11_product_r6 : List UInt8 := cX11_product_w6 ++ []
def cX11_product_w5 : List UInt8 := [0x1c, 0x2e, 0xb8, 0x01, 0x88, 0x2a, 0xb4, 0x00, 0x57, 0x1d, 0x2a, 0xb4, 0x00, 0x57, 0x1b, 0x2e, 0x2a, 0xb4, 0x00, 0x57, 0x1c, 0x2e, 0x60, 0x4f]
def cX11_product_r5 : List UInt8 := cX11_product_w5 ++ cX11_product_r6
def cX11_product_w4 : List UInt8 := [0x2a, 0xb4, 0x00, 0x53, 0x1c, 0x10, 0x10, 0x68, 0x2a, 0xb4, 0x00, 0x53, 0x15, 0x04, 0x2a, 0xb4, 0x00, 0x57, 0x1b, 0x2e, 0x60, 0x2a, 0xb4, 0x00, 0x57]
def cX11_product_r4 : List UInt8 := cX11_product_w4 ++ cX11_product_r5
def cX11_product_w3 : List UInt8 := [0x68, 0x36, 0x04, 0x2a, 0xb4, 0x00, 0x53, 0x1b, 0x10, 0x10, 0x68, 0x2a, 0xb4, 0x00, 0x53, 0x15, 0x04, 0x2a, 0xb4, 0x00, 0x57, 0x1b, 0x2e, 0xb8, 0x01, 0x88]
def cX11_product_r3 : List UInt8 := cX11_product_w3 ++ cX11_product_r4
def cX11_product_w2 : List UInt8 := [0x10, 0x10, 0xa4, 0x00, 0x0e, 0xbb, 0x01, 0x07, 0x59, 0x13, 0x01, 0x86, 0xb7, 0x01, 0x0b, 0xbf, 0x2a, 0xb6, 0x00, 0x97, 0x3e, 0x1d, 0x10, 0x10]
def cX11_product_r2 : List UInt8 := cX11_product_w2 ++ cX11_product_r3
def cX11_product_w1 : List UInt8 := [0xbb, 0x00, 0x80, 0x59, 0x13, 0x01, 0x84, 0xb7, 0x00, 0x84, 0xbf, 0x2a, 0xb4, 0x00, 0x57, 0x1b, 0x2e, 0x2a, 0xb4, 0x00, 0x57, 0x1c, 0x2e, 0x60]
def cX11_product_r1 : List UInt8 := cX11_product_w1 ++ cX11_product_r2
def cX11_product_w0 : List UInt8 := [0x2a, 0x1b, 0xb6, 0x01, 0x7b, 0x2a, 0x1c, 0xb6, 0x01, 0x7b, 0x2a, 0xb4, 0x00, 0x5b, 0x1b, 0x2e, 0x2a, 0xb4, 0x00, 0x5b, 0x1c, 0x2e, 0x9f, 0x00, 0x0e]
def cX11_product_r0 : List UInt8 := cX11_product_w0 ++ cX11_product_r1
theorem cX11_product_s0 : dw_S cX11_product 0 cX11_product_r0 := dw_S0 (by decide +kernel)
theorem cX11_product_s1 : dw_S cX11_product 25 cX11_product_r1 := dw_Sn (w := cX11_product_w0) (r := cX11_product_r1) cX11_product_s0 (by decide +kernel)
theorem cX11_product_k0 : dw_ok cX11_product (ByteArray.mk cX11_product_w0.toArray) 0 := dw_Sw (r := cX11_product_r1) cX11_product_s0
theorem cX11_product_s2 : dw_S cX11_product 49 cX11_product_r2 := dw_Sn (w := cX11_product_w1) (r := cX11_product_r2) cX11_product_s1 (by decide +kernel)
theorem cX11_product_k1 : dw_ok cX11_product (ByteArray.mk cX11_product_w1.toArray) 25 := dw_Sw (r := cX11_product_r2) cX11_product_s1
theorem cX11_product_s3 : dw_S cX11_product 73 cX11_product_r3 := dw_Sn (w := cX11_product_w2) (r := cX11_product_r3) cX11_product_s2 (by decide +kernel)
theorem cX11_product_k2 : dw_ok cX11_product (ByteArray.mk cX11_product_w2.toArray) 49 := dw_Sw (r := cX11_product_r3) cX11_product_s2
theorem cX11_product_s4 : dw_S cX11_product 99 cX11_product_r4 := dw_Sn (w := cX11_product_w3) (r := cX11_product_r4) cX11_product_s3 (by decide +kernel)
theorem cX11_product_k3 : dw_ok cX11_product (ByteArray.mk cX11_product_w3.toArray) 73 := dw_Sw (r := cX11_product_r4) cX11_product_s3
theorem cX11_product_s5 : dw_S cX11_product 124 cX11_product_r5 := dw_Sn (w := cX11_product_w4) (r := cX11_product_r5) cX11_product_s4 (by decide +kernel)
theorem cX11_product_k4 : dw_ok cX11_product (ByteArray.mk cX11_product_w4.toArray) 99 := dw_Sw (r := cX11_product_r5) cX11_product_s4
theorem cX11_product_s6 : dw_S cX11_product 148 cX11_product_r6 := dw_Sn (w := cX11_product_w5) (r := cX11_product_r6) cX11_product_s5 (by decide +kernel)
theorem cX11_product_k5 : dw_ok cX11_product (ByteArray.mk cX11_product_w5.toArray) 124 := dw_Sw (r := cX11_product_r6) cX11_product_s5
theorem cX11_product_k6 : dw_ok cX11_product (ByteArray.mk cX11_product_w6.toArray) 148 := dw_Sw (r := []) cX11_product_s6
def cX11_reverse_w1 : List UInt8 := [0xb6, 0x00, 0xeb, 0x2a, 0xb6, 0x00, 0x85, 0x3e, 0x2a, 0xb4, 0x00, 0x1b, 0x1c, 0xb6, 0x00, 0xfb, 0x2a, 0x1d, 0xb6, 0x00, 0x91, 0xac]
def cX11_reverse_r1 : List UInt8 := cX11_reverse_w1 ++ []
def cX11_reverse_w0 : List UInt8 := [0x2a, 0x1b, 0xb6, 0x00, 0xbd, 0x2a, 0xb4, 0x00, 0x1b, 0x2a, 0xb4, 0x00, 0x0e, 0x1b, 0xb6, 0x00, 0xc2, 0x1c, 0x02, 0x9f, 0x00, 0x08, 0x2a, 0x1c]
def cX11_reverse_r0 : List UInt8 := cX11_reverse_w0 ++ cX11_reverse_r1
theorem cX11_reverse_s0 : dw_S cX11_reverse 0 cX11_reverse_r0 := dw_S0 (by decide +kernel)
theorem cX11_reverse_s1 : dw_S cX11_reverse 24 cX11_reverse_r1 := dw_Sn (w := cX11_reverse_w0) (r := cX11_reverse_r1) cX11_reverse_s0 (by decide +kernel)
theorem cX11_reverse_k0 : dw_ok cX11_reverse (ByteArray.mk cX11_reverse_w0.toArray) 0 := dw_Sw (r := cX11_reverse_r1) cX11_reverse_s0
theorem cX11_reverse_k1 : dw_ok cX11_reverse (ByteArray.mk cX11_reverse_w1.toArray) 24 := dw_Sw (r := []) cX11_reverse_s1
def cX11_simplify_w2 : List UInt8 := [0xb4, 0x01, 0x28, 0x03, 0x2e, 0xb6, 0x00, 0xb9, 0x1c, 0xac]
def cX11_simplify_r2 : List UInt8 := cX11_simplify_w2 ++ []
def cX11_simplify_w1 : List UInt8 := [0xb4, 0x01, 0x2c, 0x4e, 0x2d, 0xb4, 0x01, 0x1b, 0x11, 0x01, 0x2c, 0xa4, 0x00, 0x06, 0x10, 0xfe, 0xac, 0x2a, 0xb4, 0x00, 0x0e, 0x1c, 0x2d, 0x2d]
def cX11_simplify_r1 : List UInt8 := cX11_simplify_w1 ++ cX11_simplify_r2
def cX11_simplify_w0 : List UInt8 := [0x2a, 0x1b, 0xb6, 0x00, 0xbd, 0x2a, 0xb6, 0x00, 0x85, 0x3d, 0x2a, 0xb4, 0x00, 0x3a, 0x2a, 0xb4, 0x00, 0x0e, 0x1b, 0xb6, 0x01, 0x29, 0x2a, 0xb4, 0x00, 0x3a]
def cX11_simplify_r0 : List UInt8 := cX11_simplify_w0 ++ cX11_simplify_r1
theorem cX11_simplify_s0 : dw_S cX11_simplify 0 cX11_simplify_r0 := dw_S0 (by decide +kernel)
theorem cX11_simplify_s1 : dw_S cX11_simplify 26 cX11_simplify_r1 := dw_Sn (w := cX11_simplify_w0) (r := cX11_simplify_r1) cX11_simplify_s0 (by decide +kernel)
theorem cX11_simplify_k0 : dw_ok cX11_simplify (ByteArray.mk cX11_simplify_w0.toArray) 0 := dw_Sw (r := cX11_simplify_r1) cX11_simplify_s0
theorem cX11_simplify_s2 : dw_S cX11_simplify 50 cX11_simplify_r2 := dw_Sn (w := cX11_simplify_w1) (r := cX11_simplify_r2) cX11_simplify_s1 (by decide +kernel)
theorem cX11_simplify_k1 : dw_ok cX11_simplify (ByteArray.mk cX11_simplify_w1.toArray) 26 := dw_Sw (r := cX11_simplify_r2) cX11_simplify_s1
theorem cX11_simplify_k2 : dw_ok cX11_simplify (ByteArray.mk cX11_simplify_w2.toArray) 50 := dw_Sw (r := []) cX11_simplify_s2
def cX11_smooth_w2 : List UInt8 := [0x60, 0x10, 0x06, 0xa4, 0x00, 0x0e, 0xbb, 0x01, 0x07, 0x59, 0x13, 0x01, 0x09, 0xb7, 0x01, 0x0b, 0xbf, 0x2a, 0x2a, 0xb6, 0x00, 0x85, 0xb6, 0x00, 0x91, 0xac]
def cX11_smooth_r2 : List UInt8 := cX11_smooth_w2 ++ []
def cX11_smooth_w1 : List UInt8 := [0x1c, 0xb6, 0x01, 0x01, 0x2a, 0xb4, 0x00, 0x1b, 0xb6, 0x01, 0x04, 0x2a, 0xb4, 0x00, 0x1b, 0xb4, 0x00, 0xc9, 0x2a, 0xb4, 0x00, 0x1b, 0xb4, 0x00, 0xcc]
def cX11_smooth_r1 : List UInt8 := cX11_smooth_w1 ++ cX11_smooth_r2
def cX11_smooth_w0 : List UInt8 := [0x2a, 0x1b, 0xb6, 0x00, 0xbd, 0x2a, 0xb4, 0x00, 0x1b, 0x2a, 0xb4, 0x00, 0x0e, 0x1b, 0xb6, 0x00, 0xc2, 0x2a, 0x1c, 0xb6, 0x00, 0xfe, 0x2a, 0xb4, 0x00, 0x1b]
def cX11_smooth_r0 : List UInt8 := cX11_smooth_w0 ++ cX11_smooth_r1
theorem cX11_smooth_s0 : dw_S cX11_smooth 0 cX11_smooth_r0 := dw_S0 (by decide +kernel)
theorem cX11_smooth_s1 : dw_S cX11_smooth 26 cX11_smooth_r1 := dw_Sn (w := cX11_smooth_w0) (r := cX11_smooth_r1) cX11_smooth_s0 (by decide +kernel)
theorem cX11_smooth_k0 : dw_ok cX11_smooth (ByteArray.mk cX11_smooth_w0.toArray) 0 := dw_Sw (r := cX11_smooth_r1) cX11_smooth_s0
theorem cX11_smooth_s2 : dw_S cX11_smooth 51 cX11_smooth_r2 := dw_Sn (w := cX11_smooth_w1) (r := cX11_smooth_r2) cX11_smooth_s1 (by decide +kernel)
theorem cX11_smooth_k1 : dw_ok cX11_smooth (ByteArray.mk cX11_smooth_w1.toArray) 26 := dw_Sw (r := cX11_smooth_r2) cX11_smooth_s1
theorem cX11_smooth_k2 : dw_ok cX11_smooth (ByteArray.mk cX11_smooth_w2.toArray) 51 := dw_Sw (r := []) cX11_smooth_s2
def cX11_summands_w1 : List UInt8 := [0x2a, 0xb4, 0x00, 0x2c, 0x2a, 0xb4, 0x00, 0x1b, 0x2a, 0xb4, 0x00, 0x15, 0xb6, 0x01, 0x45, 0x2a, 0xb4, 0x00, 0x15, 0xb4, 0x01, 0x1b, 0xac]
def cX11_summands_r1 : List UInt8 := cX11_summands_w1 ++ []
def cX11_summands_w0 : List UInt8 := [0x2a, 0x1b, 0xb6, 0x00, 0xbd, 0x2a, 0xb4, 0x00, 0x1b, 0x2a, 0xb4, 0x00, 0x0e, 0x1b, 0xb6, 0x00, 0xc2, 0x2a, 0xb4, 0x00, 0x1b, 0xb6, 0x01, 0x42]
def cX11_summands_r0 : List UInt8 := cX11_summands_w0 ++ cX11_summands_r1
theorem cX11_summands_s0 : dw_S cX11_summands 0 cX11_summands_r0 := dw_S0 (by decide +kernel)
theorem cX11_summands_s1 : dw_S cX11_summands 24 cX11_summands_r1 := dw_Sn (w := cX11_summands_w0) (r := cX11_summands_r1) cX11_summands_s0 (by decide +kernel)
theorem cX11_summands_k0 : dw_ok cX11_summands (ByteArray.mk cX11_summands_w0.toArray) 0 := dw_Sw (r := cX11_summands_r1) cX11_summands_s0
theorem cX11_summands_k1 : dw_ok cX11_summands (ByteArray.mk cX11_summands_w1.toArray) 24 := dw_Sw (r := []) cX11_summands_s1
def cX11_two_w3 : List UInt8 := [0x03, 0xb6, 0x01, 0x49, 0x2a, 0xb4, 0x00, 0x41, 0x1c, 0x1d, 0xb6, 0x01, 0xb4, 0xac]
def cX11_two_r3 : List UInt8 := cX11_two_w3 ++ []
def cX11_two_w2 : List UInt8 := [0x2e, 0xb6, 0x01, 0x80, 0x2a, 0xb4, 0x00, 0x2c, 0x2a, 0xb4, 0x00, 0x1b, 0xb6, 0x00, 0xb2, 0x2a, 0xb4, 0x00, 0x41, 0x2a, 0xb4, 0x00, 0x2c, 0xb4, 0x00, 0xb6]
def cX11_two_r2 : List UInt8 := cX11_two_w2 ++ cX11_two_r3
def cX11_two_w1 : List UInt8 := [0xbf, 0x2a, 0xb4, 0x00, 0x1b, 0x2a, 0xb4, 0x00, 0x53, 0x1b, 0x10, 0x10, 0x68, 0x2a, 0xb4, 0x00, 0x57, 0x1b, 0x2e, 0x2a, 0xb4, 0x00, 0x5b, 0x1b]
def cX11_two_r1 : List UInt8 := cX11_two_w1 ++ cX11_two_r2
def cX11_two_w0 : List UInt8 := [0x2a, 0x1b, 0xb6, 0x01, 0x7b, 0x2a, 0xb4, 0x00, 0x57, 0x1b, 0x2e, 0x10, 0x0a, 0xa4, 0x00, 0x0e, 0xbb, 0x01, 0x07, 0x59, 0x13, 0x01, 0xb2, 0xb7, 0x01, 0x0b]
def cX11_two_r0 : List UInt8 := cX11_two_w0 ++ cX11_two_r1
theorem cX11_two_s0 : dw_S cX11_two 0 cX11_two_r0 := dw_S0 (by decide +kernel)
theorem cX11_two_s1 : dw_S cX11_two 26 cX11_two_r1 := dw_Sn (w := cX11_two_w0) (r := cX11_two_r1) cX11_two_s0 (by decide +kernel)
theorem cX11_two_k0 : dw_ok cX11_two (ByteArray.mk cX11_two_w0.toArray) 0 := dw_Sw (r := cX11_two_r1) cX11_two_s0
theorem cX11_two_s2 : dw_S cX11_two 50 cX11_two_r2 := dw_Sn (w := cX11_two_w1) (r := cX11_two_r2) cX11_two_s1 (by decide +kernel)
theorem cX11_two_k1 : dw_ok cX11_two (ByteArray.mk cX11_two_w1.toArray) 26 := dw_Sw (r := cX11_two_r2) cX11_two_s1
theorem cX11_two_s3 : dw_S cX11_two 76 cX11_two_r3 := dw_Sn (w := cX11_two_w2) (r := cX11_two_r3) cX11_two_s2 (by decide +kernel)
theorem cX11_two_k2 : dw_ok cX11_two (ByteArray.mk cX11_two_w2.toArray) 50 := dw_Sw (r := cX11_two_r3) cX11_two_s2
theorem cX11_two_k3 : dw_ok cX11_two (ByteArray.mk cX11_two_w3.toArray) 76 := dw_Sw (r := []) cX11_two_s3
def cX11_visit_w5 : List UInt8 := [0xb4, 0x00, 0xe8, 0x15, 0x04, 0x04, 0x7a, 0x2e, 0xac]
def cX11_visit_r5 : List UInt8 := cX11_visit_w5 ++ []
def cX11_visit_w4 : List UInt8 := [0x2a, 0xb4, 0x00, 0x1b, 0xb4, 0x00, 0xe5, 0x15, 0x04, 0x2e, 0xac, 0x15, 0x04, 0x04, 0x7a, 0xac, 0x15, 0x04, 0x04, 0x7e, 0xac, 0x2a, 0xb4, 0x00, 0x1b]
def cX11_visit_r4 : List UInt8 := cX11_visit_w4 ++ cX11_visit_r5
def cX11_visit_w3 : List UInt8 := [0x2e, 0x36, 0x04, 0x1d, 0xaa, 0x00, 0x00, 0x00, 0x00, 0x00, 0x30, 0x00, 0x00, 0x00, 0x00, 0x00, 0x00, 0x00, 0x02, 0x00, 0x00, 0x00, 0x1b, 0x00, 0x00, 0x00, 0x26, 0x00, 0x00, 0x00, 0x2b]
def cX11_visit_r3 : List UInt8 := cX11_visit_w3 ++ cX11_visit_r4
def cX11_visit_w2 : List UInt8 := [0xb7, 0x00, 0x84, 0xbf, 0x2a, 0xb4, 0x00, 0x1b, 0x2a, 0xb4, 0x00, 0x0e, 0x1b, 0xb6, 0x00, 0xc2, 0x2a, 0xb4, 0x00, 0x1b, 0xb4, 0x00, 0xe2, 0x1c]
def cX11_visit_r2 : List UInt8 := cX11_visit_w2 ++ cX11_visit_r3
def cX11_visit_w1 : List UInt8 := [0xbb, 0x00, 0xa4, 0x59, 0x12, 0xde, 0xb7, 0x00, 0xa8, 0xbf, 0x1d, 0x9b, 0x00, 0x08, 0x1d, 0x06, 0xa4, 0x00, 0x0d, 0xbb, 0x00, 0x80, 0x59, 0x12, 0xe0]
def cX11_visit_r1 : List UInt8 := cX11_visit_w1 ++ cX11_visit_r2
def cX11_visit_w0 : List UInt8 := [0x2a, 0x1b, 0xb6, 0x00, 0xbd, 0x1c, 0x9b, 0x00, 0x12, 0x1c, 0x05, 0x2a, 0xb4, 0x00, 0x0e, 0xb4, 0x00, 0xdc, 0x1b, 0x33, 0x68, 0xa1, 0x00, 0x0d]
def cX11_visit_r0 : List UInt8 := cX11_visit_w0 ++ cX11_visit_r1
theorem cX11_visit_s0 : dw_S cX11_visit 0 cX11_visit_r0 := dw_S0 (by decide +kernel)
theorem cX11_visit_s1 : dw_S cX11_visit 24 cX11_visit_r1 := dw_Sn (w := cX11_visit_w0) (r := cX11_visit_r1) cX11_visit_s0 (by decide +kernel)
theorem cX11_visit_k0 : dw_ok cX11_visit (ByteArray.mk cX11_visit_w0.toArray) 0 := dw_Sw (r := cX11_visit_r1) cX11_visit_s0
theorem cX11_visit_s2 : dw_S cX11_visit 49 cX11_visit_r2 := dw_Sn (w := cX11_visit_w1) (r := cX11_visit_r2) cX11_visit_s1 (by decide +kernel)
theorem cX11_visit_k1 : dw_ok cX11_visit (ByteArray.mk cX11_visit_w1.toArray) 24 := dw_Sw (r := cX11_visit_r2) cX11_visit_s1
theorem cX11_visit_s3 : dw_S cX11_visit 73 cX11_visit_r3 := dw_Sn (w := cX11_visit_w2) (r := cX11_visit_r3) cX11_visit_s2 (by decide +kernel)
theorem cX11_visit_k2 : dw_ok cX11_visit (ByteArray.mk cX11_visit_w2.toArray) 49 := dw_Sw (r := cX11_visit_r3) cX11_visit_s2
theorem cX11_visit_s4 : dw_S cX11_visit 104 cX11_visit_r4 := dw_Sn (w := cX11_visit_w3) (r := cX11_visit_r4) cX11_visit_s3 (by decide +kernel)
theorem cX11_visit_k3 : dw_ok cX11_visit (ByteArray.mk cX11_visit_w3.toArray) 73 := dw_Sw (r := cX11_visit_r4) cX11_visit_s3
theorem cX11_visit_s5 : dw_S cX11_visit 129 cX11_visit_r5 := dw_Sn (w := cX11_visit_w4) (r := cX11_visit_r5) cX11_visit_s4 (by decide +kernel)
theorem cX11_visit_k4 : dw_ok cX11_visit (ByteArray.mk cX11_visit_w4.toArray) 104 := dw_Sw (r := cX11_visit_r5) cX11_visit_s4
theorem cX11_visit_k5 : dw_ok cX11_visit (ByteArray.mk cX11_visit_w5.toArray) 129 := dw_Sw (r := []) cX11_visit_s5
def cX11_way_w5 : List UInt8 := [0x2a, 0xb4, 0x00, 0x3a, 0xb4, 0x01, 0x31, 0x2a, 0xb4, 0x00, 0x3a, 0xb4, 0x01, 0x3b, 0xb6, 0x01, 0x3e, 0x99, 0x00, 0x07, 0x05, 0xa7, 0x00, 0x04, 0x02, 0xac]
def cX11_way_r5 : List UInt8 := cX11_way_w5 ++ []
def cX11_way_w4 : List UInt8 := [0x9b, 0x00, 0x05, 0x04, 0xac, 0x2a, 0xb4, 0x00, 0x3a, 0x2a, 0xb4, 0x00, 0x0e, 0x1c, 0x2a, 0xb4, 0x00, 0x3a, 0xb4, 0x01, 0x3b, 0xb6, 0x01, 0x34]
def cX11_way_r4 : List UInt8 := cX11_way_w4 ++ cX11_way_r5
def cX11_way_w3 : List UInt8 := [0x1b, 0x2a, 0xb4, 0x00, 0x3a, 0xb4, 0x01, 0x31, 0xb6, 0x01, 0x34, 0x2a, 0xb4, 0x00, 0x3a, 0xb4, 0x01, 0x31, 0x2a, 0xb4, 0x00, 0x0e, 0x1c, 0xb6, 0x01, 0x38]
def cX11_way_r3 : List UInt8 := cX11_way_w3 ++ cX11_way_r4
def cX11_way_w2 : List UInt8 := [0xb4, 0x00, 0x0e, 0x1b, 0x2a, 0xb4, 0x00, 0x0e, 0x1c, 0xb6, 0x00, 0xf4, 0x9a, 0x00, 0x05, 0x03, 0xac, 0x2a, 0xb4, 0x00, 0x3a, 0x2a, 0xb4, 0x00, 0x0e]
def cX11_way_r2 : List UInt8 := cX11_way_w2 ++ cX11_way_r3
def cX11_way_w1 : List UInt8 := [0xb4, 0x00, 0x0e, 0xb4, 0x00, 0xdc, 0x1c, 0x33, 0x07, 0xa4, 0x00, 0x0e, 0xbb, 0x01, 0x07, 0x59, 0x13, 0x01, 0x2f, 0xb7, 0x01, 0x0b, 0xbf, 0x2a]
def cX11_way_r1 : List UInt8 := cX11_way_w1 ++ cX11_way_r2
def cX11_way_w0 : List UInt8 := [0x2a, 0x1b, 0xb6, 0x00, 0xbd, 0x2a, 0x1c, 0xb6, 0x00, 0xbd, 0x2a, 0xb4, 0x00, 0x0e, 0xb4, 0x00, 0xdc, 0x1b, 0x33, 0x07, 0xa3, 0x00, 0x10, 0x2a]
def cX11_way_r0 : List UInt8 := cX11_way_w0 ++ cX11_way_r1
theorem cX11_way_s0 : dw_S cX11_way 0 cX11_way_r0 := dw_S0 (by decide +kernel)
theorem cX11_way_s1 : dw_S cX11_way 24 cX11_way_r1 := dw_Sn (w := cX11_way_w0) (r := cX11_way_r1) cX11_way_s0 (by decide +kernel)
theorem cX11_way_k0 : dw_ok cX11_way (ByteArray.mk cX11_way_w0.toArray) 0 := dw_Sw (r := cX11_way_r1) cX11_way_s0
theorem cX11_way_s2 : dw_S cX11_way 48 cX11_way_r2 := dw_Sn (w := cX11_way_w1) (r := cX11_way_r2) cX11_way_s1 (by decide +kernel)
theorem cX11_way_k1 : dw_ok cX11_way (ByteArray.mk cX11_way_w1.toArray) 24 := dw_Sw (r := cX11_way_r2) cX11_way_s1
theorem cX11_way_s3 : dw_S cX11_way 73 cX11_way_r3 := dw_Sn (w := cX11_way_w2) (r := cX11_way_r3) cX11_way_s2 (by decide +kernel)
theorem cX11_way_k2 : dw_ok cX11_way (ByteArray.mk cX11_way_w2.toArray) 48 := dw_Sw (r := cX11_way_r3) cX11_way_s2
theorem cX11_way_s4 : dw_S cX11_way 99 cX11_way_r4 := dw_Sn (w := cX11_way_w3) (r := cX11_way_r4) cX11_way_s3 (by decide +kernel)
theorem cX11_way_k3 : dw_ok cX11_way (ByteArray.mk cX11_way_w3.toArray) 73 := dw_Sw (r := cX11_way_r4) cX11_way_s3
theorem cX11_way_s5 : dw_S cX11_way 123 cX11_way_r5 := dw_Sn (w := cX11_way_w4) (r := cX11_way_r5) cX11_way_s4 (by decide +kernel)
theorem cX11_way_k4 : dw_ok cX11_way (ByteArray.mk cX11_way_w4.toArray) 99 := dw_Sw (r := cX11_way_r5) cX11_way_s4
theorem cX11_way_k5 : dw_ok cX11_way (ByteArray.mk cX11_way_w5.toArray) 123 := dw_Sw (r := []) cX11_way_s5
def cX11_write_w1 : List UInt8 := [0xb4, 0x00, 0x53, 0x1c, 0x10, 0x10, 0x68, 0x1d, 0x60, 0x33, 0xb6, 0x01, 0x91, 0x84, 0x03, 0x01, 0xa7, 0xff, 0xe4, 0xb1]
def cX11_write_r1 : List UInt8 := cX11_write_w1 ++ []
def cX11_write_w0 : List UInt8 := [0x2b, 0x2a, 0xb4, 0x00, 0x5b, 0x1c, 0x2e, 0xb6, 0x01, 0x8e, 0x03, 0x3e, 0x1d, 0x2a, 0xb4, 0x00, 0x57, 0x1c, 0x2e, 0xa2, 0x00, 0x18, 0x2b, 0x2a]
def cX11_write_r0 : List UInt8 := cX11_write_w0 ++ cX11_write_r1
theorem cX11_write_s0 : dw_S cX11_write 0 cX11_write_r0 := dw_S0 (by decide +kernel)
theorem cX11_write_s1 : dw_S cX11_write 24 cX11_write_r1 := dw_Sn (w := cX11_write_w0) (r := cX11_write_r1) cX11_write_s0 (by decide +kernel)
theorem cX11_write_k0 : dw_ok cX11_write (ByteArray.mk cX11_write_w0.toArray) 0 := dw_Sw (r := cX11_write_r1) cX11_write_s0
theorem cX11_write_k1 : dw_ok cX11_write (ByteArray.mk cX11_write_w1.toArray) 24 := dw_Sw (r := []) cX11_write_s1
def cX12_copy_w2 : List UInt8 := [0xa7, 0xff, 0xe1, 0x2a, 0xb6, 0x00, 0x3e, 0x84, 0x02, 0x01, 0xa7, 0xff, 0xc8, 0x2a, 0x2b, 0xb6, 0x00, 0x41, 0xb1]
def cX12_copy_r2 : List UInt8 := cX12_copy_w2 ++ []
def cX12_copy_w1 : List UInt8 := [0x1c, 0x04, 0x60, 0x2e, 0xa2, 0x00, 0x19, 0x2a, 0x2b, 0xb4, 0x00, 0x0f, 0x1d, 0x2e, 0x2b, 0xb4, 0x00, 0x12, 0x1d, 0x2e, 0xb6, 0x00, 0x3a, 0x84, 0x03, 0x01]
def cX12_copy_r1 : List UInt8 := cX12_copy_w1 ++ cX12_copy_r2
def cX12_copy_w0 : List UInt8 := [0x2a, 0xb6, 0x00, 0x37, 0x03, 0x3d, 0x1c, 0x2b, 0xb4, 0x00, 0x34, 0xa2, 0x00, 0x36, 0x2b, 0xb4, 0x00, 0x09, 0x1c, 0x2e, 0x3e, 0x1d, 0x2b, 0xb4, 0x00, 0x09]
def cX12_copy_r0 : List UInt8 := cX12_copy_w0 ++ cX12_copy_r1
theorem cX12_copy_s0 : dw_S cX12_copy 0 cX12_copy_r0 := dw_S0 (by decide +kernel)
theorem cX12_copy_s1 : dw_S cX12_copy 26 cX12_copy_r1 := dw_Sn (w := cX12_copy_w0) (r := cX12_copy_r1) cX12_copy_s0 (by decide +kernel)
theorem cX12_copy_k0 : dw_ok cX12_copy (ByteArray.mk cX12_copy_w0.toArray) 0 := dw_Sw (r := cX12_copy_r1) cX12_copy_s0
theorem cX12_copy_s2 : dw_S cX12_copy 52 cX12_copy_r2 := dw_Sn (w := cX12_copy_w1) (r := cX12_copy_r2) cX12_copy_s1 (by decide +kernel)
theorem cX12_copy_k1 : dw_ok cX12_copy (ByteArray.mk cX12_copy_w1.toArray) 26 := dw_Sw (r := cX12_copy_r2) cX12_copy_s1
theorem cX12_copy_k2 : dw_ok cX12_copy (ByteArray.mk cX12_copy_w2.toArray) 52 := dw_Sw (r := []) cX12_copy_s2
def cX12_init_w3 : List UInt8 := [0xb5, 0x00, 0x24, 0x2a, 0x10, 0x28, 0xbc, 0x0a, 0xb5, 0x00, 0x27, 0x2a, 0x10, 0x50, 0xbc, 0x0a, 0xb5, 0x00, 0x2a, 0x2a, 0x10, 0x50, 0xbc, 0x0a, 0xb5, 0x00, 0x2d, 0xb1]
def cX12_init_r3 : List UInt8 := cX12_init_w3 ++ []
def cX12_init_w2 : List UInt8 := [0xb5, 0x00, 0x1b, 0x2a, 0x10, 0x28, 0xbc, 0x0a, 0xb5, 0x00, 0x1e, 0x2a, 0x10, 0x28, 0xbc, 0x0a, 0xb5, 0x00, 0x21, 0x2a, 0x10, 0x28, 0xbc, 0x0a]
def cX12_init_r2 : List UInt8 := cX12_init_w2 ++ cX12_init_r3
def cX12_init_w1 : List UInt8 := [0xb5, 0x00, 0x12, 0x2a, 0x10, 0x28, 0xbc, 0x0a, 0xb5, 0x00, 0x15, 0x2a, 0x10, 0x28, 0xbc, 0x0a, 0xb5, 0x00, 0x18, 0x2a, 0x10, 0x28, 0xbc, 0x0a]
def cX12_init_r1 : List UInt8 := cX12_init_w1 ++ cX12_init_r2
def cX12_init_w0 : List UInt8 := [0x2a, 0xb7, 0x00, 0x03, 0x2a, 0x10, 0x28, 0xbc, 0x0a, 0xb5, 0x00, 0x09, 0x2a, 0x10, 0x28, 0xbc, 0x0a, 0xb5, 0x00, 0x0f, 0x2a, 0x10, 0x28, 0xbc, 0x0a]
def cX12_init_r0 : List UInt8 := cX12_init_w0 ++ cX12_init_r1
theorem cX12_init_s0 : dw_S cX12_init 0 cX12_init_r0 := dw_S0 (by decide +kernel)
theorem cX12_init_s1 : dw_S cX12_init 25 cX12_init_r1 := dw_Sn (w := cX12_init_w0) (r := cX12_init_r1) cX12_init_s0 (by decide +kernel)
theorem cX12_init_k0 : dw_ok cX12_init (ByteArray.mk cX12_init_w0.toArray) 0 := dw_Sw (r := cX12_init_r1) cX12_init_s0
theorem cX12_init_s2 : dw_S cX12_init 49 cX12_init_r2 := dw_Sn (w := cX12_init_w1) (r := cX12_init_r2) cX12_init_s1 (by decide +kernel)
theorem cX12_init_k1 : dw_ok cX12_init (ByteArray.mk cX12_init_w1.toArray) 25 := dw_Sw (r := cX12_init_r2) cX12_init_s1
theorem cX12_init_s3 : dw_S cX12_init 73 cX12_init_r3 := dw_Sn (w := cX12_init_w2) (r := cX12_init_r3) cX12_init_s2 (by decide +kernel)
theorem cX12_init_k2 : dw_ok cX12_init (ByteArray.mk cX12_init_w2.toArray) 49 := dw_Sw (r := cX12_init_r3) cX12_init_s2
theorem cX12_init_k3 : dw_ok cX12_init (ByteArray.mk cX12_init_w3.toArray) 73 := dw_Sw (r := []) cX12_init_s3
def cX12_isPlane_w3 : List UInt8 := [0x99, 0x00, 0x07, 0x05, 0xa7, 0x00, 0x04, 0x03, 0x60, 0x3c, 0x84, 0x02, 0x01, 0xa7, 0xff, 0xb9, 0x2a, 0xb4, 0x00, 0x48, 0x1b, 0xa0, 0x00, 0x07, 0x04, 0xa7, 0x00, 0x04, 0x03, 0xac]
def cX12_isPlane_r3 : List UInt8 := cX12_isPlane_w3 ++ []
def cX12_isPlane_w2 : List UInt8 := [0x2a, 0x15, 0x04, 0xb6, 0x00, 0x51, 0x9a, 0x00, 0x07, 0x04, 0xa7, 0x00, 0x04, 0x03, 0x80, 0x3e, 0x84, 0x04, 0x01, 0xa7, 0xff, 0xd8, 0x1b, 0x1d]
def cX12_isPlane_r2 : List UInt8 := cX12_isPlane_w2 ++ cX12_isPlane_r3
def cX12_isPlane_w1 : List UInt8 := [0x03, 0x3e, 0x03, 0x36, 0x04, 0x15, 0x04, 0x2a, 0xb4, 0x00, 0x34, 0xa2, 0x00, 0x25, 0x1d, 0x2a, 0xb4, 0x00, 0x27, 0x15, 0x04, 0x2e, 0x1c, 0xa0, 0x00, 0x10]
def cX12_isPlane_r1 : List UInt8 := cX12_isPlane_w1 ++ cX12_isPlane_r2
def cX12_isPlane_w0 : List UInt8 := [0x2a, 0xb6, 0x00, 0x4b, 0x2a, 0xb6, 0x00, 0x4e, 0x2a, 0xb4, 0x00, 0x30, 0x05, 0x6c, 0x3c, 0x03, 0x3d, 0x1c, 0x2a, 0xb4, 0x00, 0x45, 0xa2, 0x00, 0x45]
def cX12_isPlane_r0 : List UInt8 := cX12_isPlane_w0 ++ cX12_isPlane_r1
theorem cX12_isPlane_s0 : dw_S cX12_isPlane 0 cX12_isPlane_r0 := dw_S0 (by decide +kernel)
theorem cX12_isPlane_s1 : dw_S cX12_isPlane 25 cX12_isPlane_r1 := dw_Sn (w := cX12_isPlane_w0) (r := cX12_isPlane_r1) cX12_isPlane_s0 (by decide +kernel)
theorem cX12_isPlane_k0 : dw_ok cX12_isPlane (ByteArray.mk cX12_isPlane_w0.toArray) 0 := dw_Sw (r := cX12_isPlane_r1) cX12_isPlane_s0
theorem cX12_isPlane_s2 : dw_S cX12_isPlane 51 cX12_isPlane_r2 := dw_Sn (w := cX12_isPlane_w1) (r := cX12_isPlane_r2) cX12_isPlane_s1 (by decide +kernel)
theorem cX12_isPlane_k1 : dw_ok cX12_isPlane (ByteArray.mk cX12_isPlane_w1.toArray) 25 := dw_Sw (r := cX12_isPlane_r2) cX12_isPlane_s1
theorem cX12_isPlane_s3 : dw_S cX12_isPlane 75 cX12_isPlane_r3 := dw_Sn (w := cX12_isPlane_w2) (r := cX12_isPlane_r3) cX12_isPlane_s2 (by decide +kernel)
theorem cX12_isPlane_k2 : dw_ok cX12_isPlane (ByteArray.mk cX12_isPlane_w2.toArray) 51 := dw_Sw (r := cX12_isPlane_r3) cX12_isPlane_s2
theorem cX12_isPlane_k3 : dw_ok cX12_isPlane (ByteArray.mk cX12_isPlane_w3.toArray) 75 := dw_Sw (r := []) cX12_isPlane_s3
def cX12_link_w7 : List UInt8 := [0xa7, 0xff, 0x77, 0x84, 0x01, 0x01, 0xa7, 0xff, 0x62, 0xb1]
def cX12_link_r7 : List UInt8 := cX12_link_w7 ++ []
def cX12_link_w6 : List UInt8 := [0xb4, 0x00, 0x18, 0x1c, 0x2a, 0xb4, 0x00, 0x24, 0x1d, 0x2e, 0x4f, 0x2a, 0xb4, 0x00, 0x18, 0x2a, 0xb4, 0x00, 0x24, 0x1d, 0x2e, 0x1c, 0x4f, 0x84, 0x02, 0x01]
def cX12_link_r6 : List UInt8 := cX12_link_w6 ++ cX12_link_r7
def cX12_link_w5 : List UInt8 := [0x1c, 0x2e, 0x3e, 0x2a, 0xb4, 0x00, 0x24, 0x1d, 0x2e, 0x02, 0xa0, 0x00, 0x0d, 0x2a, 0xb4, 0x00, 0x24, 0x1d, 0x1c, 0x4f, 0xa7, 0x00, 0x1b, 0x2a]
def cX12_link_r5 : List UInt8 := cX12_link_w5 ++ cX12_link_r6
def cX12_link_w4 : List UInt8 := [0x2e, 0xa4, 0x00, 0x09, 0x1c, 0x04, 0x64, 0xa7, 0x00, 0x0d, 0x2a, 0xb4, 0x00, 0x09, 0x1b, 0x04, 0x60, 0x2e, 0x04, 0x64, 0x4f, 0x2a, 0xb4, 0x00, 0x0f]
def cX12_link_r4 : List UInt8 := cX12_link_w4 ++ cX12_link_r5
def cX12_link_w3 : List UInt8 := [0x1c, 0x04, 0x60, 0xa7, 0x00, 0x09, 0x2a, 0xb4, 0x00, 0x09, 0x1b, 0x2e, 0x4f, 0x2a, 0xb4, 0x00, 0x21, 0x1c, 0x1c, 0x2a, 0xb4, 0x00, 0x09, 0x1b]
def cX12_link_r3 : List UInt8 := cX12_link_w3 ++ cX12_link_r4
def cX12_link_w2 : List UInt8 := [0x2a, 0xb4, 0x00, 0x1b, 0x1c, 0x1b, 0x4f, 0x2a, 0xb4, 0x00, 0x1e, 0x1c, 0x1c, 0x04, 0x60, 0x2a, 0xb4, 0x00, 0x09, 0x1b, 0x04, 0x60, 0x2e, 0xa2, 0x00, 0x09]
def cX12_link_r2 : List UInt8 := cX12_link_w2 ++ cX12_link_r3
def cX12_link_w1 : List UInt8 := [0x2a, 0xb4, 0x00, 0x34, 0xa2, 0x00, 0x9c, 0x2a, 0xb4, 0x00, 0x09, 0x1b, 0x2e, 0x3d, 0x1c, 0x2a, 0xb4, 0x00, 0x09, 0x1b, 0x04, 0x60, 0x2e, 0xa2, 0x00, 0x83]
def cX12_link_r1 : List UInt8 := cX12_link_w1 ++ cX12_link_r2
def cX12_link_w0 : List UInt8 := [0x03, 0x3c, 0x1b, 0x10, 0x28, 0xa2, 0x00, 0x10, 0x2a, 0xb4, 0x00, 0x24, 0x1b, 0x02, 0x4f, 0x84, 0x01, 0x01, 0xa7, 0xff, 0xf0, 0x03, 0x3c, 0x1b]
def cX12_link_r0 : List UInt8 := cX12_link_w0 ++ cX12_link_r1
theorem cX12_link_s0 : dw_S cX12_link 0 cX12_link_r0 := dw_S0 (by decide +kernel)
theorem cX12_link_s1 : dw_S cX12_link 24 cX12_link_r1 := dw_Sn (w := cX12_link_w0) (r := cX12_link_r1) cX12_link_s0 (by decide +kernel)
theorem cX12_link_k0 : dw_ok cX12_link (ByteArray.mk cX12_link_w0.toArray) 0 := dw_Sw (r := cX12_link_r1) cX12_link_s0
theorem cX12_link_s2 : dw_S cX12_link 50 cX12_link_r2 := dw_Sn (w := cX12_link_w1) (r := cX12_link_r2) cX12_link_s1 (by decide +kernel)
theorem cX12_link_k1 : dw_ok cX12_link (ByteArray.mk cX12_link_w1.toArray) 24 := dw_Sw (r := cX12_link_r2) cX12_link_s1
theorem cX12_link_s3 : dw_S cX12_link 76 cX12_link_r3 := dw_Sn (w := cX12_link_w2) (r := cX12_link_r3) cX12_link_s2 (by decide +kernel)
theorem cX12_link_k2 : dw_ok cX12_link (ByteArray.mk cX12_link_w2.toArray) 50 := dw_Sw (r := cX12_link_r3) cX12_link_s2
theorem cX12_link_s4 : dw_S cX12_link 100 cX12_link_r4 := dw_Sn (w := cX12_link_w3) (r := cX12_link_r4) cX12_link_s3 (by decide +kernel)
theorem cX12_link_k3 : dw_ok cX12_link (ByteArray.mk cX12_link_w3.toArray) 76 := dw_Sw (r := cX12_link_r4) cX12_link_s3
theorem cX12_link_s5 : dw_S cX12_link 125 cX12_link_r5 := dw_Sn (w := cX12_link_w4) (r := cX12_link_r5) cX12_link_s4 (by decide +kernel)
theorem cX12_link_k4 : dw_ok cX12_link (ByteArray.mk cX12_link_w4.toArray) 100 := dw_Sw (r := cX12_link_r5) cX12_link_s4
theorem cX12_link_s6 : dw_S cX12_link 149 cX12_link_r6 := dw_Sn (w := cX12_link_w5) (r := cX12_link_r6) cX12_link_s5 (by decide +kernel)
theorem cX12_link_k5 : dw_ok cX12_link (ByteArray.mk cX12_link_w5.toArray) 125 := dw_Sw (r := cX12_link_r6) cX12_link_s5
theorem cX12_link_s7 : dw_S cX12_link 175 cX12_link_r7 := dw_Sn (w := cX12_link_w6) (r := cX12_link_r7) cX12_link_s6 (by decide +kernel)
theorem cX12_link_k6 : dw_ok cX12_link (ByteArray.mk cX12_link_w6.toArray) 149 := dw_Sw (r := cX12_link_r7) cX12_link_s6
theorem cX12_link_k7 : dw_ok cX12_link (ByteArray.mk cX12_link_w7.toArray) 175 := dw_Sw (r := []) cX12_link_s7
def cX12_split_w6 : List UInt8 := [0x59, 0xb4, 0x00, 0x45, 0x04, 0x60, 0xb5, 0x00, 0x45, 0x84, 0x01, 0x01, 0xa7, 0xff, 0x80, 0xb1]
def cX12_split_r6 : List UInt8 := cX12_split_w6 ++ []
def cX12_split_w5 : List UInt8 := [0x2a, 0xb4, 0x00, 0x18, 0x1d, 0x2e, 0x2e, 0x2a, 0xb4, 0x00, 0x45, 0x4f, 0x04, 0x3d, 0x84, 0x03, 0x01, 0xa7, 0xff, 0xb9, 0xa7, 0xff, 0xae, 0x2a]
def cX12_split_r5 : List UInt8 := cX12_split_w5 ++ cX12_split_r6
def cX12_split_w4 : List UInt8 := [0x2a, 0xb4, 0x00, 0x1b, 0x2a, 0xb4, 0x00, 0x18, 0x1d, 0x2e, 0x2e, 0x2e, 0x02, 0xa0, 0x00, 0x19, 0x2a, 0xb4, 0x00, 0x27, 0x2a, 0xb4, 0x00, 0x1b]
def cX12_split_r4 : List UInt8 := cX12_split_w4 ++ cX12_split_r5
def cX12_split_w3 : List UInt8 := [0xa2, 0x00, 0x45, 0x2a, 0xb4, 0x00, 0x27, 0x2a, 0xb4, 0x00, 0x1b, 0x1d, 0x2e, 0x2e, 0x2a, 0xb4, 0x00, 0x45, 0xa0, 0x00, 0x2d, 0x2a, 0xb4, 0x00, 0x27]
def cX12_split_r3 : List UInt8 := cX12_split_w3 ++ cX12_split_r4
def cX12_split_w2 : List UInt8 := [0x2a, 0xb4, 0x00, 0x27, 0x1b, 0x2a, 0xb4, 0x00, 0x45, 0x4f, 0x04, 0x3d, 0x1c, 0x99, 0x00, 0x54, 0x03, 0x3d, 0x03, 0x3e, 0x1d, 0x2a, 0xb4, 0x00, 0x30]
def cX12_split_r2 : List UInt8 := cX12_split_w2 ++ cX12_split_r3
def cX12_split_w1 : List UInt8 := [0x03, 0xb5, 0x00, 0x45, 0x03, 0x3c, 0x1b, 0x2a, 0xb4, 0x00, 0x34, 0xa2, 0x00, 0x7e, 0x2a, 0xb4, 0x00, 0x27, 0x1b, 0x2e, 0x02, 0xa0, 0x00, 0x6e]
def cX12_split_r1 : List UInt8 := cX12_split_w1 ++ cX12_split_r2
def cX12_split_w0 : List UInt8 := [0x03, 0x3c, 0x1b, 0x2a, 0xb4, 0x00, 0x34, 0xa2, 0x00, 0x10, 0x2a, 0xb4, 0x00, 0x27, 0x1b, 0x02, 0x4f, 0x84, 0x01, 0x01, 0xa7, 0xff, 0xee, 0x2a]
def cX12_split_r0 : List UInt8 := cX12_split_w0 ++ cX12_split_r1
theorem cX12_split_s0 : dw_S cX12_split 0 cX12_split_r0 := dw_S0 (by decide +kernel)
theorem cX12_split_s1 : dw_S cX12_split 24 cX12_split_r1 := dw_Sn (w := cX12_split_w0) (r := cX12_split_r1) cX12_split_s0 (by decide +kernel)
theorem cX12_split_k0 : dw_ok cX12_split (ByteArray.mk cX12_split_w0.toArray) 0 := dw_Sw (r := cX12_split_r1) cX12_split_s0
theorem cX12_split_s2 : dw_S cX12_split 48 cX12_split_r2 := dw_Sn (w := cX12_split_w1) (r := cX12_split_r2) cX12_split_s1 (by decide +kernel)
theorem cX12_split_k1 : dw_ok cX12_split (ByteArray.mk cX12_split_w1.toArray) 24 := dw_Sw (r := cX12_split_r2) cX12_split_s1
theorem cX12_split_s3 : dw_S cX12_split 73 cX12_split_r3 := dw_Sn (w := cX12_split_w2) (r := cX12_split_r3) cX12_split_s2 (by decide +kernel)
theorem cX12_split_k2 : dw_ok cX12_split (ByteArray.mk cX12_split_w2.toArray) 48 := dw_Sw (r := cX12_split_r3) cX12_split_s2
theorem cX12_split_s4 : dw_S cX12_split 98 cX12_split_r4 := dw_Sn (w := cX12_split_w3) (r := cX12_split_r4) cX12_split_s3 (by decide +kernel)
theorem cX12_split_k3 : dw_ok cX12_split (ByteArray.mk cX12_split_w3.toArray) 73 := dw_Sw (r := cX12_split_r4) cX12_split_s3
theorem cX12_split_s5 : dw_S cX12_split 122 cX12_split_r5 := dw_Sn (w := cX12_split_w4) (r := cX12_split_r5) cX12_split_s4 (by decide +kernel)
theorem cX12_split_k4 : dw_ok cX12_split (ByteArray.mk cX12_split_w4.toArray) 98 := dw_Sw (r := cX12_split_r5) cX12_split_s4
theorem cX12_split_s6 : dw_S cX12_split 146 cX12_split_r6 := dw_Sn (w := cX12_split_w5) (r := cX12_split_r6) cX12_split_s5 (by decide +kernel)
theorem cX12_split_k5 : dw_ok cX12_split (ByteArray.mk cX12_split_w5.toArray) 122 := dw_Sw (r := cX12_split_r6) cX12_split_s5
theorem cX12_split_k6 : dw_ok cX12_split (ByteArray.mk cX12_split_w6.toArray) 146 := dw_Sw (r := []) cX12_split_s6
def cX12_walk_w9 : List UInt8 := [0x68, 0x04, 0x60, 0x3d, 0xa7, 0xff, 0x62, 0x2a, 0x59, 0xb4, 0x00, 0x48, 0x04, 0x60, 0xb5, 0x00, 0x48, 0x84, 0x01, 0x01, 0xa7, 0xff, 0x32, 0xb1]
def cX12_walk_r9 : List UInt8 := cX12_walk_w9 ++ []
def cX12_walk_w8 : List UInt8 := [0x1d, 0x2e, 0x36, 0x06, 0x15, 0x05, 0x9a, 0x00, 0x0a, 0x05, 0x15, 0x06, 0x68, 0xa7, 0x00, 0x0e, 0x05, 0x2a, 0xb4, 0x00, 0x21, 0x15, 0x06, 0x2e]
def cX12_walk_r8 : List UInt8 := cX12_walk_w8 ++ cX12_walk_r9
def cX12_walk_w7 : List UInt8 := [0x36, 0x04, 0x15, 0x04, 0x99, 0x00, 0x09, 0x1c, 0x04, 0x7e, 0xa7, 0x00, 0x08, 0x04, 0x1c, 0x04, 0x7e, 0x64, 0x36, 0x05, 0x2a, 0xb4, 0x00, 0x18]
def cX12_walk_r7 : List UInt8 := cX12_walk_w7 ++ cX12_walk_r8
def cX12_walk_w6 : List UInt8 := [0x2e, 0x04, 0xa0, 0x00, 0x15, 0x2a, 0xb4, 0x00, 0x15, 0x2a, 0xb4, 0x00, 0x0f, 0x1d, 0x2e, 0x2e, 0x9c, 0x00, 0x07, 0x04, 0xa7, 0x00, 0x04, 0x03]
def cX12_walk_r6 : List UInt8 := cX12_walk_w6 ++ cX12_walk_r7
def cX12_walk_w5 : List UInt8 := [0x1d, 0x2e, 0x9a, 0x00, 0x11, 0x2a, 0xb4, 0x00, 0x15, 0x2a, 0xb4, 0x00, 0x0f, 0x1d, 0x2e, 0x2e, 0x9d, 0x00, 0x1b, 0x2a, 0xb4, 0x00, 0x12, 0x1d]
def cX12_walk_r5 : List UInt8 := cX12_walk_w5 ++ cX12_walk_r6
def cX12_walk_w4 : List UInt8 := [0x04, 0x7e, 0x9a, 0x00, 0x0e, 0x2a, 0xb4, 0x00, 0x1e, 0x1c, 0x04, 0x7a, 0x2e, 0xa7, 0x00, 0x06, 0x1c, 0x04, 0x7a, 0x3e, 0x2a, 0xb4, 0x00, 0x12]
def cX12_walk_r4 : List UInt8 := cX12_walk_w4 ++ cX12_walk_r5
def cX12_walk_w3 : List UInt8 := [0x2a, 0xb4, 0x00, 0x2a, 0x1c, 0x2a, 0xb4, 0x00, 0x48, 0x4f, 0x2a, 0xb4, 0x00, 0x2d, 0x2a, 0xb4, 0x00, 0x48, 0x5c, 0x2e, 0x04, 0x60, 0x4f, 0x1c]
def cX12_walk_r3 : List UInt8 := cX12_walk_w3 ++ cX12_walk_r4
def cX12_walk_w2 : List UInt8 := [0xa0, 0x00, 0xba, 0x2a, 0xb4, 0x00, 0x2d, 0x2a, 0xb4, 0x00, 0x48, 0x03, 0x4f, 0x1b, 0x3d, 0x2a, 0xb4, 0x00, 0x2a, 0x1c, 0x2e, 0x02, 0xa0, 0x00, 0x9a]
def cX12_walk_r2 : List UInt8 := cX12_walk_w2 ++ cX12_walk_r3
def cX12_walk_w1 : List UInt8 := [0x2a, 0x03, 0xb5, 0x00, 0x48, 0x03, 0x3c, 0x1b, 0x05, 0x2a, 0xb4, 0x00, 0x30, 0x68, 0xa2, 0x00, 0xca, 0x2a, 0xb4, 0x00, 0x2a, 0x1b, 0x2e, 0x02]
def cX12_walk_r1 : List UInt8 := cX12_walk_w1 ++ cX12_walk_r2
def cX12_walk_w0 : List UInt8 := [0x03, 0x3c, 0x1b, 0x05, 0x2a, 0xb4, 0x00, 0x30, 0x68, 0xa2, 0x00, 0x10, 0x2a, 0xb4, 0x00, 0x2a, 0x1b, 0x02, 0x4f, 0x84, 0x01, 0x01, 0xa7, 0xff, 0xec]
def cX12_walk_r0 : List UInt8 := cX12_walk_w0 ++ cX12_walk_r1
theorem cX12_walk_s0 : dw_S cX12_walk 0 cX12_walk_r0 := dw_S0 (by decide +kernel)
theorem cX12_walk_s1 : dw_S cX12_walk 25 cX12_walk_r1 := dw_Sn (w := cX12_walk_w0) (r := cX12_walk_r1) cX12_walk_s0 (by decide +kernel)
theorem cX12_walk_k0 : dw_ok cX12_walk (ByteArray.mk cX12_walk_w0.toArray) 0 := dw_Sw (r := cX12_walk_r1) cX12_walk_s0
theorem cX12_walk_s2 : dw_S cX12_walk 49 cX12_walk_r2 := dw_Sn (w := cX12_walk_w1) (r := cX12_walk_r2) cX12_walk_s1 (by decide +kernel)
theorem cX12_walk_k1 : dw_ok cX12_walk (ByteArray.mk cX12_walk_w1.toArray) 25 := dw_Sw (r := cX12_walk_r2) cX12_walk_s1
theorem cX12_walk_s3 : dw_S cX12_walk 74 cX12_walk_r3 := dw_Sn (w := cX12_walk_w2) (r := cX12_walk_r3) cX12_walk_s2 (by decide +kernel)
theorem cX12_walk_k2 : dw_ok cX12_walk (ByteArray.mk cX12_walk_w2.toArray) 49 := dw_Sw (r := cX12_walk_r3) cX12_walk_s2
theorem cX12_walk_s4 : dw_S cX12_walk 98 cX12_walk_r4 := dw_Sn (w := cX12_walk_w3) (r := cX12_walk_r4) cX12_walk_s3 (by decide +kernel)
theorem cX12_walk_k3 : dw_ok cX12_walk (ByteArray.mk cX12_walk_w3.toArray) 74 := dw_Sw (r := cX12_walk_r4) cX12_walk_s3
theorem cX12_walk_s5 : dw_S cX12_walk 122 cX12_walk_r5 := dw_Sn (w := cX12_walk_w4) (r := cX12_walk_r5) cX12_walk_s4 (by decide +kernel)
theorem cX12_walk_k4 : dw_ok cX12_walk (ByteArray.mk cX12_walk_w4.toArray) 98 := dw_Sw (r := cX12_walk_r5) cX12_walk_s4
theorem cX12_walk_s6 : dw_S cX12_walk 146 cX12_walk_r6 := dw_Sn (w := cX12_walk_w5) (r := cX12_walk_r6) cX12_walk_s5 (by decide +kernel)
theorem cX12_walk_k5 : dw_ok cX12_walk (ByteArray.mk cX12_walk_w5.toArray) 122 := dw_Sw (r := cX12_walk_r6) cX12_walk_s5
theorem cX12_walk_s7 : dw_S cX12_walk 170 cX12_walk_r7 := dw_Sn (w := cX12_walk_w6) (r := cX12_walk_r7) cX12_walk_s6 (by decide +kernel)
theorem cX12_walk_k6 : dw_ok cX12_walk (ByteArray.mk cX12_walk_w6.toArray) 146 := dw_Sw (r := cX12_walk_r7) cX12_walk_s6
theorem cX12_walk_s8 : dw_S cX12_walk 194 cX12_walk_r8 := dw_Sn (w := cX12_walk_w7) (r := cX12_walk_r8) cX12_walk_s7 (by decide +kernel)
theorem cX12_walk_k7 : dw_ok cX12_walk (ByteArray.mk cX12_walk_w7.toArray) 170 := dw_Sw (r := cX12_walk_r8) cX12_walk_s7
theorem cX12_walk_s9 : dw_S cX12_walk 218 cX12_walk_r9 := dw_Sn (w := cX12_walk_w8) (r := cX12_walk_r9) cX12_walk_s8 (by decide +kernel)
theorem cX12_walk_k8 : dw_ok cX12_walk (ByteArray.mk cX12_walk_w8.toArray) 194 := dw_Sw (r := cX12_walk_r9) cX12_walk_s8
theorem cX12_walk_k9 : dw_ok cX12_walk (ByteArray.mk cX12_walk_w9.toArray) 218 := dw_Sw (r := []) cX12_walk_s9
def cX13_addNet_w4 : List UInt8 := [0x1d, 0x2e, 0x4f, 0x84, 0x03, 0x01, 0xa7, 0xff, 0xe2, 0xb1]
def cX13_addNet_r4 : List UInt8 := cX13_addNet_w4 ++ []
def cX13_addNet_w3 : List UInt8 := [0x03, 0x3e, 0x1d, 0x2b, 0xb4, 0x00, 0x2c, 0x05, 0x6c, 0xa2, 0x00, 0x1a, 0x2a, 0xb4, 0x00, 0x79, 0xb4, 0x00, 0x23, 0x1d, 0x1c, 0x60, 0x2b, 0xb4, 0x00, 0x23]
def cX13_addNet_r3 : List UInt8 := cX13_addNet_w3 ++ cX13_addNet_r4
def cX13_addNet_w2 : List UInt8 := [0x15, 0x04, 0x2e, 0xb6, 0x00, 0x61, 0x84, 0x04, 0x01, 0xa7, 0xff, 0xd9, 0x2a, 0xb4, 0x00, 0x79, 0xb6, 0x00, 0x5e, 0x84, 0x03, 0x01, 0xa7, 0xff, 0xbc]
def cX13_addNet_r2 : List UInt8 := cX13_addNet_w2 ++ cX13_addNet_r3
def cX13_addNet_w1 : List UInt8 := [0x1d, 0x04, 0x60, 0x2e, 0xa2, 0x00, 0x20, 0x2a, 0xb4, 0x00, 0x79, 0x2b, 0xb4, 0x00, 0x17, 0x15, 0x04, 0x2e, 0x1c, 0x60, 0x2b, 0xb4, 0x00, 0x20]
def cX13_addNet_r1 : List UInt8 := cX13_addNet_w1 ++ cX13_addNet_r2
def cX13_addNet_w0 : List UInt8 := [0x03, 0x3e, 0x1d, 0x2b, 0xb4, 0x01, 0x97, 0xa2, 0x00, 0x42, 0x2b, 0xb4, 0x01, 0xc4, 0x1d, 0x2e, 0x36, 0x04, 0x15, 0x04, 0x2b, 0xb4, 0x01, 0xc4]
def cX13_addNet_r0 : List UInt8 := cX13_addNet_w0 ++ cX13_addNet_r1
theorem cX13_addNet_s0 : dw_S cX13_addNet 0 cX13_addNet_r0 := dw_S0 (by decide +kernel)
theorem cX13_addNet_s1 : dw_S cX13_addNet 24 cX13_addNet_r1 := dw_Sn (w := cX13_addNet_w0) (r := cX13_addNet_r1) cX13_addNet_s0 (by decide +kernel)
theorem cX13_addNet_k0 : dw_ok cX13_addNet (ByteArray.mk cX13_addNet_w0.toArray) 0 := dw_Sw (r := cX13_addNet_r1) cX13_addNet_s0
theorem cX13_addNet_s2 : dw_S cX13_addNet 48 cX13_addNet_r2 := dw_Sn (w := cX13_addNet_w1) (r := cX13_addNet_r2) cX13_addNet_s1 (by decide +kernel)
theorem cX13_addNet_k1 : dw_ok cX13_addNet (ByteArray.mk cX13_addNet_w1.toArray) 24 := dw_Sw (r := cX13_addNet_r2) cX13_addNet_s1
theorem cX13_addNet_s3 : dw_S cX13_addNet 73 cX13_addNet_r3 := dw_Sn (w := cX13_addNet_w2) (r := cX13_addNet_r3) cX13_addNet_s2 (by decide +kernel)
theorem cX13_addNet_k2 : dw_ok cX13_addNet (ByteArray.mk cX13_addNet_w2.toArray) 48 := dw_Sw (r := cX13_addNet_r3) cX13_addNet_s2
theorem cX13_addNet_s4 : dw_S cX13_addNet 99 cX13_addNet_r4 := dw_Sn (w := cX13_addNet_w3) (r := cX13_addNet_r4) cX13_addNet_s3 (by decide +kernel)
theorem cX13_addNet_k3 : dw_ok cX13_addNet (ByteArray.mk cX13_addNet_w3.toArray) 73 := dw_Sw (r := cX13_addNet_r4) cX13_addNet_s3
theorem cX13_addNet_k4 : dw_ok cX13_addNet (ByteArray.mk cX13_addNet_w4.toArray) 99 := dw_Sw (r := []) cX13_addNet_s4
def cX13_addSummand_w4 : List UInt8 := [0xa7, 0xff, 0xcb, 0x2a, 0xb4, 0x00, 0xb0, 0x1c, 0x2a, 0xb4, 0x02, 0x29, 0x4f, 0x2a, 0x59, 0xb4, 0x02, 0x29, 0x04, 0x60, 0xb5, 0x02, 0x29, 0xb1]
def cX13_addSummand_r4 : List UInt8 := cX13_addSummand_w4 ++ []
def cX13_addSummand_w3 : List UInt8 := [0x2e, 0x68, 0xb8, 0x01, 0xe8, 0x99, 0x00, 0x17, 0x2a, 0xb4, 0x00, 0xb0, 0x1c, 0x2a, 0xb4, 0x00, 0xb0, 0x1c, 0x04, 0x64, 0x2e, 0x4f, 0x84, 0x02, 0xff]
def cX13_addSummand_r3 : List UInt8 := cX13_addSummand_w3 ++ cX13_addSummand_r4
def cX13_addSummand_w2 : List UInt8 := [0x2a, 0xb4, 0x00, 0xa7, 0x10, 0x20, 0x2a, 0xb4, 0x02, 0x29, 0x68, 0x2a, 0xb4, 0x00, 0xa7, 0x10, 0x20, 0x2a, 0xb4, 0x00, 0xb0, 0x1c, 0x04, 0x64]
def cX13_addSummand_r2 : List UInt8 := cX13_addSummand_w2 ++ cX13_addSummand_r3
def cX13_addSummand_w1 : List UInt8 := [0x60, 0x2a, 0xb4, 0x00, 0xaa, 0x1b, 0x1c, 0x60, 0x2e, 0x4f, 0x84, 0x02, 0x01, 0xa7, 0xff, 0xdd, 0x2a, 0xb4, 0x02, 0x29, 0x3d, 0x1c, 0x9e, 0x00, 0x37]
def cX13_addSummand_r1 : List UInt8 := cX13_addSummand_w1 ++ cX13_addSummand_r2
def cX13_addSummand_w0 : List UInt8 := [0x03, 0x3d, 0x1c, 0x2a, 0xb4, 0x00, 0xaa, 0x1b, 0x2e, 0xa3, 0x00, 0x1f, 0x2a, 0xb4, 0x00, 0xa7, 0x10, 0x20, 0x2a, 0xb4, 0x02, 0x29, 0x68, 0x1c]
def cX13_addSummand_r0 : List UInt8 := cX13_addSummand_w0 ++ cX13_addSummand_r1
theorem cX13_addSummand_s0 : dw_S cX13_addSummand 0 cX13_addSummand_r0 := dw_S0 (by decide +kernel)
theorem cX13_addSummand_s1 : dw_S cX13_addSummand 24 cX13_addSummand_r1 := dw_Sn (w := cX13_addSummand_w0) (r := cX13_addSummand_r1) cX13_addSummand_s0 (by decide +kernel)
theorem cX13_addSummand_k0 : dw_ok cX13_addSummand (ByteArray.mk cX13_addSummand_w0.toArray) 0 := dw_Sw (r := cX13_addSummand_r1) cX13_addSummand_s0
theorem cX13_addSummand_s2 : dw_S cX13_addSummand 49 cX13_addSummand_r2 := dw_Sn (w := cX13_addSummand_w1) (r := cX13_addSummand_r2) cX13_addSummand_s1 (by decide +kernel)
theorem cX13_addSummand_k1 : dw_ok cX13_addSummand (ByteArray.mk cX13_addSummand_w1.toArray) 24 := dw_Sw (r := cX13_addSummand_r2) cX13_addSummand_s1
theorem cX13_addSummand_s3 : dw_S cX13_addSummand 73 cX13_addSummand_r3 := dw_Sn (w := cX13_addSummand_w2) (r := cX13_addSummand_r3) cX13_addSummand_s2 (by decide +kernel)
theorem cX13_addSummand_k2 : dw_ok cX13_addSummand (ByteArray.mk cX13_addSummand_w2.toArray) 49 := dw_Sw (r := cX13_addSummand_r3) cX13_addSummand_s2
theorem cX13_addSummand_s4 : dw_S cX13_addSummand 98 cX13_addSummand_r4 := dw_Sn (w := cX13_addSummand_w3) (r := cX13_addSummand_r4) cX13_addSummand_s3 (by decide +kernel)
theorem cX13_addSummand_k3 : dw_ok cX13_addSummand (ByteArray.mk cX13_addSummand_w3.toArray) 73 := dw_Sw (r := cX13_addSummand_r4) cX13_addSummand_s3
theorem cX13_addSummand_k4 : dw_ok cX13_addSummand (ByteArray.mk cX13_addSummand_w4.toArray) 98 := dw_Sw (r := []) cX13_addSummand_s4
def cX13_alike_w1 : List UInt8 := [0x10, 0x20, 0x1b, 0x68, 0x2a, 0xb4, 0x00, 0x6e, 0x10, 0x20, 0x1c, 0x68, 0xb8, 0x01, 0xbd, 0x99, 0x00, 0x07, 0x04, 0xa7, 0x00, 0x04, 0x03, 0xac]
def cX13_alike_r1 : List UInt8 := cX13_alike_w1 ++ []
def cX13_alike_w0 : List UInt8 := [0x2a, 0x03, 0xb5, 0x00, 0x01, 0x2a, 0x1b, 0xb6, 0x01, 0xa7, 0x99, 0x00, 0x25, 0x2a, 0x1c, 0xb6, 0x01, 0xa7, 0x99, 0x00, 0x1d, 0x2a, 0xb4, 0x00, 0x6e]
def cX13_alike_r0 : List UInt8 := cX13_alike_w0 ++ cX13_alike_r1
theorem cX13_alike_s0 : dw_S cX13_alike 0 cX13_alike_r0 := dw_S0 (by decide +kernel)
theorem cX13_alike_s1 : dw_S cX13_alike 25 cX13_alike_r1 := dw_Sn (w := cX13_alike_w0) (r := cX13_alike_r1) cX13_alike_s0 (by decide +kernel)
theorem cX13_alike_k0 : dw_ok cX13_alike (ByteArray.mk cX13_alike_w0.toArray) 0 := dw_Sw (r := cX13_alike_r1) cX13_alike_s0
theorem cX13_alike_k1 : dw_ok cX13_alike (ByteArray.mk cX13_alike_w1.toArray) 25 := dw_Sw (r := []) cX13_alike_s1
def cX13_allForms_w9 : List UInt8 := [0x84, 0x03, 0x01, 0xa7, 0xff, 0x3e, 0x84, 0x02, 0x01, 0xa7, 0xff, 0x2e, 0x04, 0xac]
def cX13_allForms_r9 : List UInt8 := cX13_allForms_w9 ++ []
def cX13_allForms_w8 : List UInt8 := [0x2a, 0xb4, 0x01, 0x73, 0x10, 0x28, 0x2a, 0xb4, 0x03, 0x0c, 0x68, 0xb6, 0x02, 0xfe, 0x2a, 0x59, 0xb4, 0x03, 0x0c, 0x04, 0x60, 0xb5, 0x03, 0x0c]
def cX13_allForms_r8 : List UInt8 := cX13_allForms_w8 ++ cX13_allForms_r9
def cX13_allForms_w7 : List UInt8 := [0x2a, 0x2a, 0xb4, 0x01, 0x76, 0xb6, 0x03, 0x0f, 0x9a, 0x00, 0x28, 0x2a, 0xb4, 0x03, 0x0c, 0x11, 0x00, 0xc8, 0xa0, 0x00, 0x05, 0x03, 0xac, 0x2a]
def cX13_allForms_r7 : List UInt8 := cX13_allForms_w7 ++ cX13_allForms_r8
def cX13_allForms_w6 : List UInt8 := [0xa0, 0x00, 0x49, 0x2a, 0xb4, 0x02, 0xef, 0x2a, 0xb4, 0x01, 0x73, 0x04, 0x2e, 0xa0, 0x00, 0x3c, 0x2a, 0x2a, 0xb4, 0x01, 0x76, 0x03, 0xb6, 0x02, 0xfe]
def cX13_allForms_r6 : List UInt8 := cX13_allForms_w6 ++ cX13_allForms_r7
def cX13_allForms_w5 : List UInt8 := [0x1b, 0x1d, 0xb6, 0x02, 0xf5, 0x2a, 0x1b, 0x15, 0x04, 0x04, 0x64, 0xb6, 0x02, 0xf8, 0x2a, 0xb4, 0x02, 0xec, 0x2a, 0xb4, 0x01, 0x73, 0x03, 0x2e]
def cX13_allForms_r5 : List UInt8 := cX13_allForms_w5 ++ cX13_allForms_r6
def cX13_allForms_w4 : List UInt8 := [0x2a, 0xb4, 0x01, 0x73, 0x10, 0x28, 0x1c, 0x68, 0x05, 0x60, 0x15, 0x05, 0x60, 0x2e, 0xb6, 0x02, 0xf5, 0x84, 0x05, 0x01, 0xa7, 0xff, 0xda, 0x2a]
def cX13_allForms_r4 : List UInt8 := cX13_allForms_w4 ++ cX13_allForms_r5
def cX13_allForms_w3 : List UInt8 := [0xb6, 0x02, 0xf5, 0x03, 0x36, 0x05, 0x15, 0x05, 0x2a, 0xb4, 0x01, 0x73, 0x10, 0x28, 0x1c, 0x68, 0x04, 0x60, 0x2e, 0xa2, 0x00, 0x1c, 0x2a, 0x1b]
def cX13_allForms_r3 : List UInt8 := cX13_allForms_w3 ++ cX13_allForms_r4
def cX13_allForms_w2 : List UInt8 := [0x03, 0xb5, 0x02, 0xe6, 0x2a, 0x1b, 0x2a, 0x1b, 0x2a, 0xb4, 0x01, 0x58, 0x10, 0x78, 0x1b, 0x68, 0x1d, 0x60, 0x2e, 0x15, 0x04, 0xb6, 0x03, 0x05]
def cX13_allForms_r2 : List UInt8 := cX13_allForms_w2 ++ cX13_allForms_r3
def cX13_allForms_w1 : List UInt8 := [0x04, 0x3e, 0x1d, 0x2a, 0xb4, 0x01, 0x49, 0x1b, 0x2e, 0xa2, 0x00, 0xbe, 0x2a, 0xb4, 0x01, 0x73, 0x10, 0x28, 0x1c, 0x68, 0x2e, 0x36, 0x04, 0x2a]
def cX13_allForms_r1 : List UInt8 := cX13_allForms_w1 ++ cX13_allForms_r2
def cX13_allForms_w0 : List UInt8 := [0x2a, 0x2a, 0xb4, 0x01, 0x73, 0x03, 0xb6, 0x02, 0xfe, 0x2a, 0x04, 0xb5, 0x03, 0x0c, 0x03, 0x3d, 0x1c, 0x2a, 0xb4, 0x03, 0x0c, 0xa2, 0x00, 0xd0]
def cX13_allForms_r0 : List UInt8 := cX13_allForms_w0 ++ cX13_allForms_r1
theorem cX13_allForms_s0 : dw_S cX13_allForms 0 cX13_allForms_r0 := dw_S0 (by decide +kernel)
theorem cX13_allForms_s1 : dw_S cX13_allForms 24 cX13_allForms_r1 := dw_Sn (w := cX13_allForms_w0) (r := cX13_allForms_r1) cX13_allForms_s0 (by decide +kernel)
theorem cX13_allForms_k0 : dw_ok cX13_allForms (ByteArray.mk cX13_allForms_w0.toArray) 0 := dw_Sw (r := cX13_allForms_r1) cX13_allForms_s0
theorem cX13_allForms_s2 : dw_S cX13_allForms 48 cX13_allForms_r2 := dw_Sn (w := cX13_allForms_w1) (r := cX13_allForms_r2) cX13_allForms_s1 (by decide +kernel)
theorem cX13_allForms_k1 : dw_ok cX13_allForms (ByteArray.mk cX13_allForms_w1.toArray) 24 := dw_Sw (r := cX13_allForms_r2) cX13_allForms_s1
theorem cX13_allForms_s3 : dw_S cX13_allForms 72 cX13_allForms_r3 := dw_Sn (w := cX13_allForms_w2) (r := cX13_allForms_r3) cX13_allForms_s2 (by decide +kernel)
theorem cX13_allForms_k2 : dw_ok cX13_allForms (ByteArray.mk cX13_allForms_w2.toArray) 48 := dw_Sw (r := cX13_allForms_r3) cX13_allForms_s2
theorem cX13_allForms_s4 : dw_S cX13_allForms 96 cX13_allForms_r4 := dw_Sn (w := cX13_allForms_w3) (r := cX13_allForms_r4) cX13_allForms_s3 (by decide +kernel)
theorem cX13_allForms_k3 : dw_ok cX13_allForms (ByteArray.mk cX13_allForms_w3.toArray) 72 := dw_Sw (r := cX13_allForms_r4) cX13_allForms_s3
theorem cX13_allForms_s5 : dw_S cX13_allForms 120 cX13_allForms_r5 := dw_Sn (w := cX13_allForms_w4) (r := cX13_allForms_r5) cX13_allForms_s4 (by decide +kernel)
theorem cX13_allForms_k4 : dw_ok cX13_allForms (ByteArray.mk cX13_allForms_w4.toArray) 96 := dw_Sw (r := cX13_allForms_r5) cX13_allForms_s4
theorem cX13_allForms_s6 : dw_S cX13_allForms 144 cX13_allForms_r6 := dw_Sn (w := cX13_allForms_w5) (r := cX13_allForms_r6) cX13_allForms_s5 (by decide +kernel)
theorem cX13_allForms_k5 : dw_ok cX13_allForms (ByteArray.mk cX13_allForms_w5.toArray) 120 := dw_Sw (r := cX13_allForms_r6) cX13_allForms_s5
theorem cX13_allForms_s7 : dw_S cX13_allForms 169 cX13_allForms_r7 := dw_Sn (w := cX13_allForms_w6) (r := cX13_allForms_r7) cX13_allForms_s6 (by decide +kernel)
theorem cX13_allForms_k6 : dw_ok cX13_allForms (ByteArray.mk cX13_allForms_w6.toArray) 144 := dw_Sw (r := cX13_allForms_r7) cX13_allForms_s6
theorem cX13_allForms_s8 : dw_S cX13_allForms 193 cX13_allForms_r8 := dw_Sn (w := cX13_allForms_w7) (r := cX13_allForms_r8) cX13_allForms_s7 (by decide +kernel)
theorem cX13_allForms_k7 : dw_ok cX13_allForms (ByteArray.mk cX13_allForms_w7.toArray) 169 := dw_Sw (r := cX13_allForms_r8) cX13_allForms_s7
theorem cX13_allForms_s9 : dw_S cX13_allForms 217 cX13_allForms_r9 := dw_Sn (w := cX13_allForms_w8) (r := cX13_allForms_r9) cX13_allForms_s8 (by decide +kernel)
theorem cX13_allForms_k8 : dw_ok cX13_allForms (ByteArray.mk cX13_allForms_w8.toArray) 193 := dw_Sw (r := cX13_allForms_r9) cX13_allForms_s8
theorem cX13_allForms_k9 : dw_ok cX13_allForms (ByteArray.mk cX13_allForms_w9.toArray) 217 := dw_Sw (r := []) cX13_allForms_s9
def cX13_apart_w5 : List UInt8 := [0x2a, 0xb4, 0x00, 0x72, 0xb4, 0x00, 0x2c, 0x05, 0x6c, 0xb6, 0x01, 0xce, 0x2a, 0xb6, 0x01, 0xa4, 0xac]
def cX13_apart_r5 : List UInt8 := cX13_apart_w5 ++ []
def cX13_apart_w4 : List UInt8 := [0x06, 0xb6, 0x01, 0x93, 0xac, 0x2a, 0xb4, 0x00, 0x79, 0xb6, 0x00, 0x5b, 0x2a, 0x2a, 0xb4, 0x00, 0x72, 0x03, 0xb6, 0x01, 0xce, 0x2a, 0x2a, 0xb4, 0x00, 0x76]
def cX13_apart_r4 : List UInt8 := cX13_apart_w4 ++ cX13_apart_r5
def cX13_apart_w3 : List UInt8 := [0xb4, 0x01, 0x97, 0x60, 0x10, 0x06, 0xa4, 0x00, 0x09, 0x2a, 0x05, 0xb6, 0x01, 0x93, 0xac, 0x2a, 0xb6, 0x01, 0x88, 0x02, 0xa0, 0x00, 0x09, 0x2a]
def cX13_apart_r3 : List UInt8 := cX13_apart_w3 ++ cX13_apart_r4
def cX13_apart_w2 : List UInt8 := [0x2a, 0xb4, 0x00, 0x76, 0xb4, 0x00, 0x2c, 0x60, 0x10, 0x18, 0xa3, 0x00, 0x17, 0x2a, 0xb4, 0x00, 0x72, 0xb4, 0x01, 0x97, 0x2a, 0xb4, 0x00, 0x76]
def cX13_apart_r2 : List UInt8 := cX13_apart_w2 ++ cX13_apart_r3
def cX13_apart_w1 : List UInt8 := [0xac, 0x2a, 0x1b, 0x2a, 0xb4, 0x00, 0x72, 0xb6, 0x01, 0xb2, 0x2a, 0x1c, 0x2a, 0xb4, 0x00, 0x76, 0xb6, 0x01, 0xb2, 0x2a, 0xb4, 0x00, 0x72, 0xb4, 0x00, 0x2c]
def cX13_apart_r1 : List UInt8 := cX13_apart_w1 ++ cX13_apart_r2
def cX13_apart_w0 : List UInt8 := [0x2a, 0x03, 0xb5, 0x00, 0x01, 0x2a, 0x1b, 0xb6, 0x01, 0xa7, 0x99, 0x00, 0x0b, 0x2a, 0x1c, 0xb6, 0x01, 0xa7, 0x9a, 0x00, 0x09, 0x2a, 0x04, 0xb6, 0x01, 0x93]
def cX13_apart_r0 : List UInt8 := cX13_apart_w0 ++ cX13_apart_r1
theorem cX13_apart_s0 : dw_S cX13_apart 0 cX13_apart_r0 := dw_S0 (by decide +kernel)
theorem cX13_apart_s1 : dw_S cX13_apart 26 cX13_apart_r1 := dw_Sn (w := cX13_apart_w0) (r := cX13_apart_r1) cX13_apart_s0 (by decide +kernel)
theorem cX13_apart_k0 : dw_ok cX13_apart (ByteArray.mk cX13_apart_w0.toArray) 0 := dw_Sw (r := cX13_apart_r1) cX13_apart_s0
theorem cX13_apart_s2 : dw_S cX13_apart 52 cX13_apart_r2 := dw_Sn (w := cX13_apart_w1) (r := cX13_apart_r2) cX13_apart_s1 (by decide +kernel)
theorem cX13_apart_k1 : dw_ok cX13_apart (ByteArray.mk cX13_apart_w1.toArray) 26 := dw_Sw (r := cX13_apart_r2) cX13_apart_s1
theorem cX13_apart_s3 : dw_S cX13_apart 76 cX13_apart_r3 := dw_Sn (w := cX13_apart_w2) (r := cX13_apart_r3) cX13_apart_s2 (by decide +kernel)
theorem cX13_apart_k2 : dw_ok cX13_apart (ByteArray.mk cX13_apart_w2.toArray) 52 := dw_Sw (r := cX13_apart_r3) cX13_apart_s2
theorem cX13_apart_s4 : dw_S cX13_apart 100 cX13_apart_r4 := dw_Sn (w := cX13_apart_w3) (r := cX13_apart_r4) cX13_apart_s3 (by decide +kernel)
theorem cX13_apart_k3 : dw_ok cX13_apart (ByteArray.mk cX13_apart_w3.toArray) 76 := dw_Sw (r := cX13_apart_r4) cX13_apart_s3
theorem cX13_apart_s5 : dw_S cX13_apart 126 cX13_apart_r5 := dw_Sn (w := cX13_apart_w4) (r := cX13_apart_r5) cX13_apart_s4 (by decide +kernel)
theorem cX13_apart_k4 : dw_ok cX13_apart (ByteArray.mk cX13_apart_w4.toArray) 100 := dw_Sw (r := cX13_apart_r5) cX13_apart_s4
theorem cX13_apart_k5 : dw_ok cX13_apart (ByteArray.mk cX13_apart_w5.toArray) 126 := dw_Sw (r := []) cX13_apart_s5
def cX13_append_w2 : List UInt8 := [0xb5, 0x02, 0xe6, 0x84, 0x04, 0x01, 0xa7, 0xff, 0xd3, 0xb1]
def cX13_append_r2 : List UInt8 := cX13_append_w2 ++ []
def cX13_append_w1 : List UInt8 := [0x2a, 0xb4, 0x02, 0xe6, 0x2a, 0xb4, 0x01, 0x4f, 0x10, 0x0a, 0x1d, 0x68, 0x15, 0x04, 0x60, 0x2e, 0x4f, 0x2a, 0x59, 0xb4, 0x02, 0xe6, 0x04, 0x60]
def cX13_append_r1 : List UInt8 := cX13_append_w1 ++ cX13_append_r2
def cX13_append_w0 : List UInt8 := [0x10, 0x78, 0x1b, 0x68, 0x1c, 0x60, 0x3e, 0x03, 0x36, 0x04, 0x15, 0x04, 0x2a, 0xb4, 0x01, 0x52, 0x1d, 0x2e, 0xa2, 0x00, 0x28, 0x2a, 0xb4, 0x01, 0x6a]
def cX13_append_r0 : List UInt8 := cX13_append_w0 ++ cX13_append_r1
theorem cX13_append_s0 : dw_S cX13_append 0 cX13_append_r0 := dw_S0 (by decide +kernel)
theorem cX13_append_s1 : dw_S cX13_append 25 cX13_append_r1 := dw_Sn (w := cX13_append_w0) (r := cX13_append_r1) cX13_append_s0 (by decide +kernel)
theorem cX13_append_k0 : dw_ok cX13_append (ByteArray.mk cX13_append_w0.toArray) 0 := dw_Sw (r := cX13_append_r1) cX13_append_s0
theorem cX13_append_s2 : dw_S cX13_append 49 cX13_append_r2 := dw_Sn (w := cX13_append_w1) (r := cX13_append_r2) cX13_append_s1 (by decide +kernel)
theorem cX13_append_k1 : dw_ok cX13_append (ByteArray.mk cX13_append_w1.toArray) 25 := dw_Sw (r := cX13_append_r2) cX13_append_s1
theorem cX13_append_k2 : dw_ok cX13_append (ByteArray.mk cX13_append_w2.toArray) 49 := dw_Sw (r := []) cX13_append_s2
def cX13_begins_w6 : List UInt8 := [0x2a, 0xb4, 0x01, 0x61, 0x15, 0x05, 0x2e, 0x3e, 0x84, 0x04, 0x01, 0xa7, 0xff, 0x76, 0x1d, 0x9a, 0x00, 0x07, 0x04, 0xa7, 0x00, 0x04, 0x03, 0xac]
def cX13_begins_r6 : List UInt8 := cX13_begins_w6 ++ []
def cX13_begins_w5 : List UInt8 := [0x10, 0x0a, 0x15, 0x06, 0x68, 0x15, 0x07, 0x60, 0x2e, 0x4f, 0x2a, 0x59, 0xb4, 0x02, 0xe9, 0x04, 0x60, 0xb5, 0x02, 0xe9, 0x84, 0x07, 0x01, 0xa7, 0xff, 0xd1]
def cX13_begins_r5 : List UInt8 := cX13_begins_w5 ++ cX13_begins_r6
def cX13_begins_w4 : List UInt8 := [0x36, 0x07, 0x15, 0x07, 0x2a, 0xb4, 0x01, 0x52, 0x15, 0x06, 0x2e, 0xa2, 0x00, 0x29, 0x2a, 0xb4, 0x01, 0x6d, 0x2a, 0xb4, 0x02, 0xe9, 0x2a, 0xb4, 0x01, 0x4f]
def cX13_begins_r4 : List UInt8 := cX13_begins_w4 ++ cX13_begins_r5
def cX13_begins_w3 : List UInt8 := [0xb4, 0x01, 0x6a, 0x15, 0x04, 0x2e, 0x60, 0x36, 0x05, 0x10, 0x78, 0x1b, 0x68, 0x2a, 0xb4, 0x01, 0x5e, 0x15, 0x05, 0x2e, 0x60, 0x36, 0x06, 0x03]
def cX13_begins_r3 : List UInt8 := cX13_begins_w3 ++ cX13_begins_r4
def cX13_begins_w2 : List UInt8 := [0x2e, 0x4f, 0x2a, 0x59, 0xb4, 0x02, 0xe9, 0x04, 0x60, 0xb5, 0x02, 0xe9, 0xa7, 0x00, 0x60, 0x07, 0x10, 0x78, 0x1b, 0x68, 0x1d, 0x60, 0x68, 0x2a]
def cX13_begins_r2 : List UInt8 := cX13_begins_w2 ++ cX13_begins_r3
def cX13_begins_w1 : List UInt8 := [0xb4, 0x02, 0xe6, 0xa2, 0x00, 0x87, 0x1d, 0x9a, 0x00, 0x20, 0x2a, 0xb4, 0x01, 0x6d, 0x2a, 0xb4, 0x02, 0xe9, 0x2a, 0xb4, 0x01, 0x6a, 0x15, 0x04]
def cX13_begins_r1 : List UInt8 := cX13_begins_w1 ++ cX13_begins_r2
def cX13_begins_w0 : List UInt8 := [0x2a, 0xb4, 0x01, 0x55, 0x11, 0x01, 0xe0, 0x1b, 0x68, 0x1c, 0x60, 0x2e, 0x3e, 0x2a, 0x03, 0xb5, 0x02, 0xe9, 0x03, 0x36, 0x04, 0x15, 0x04, 0x2a]
def cX13_begins_r0 : List UInt8 := cX13_begins_w0 ++ cX13_begins_r1
theorem cX13_begins_s0 : dw_S cX13_begins 0 cX13_begins_r0 := dw_S0 (by decide +kernel)
theorem cX13_begins_s1 : dw_S cX13_begins 24 cX13_begins_r1 := dw_Sn (w := cX13_begins_w0) (r := cX13_begins_r1) cX13_begins_s0 (by decide +kernel)
theorem cX13_begins_k0 : dw_ok cX13_begins (ByteArray.mk cX13_begins_w0.toArray) 0 := dw_Sw (r := cX13_begins_r1) cX13_begins_s0
theorem cX13_begins_s2 : dw_S cX13_begins 48 cX13_begins_r2 := dw_Sn (w := cX13_begins_w1) (r := cX13_begins_r2) cX13_begins_s1 (by decide +kernel)
theorem cX13_begins_k1 : dw_ok cX13_begins (ByteArray.mk cX13_begins_w1.toArray) 24 := dw_Sw (r := cX13_begins_r2) cX13_begins_s1
theorem cX13_begins_s3 : dw_S cX13_begins 72 cX13_begins_r3 := dw_Sn (w := cX13_begins_w2) (r := cX13_begins_r3) cX13_begins_s2 (by decide +kernel)
theorem cX13_begins_k2 : dw_ok cX13_begins (ByteArray.mk cX13_begins_w2.toArray) 48 := dw_Sw (r := cX13_begins_r3) cX13_begins_s2
theorem cX13_begins_s4 : dw_S cX13_begins 96 cX13_begins_r4 := dw_Sn (w := cX13_begins_w3) (r := cX13_begins_r4) cX13_begins_s3 (by decide +kernel)
theorem cX13_begins_k3 : dw_ok cX13_begins (ByteArray.mk cX13_begins_w3.toArray) 72 := dw_Sw (r := cX13_begins_r4) cX13_begins_s3
theorem cX13_begins_s5 : dw_S cX13_begins 122 cX13_begins_r5 := dw_Sn (w := cX13_begins_w4) (r := cX13_begins_r5) cX13_begins_s4 (by decide +kernel)
theorem cX13_begins_k4 : dw_ok cX13_begins (ByteArray.mk cX13_begins_w4.toArray) 96 := dw_Sw (r := cX13_begins_r5) cX13_begins_s4
theorem cX13_begins_s6 : dw_S cX13_begins 148 cX13_begins_r6 := dw_Sn (w := cX13_begins_w5) (r := cX13_begins_r6) cX13_begins_s5 (by decide +kernel)
theorem cX13_begins_k5 : dw_ok cX13_begins (ByteArray.mk cX13_begins_w5.toArray) 122 := dw_Sw (r := cX13_begins_r6) cX13_begins_s5
theorem cX13_begins_k6 : dw_ok cX13_begins (ByteArray.mk cX13_begins_w6.toArray) 148 := dw_Sw (r := []) cX13_begins_s6
def cX13_braid_w7 : List UInt8 := [0xb5, 0x01, 0x90, 0x1d, 0x02, 0x9f, 0x00, 0x07, 0x02, 0x1d, 0x64, 0xac, 0x2a, 0xb4, 0x01, 0x43, 0x1c, 0x15, 0x04, 0x4f, 0x2a, 0xb4, 0x01, 0x46, 0x1c, 0x1b, 0x4f, 0x1c, 0xac]
def cX13_braid_r7 : List UInt8 := cX13_braid_w7 ++ []
def cX13_braid_w6 : List UInt8 := [0x04, 0x60, 0xa7, 0x00, 0x07, 0x02, 0x15, 0x06, 0x64, 0x4f, 0x84, 0x04, 0x01, 0xa7, 0xff, 0x88, 0x2a, 0xb4, 0x01, 0x90, 0x36, 0x04, 0x2a, 0x03]
def cX13_braid_r6 : List UInt8 := cX13_braid_w6 ++ cX13_braid_r7
def cX13_braid_w5 : List UInt8 := [0x15, 0x04, 0x3e, 0xa7, 0x00, 0x1f, 0x2a, 0xb4, 0x01, 0x40, 0x10, 0x10, 0x1c, 0x68, 0x15, 0x04, 0x60, 0x15, 0x05, 0x9b, 0x00, 0x0a, 0x15, 0x05]
def cX13_braid_r5 : List UInt8 := cX13_braid_w5 ++ cX13_braid_r6
def cX13_braid_w4 : List UInt8 := [0x1b, 0x04, 0x64, 0xa2, 0x00, 0x07, 0x04, 0xa7, 0x00, 0x04, 0x03, 0x36, 0x07, 0x15, 0x04, 0x10, 0x10, 0x9f, 0x00, 0x08, 0x15, 0x07, 0x9a, 0x00, 0x09]
def cX13_braid_r4 : List UInt8 := cX13_braid_w4 ++ cX13_braid_r5
def cX13_braid_w3 : List UInt8 := [0x10, 0x41, 0x64, 0x36, 0x06, 0x15, 0x05, 0x9b, 0x00, 0x0b, 0x15, 0x05, 0x1b, 0x04, 0x64, 0xa1, 0x00, 0x10, 0x15, 0x06, 0x9b, 0x00, 0x0f, 0x15, 0x06]
def cX13_braid_r3 : List UInt8 := cX13_braid_w3 ++ cX13_braid_r4
def cX13_braid_w2 : List UInt8 := [0x1d, 0x02, 0xa0, 0x00, 0x70, 0x2a, 0xb4, 0x00, 0x6a, 0x15, 0x04, 0x33, 0x10, 0x61, 0x64, 0x36, 0x05, 0x2a, 0xb4, 0x00, 0x6a, 0x15, 0x04, 0x33]
def cX13_braid_r2 : List UInt8 := cX13_braid_w2 ++ cX13_braid_r3
def cX13_braid_w1 : List UInt8 := [0x3d, 0x1c, 0x02, 0xa0, 0x00, 0x09, 0x2a, 0x05, 0xb6, 0x01, 0x93, 0xac, 0x02, 0x3e, 0x03, 0x36, 0x04, 0x15, 0x04, 0x2a, 0xb4, 0x01, 0x90, 0xa2, 0x00, 0x75]
def cX13_braid_r1 : List UInt8 := cX13_braid_w1 ++ cX13_braid_r2
def cX13_braid_w0 : List UInt8 := [0x2a, 0x03, 0xb5, 0x00, 0x01, 0x1b, 0x05, 0xa1, 0x00, 0x08, 0x1b, 0x08, 0xa4, 0x00, 0x09, 0x2a, 0x04, 0xb6, 0x01, 0x93, 0xac, 0x2a, 0xb6, 0x02, 0xe0]
def cX13_braid_r0 : List UInt8 := cX13_braid_w0 ++ cX13_braid_r1
theorem cX13_braid_s0 : dw_S cX13_braid 0 cX13_braid_r0 := dw_S0 (by decide +kernel)
theorem cX13_braid_s1 : dw_S cX13_braid 25 cX13_braid_r1 := dw_Sn (w := cX13_braid_w0) (r := cX13_braid_r1) cX13_braid_s0 (by decide +kernel)
theorem cX13_braid_k0 : dw_ok cX13_braid (ByteArray.mk cX13_braid_w0.toArray) 0 := dw_Sw (r := cX13_braid_r1) cX13_braid_s0
theorem cX13_braid_s2 : dw_S cX13_braid 51 cX13_braid_r2 := dw_Sn (w := cX13_braid_w1) (r := cX13_braid_r2) cX13_braid_s1 (by decide +kernel)
theorem cX13_braid_k1 : dw_ok cX13_braid (ByteArray.mk cX13_braid_w1.toArray) 25 := dw_Sw (r := cX13_braid_r2) cX13_braid_s1
theorem cX13_braid_s3 : dw_S cX13_braid 75 cX13_braid_r3 := dw_Sn (w := cX13_braid_w2) (r := cX13_braid_r3) cX13_braid_s2 (by decide +kernel)
theorem cX13_braid_k2 : dw_ok cX13_braid (ByteArray.mk cX13_braid_w2.toArray) 51 := dw_Sw (r := cX13_braid_r3) cX13_braid_s2
theorem cX13_braid_s4 : dw_S cX13_braid 100 cX13_braid_r4 := dw_Sn (w := cX13_braid_w3) (r := cX13_braid_r4) cX13_braid_s3 (by decide +kernel)
theorem cX13_braid_k3 : dw_ok cX13_braid (ByteArray.mk cX13_braid_w3.toArray) 75 := dw_Sw (r := cX13_braid_r4) cX13_braid_s3
theorem cX13_braid_s5 : dw_S cX13_braid 125 cX13_braid_r5 := dw_Sn (w := cX13_braid_w4) (r := cX13_braid_r5) cX13_braid_s4 (by decide +kernel)
theorem cX13_braid_k4 : dw_ok cX13_braid (ByteArray.mk cX13_braid_w4.toArray) 100 := dw_Sw (r := cX13_braid_r5) cX13_braid_s4
theorem cX13_braid_s6 : dw_S cX13_braid 149 cX13_braid_r6 := dw_Sn (w := cX13_braid_w5) (r := cX13_braid_r6) cX13_braid_s5 (by decide +kernel)
theorem cX13_braid_k5 : dw_ok cX13_braid (ByteArray.mk cX13_braid_w5.toArray) 125 := dw_Sw (r := cX13_braid_r6) cX13_braid_s5
theorem cX13_braid_s7 : dw_S cX13_braid 173 cX13_braid_r7 := dw_Sn (w := cX13_braid_w6) (r := cX13_braid_r7) cX13_braid_s6 (by decide +kernel)
theorem cX13_braid_k6 : dw_ok cX13_braid (ByteArray.mk cX13_braid_w6.toArray) 149 := dw_Sw (r := cX13_braid_r7) cX13_braid_s6
theorem cX13_braid_k7 : dw_ok cX13_braid (ByteArray.mk cX13_braid_w7.toArray) 173 := dw_Sw (r := []) cX13_braid_s7
def cX13_build_w5 : List UInt8 := [0xa2, 0x00, 0x1a, 0x2a, 0xb4, 0x00, 0x79, 0xb4, 0x00, 0x23, 0x15, 0x04, 0x2b, 0xb4, 0x00, 0x23, 0x15, 0x04, 0x2e, 0x4f, 0x84, 0x04, 0x01, 0xa7, 0xff, 0xe1, 0xb1]
def cX13_build_r5 : List UInt8 := cX13_build_w5 ++ []
def cX13_build_w4 : List UInt8 := [0x2a, 0xb4, 0x00, 0x79, 0xb6, 0x00, 0x5e, 0x84, 0x04, 0x01, 0xa7, 0xff, 0x9d, 0x03, 0x36, 0x04, 0x15, 0x04, 0x2b, 0xb4, 0x00, 0x2c, 0x05, 0x6c]
def cX13_build_r4 : List UInt8 := cX13_build_w4 ++ cX13_build_r5
def cX13_build_w3 : List UInt8 := [0x2e, 0x2b, 0xb4, 0x00, 0x20, 0x15, 0x05, 0x2e, 0xb6, 0x00, 0x61, 0x2a, 0x15, 0x05, 0x1c, 0x1d, 0xb6, 0x01, 0xee, 0x84, 0x05, 0x01, 0xa7, 0xff, 0xd2]
def cX13_build_r3 : List UInt8 := cX13_build_w3 ++ cX13_build_r4
def cX13_build_w2 : List UInt8 := [0x15, 0x05, 0x2b, 0xb4, 0x01, 0xc4, 0x15, 0x04, 0x04, 0x60, 0x2e, 0xa2, 0x00, 0x26, 0x2a, 0xb4, 0x00, 0x79, 0x2b, 0xb4, 0x00, 0x17, 0x15, 0x05]
def cX13_build_r2 : List UInt8 := cX13_build_w2 ++ cX13_build_r3
def cX13_build_w1 : List UInt8 := [0x99, 0x00, 0x10, 0x2a, 0x2b, 0xb4, 0x00, 0x2c, 0x15, 0x04, 0x60, 0x1c, 0x1d, 0xb6, 0x01, 0xee, 0x2b, 0xb4, 0x01, 0xc4, 0x15, 0x04, 0x2e, 0x36, 0x05]
def cX13_build_r1 : List UInt8 := cX13_build_w1 ++ cX13_build_r2
def cX13_build_w0 : List UInt8 := [0x2a, 0xb4, 0x00, 0x79, 0xb6, 0x00, 0x5b, 0x03, 0x36, 0x04, 0x15, 0x04, 0x2b, 0xb4, 0x01, 0x97, 0xa2, 0x00, 0x60, 0x2b, 0x15, 0x04, 0xb6, 0x01, 0xab]
def cX13_build_r0 : List UInt8 := cX13_build_w0 ++ cX13_build_r1
theorem cX13_build_s0 : dw_S cX13_build 0 cX13_build_r0 := dw_S0 (by decide +kernel)
theorem cX13_build_s1 : dw_S cX13_build 25 cX13_build_r1 := dw_Sn (w := cX13_build_w0) (r := cX13_build_r1) cX13_build_s0 (by decide +kernel)
theorem cX13_build_k0 : dw_ok cX13_build (ByteArray.mk cX13_build_w0.toArray) 0 := dw_Sw (r := cX13_build_r1) cX13_build_s0
theorem cX13_build_s2 : dw_S cX13_build 50 cX13_build_r2 := dw_Sn (w := cX13_build_w1) (r := cX13_build_r2) cX13_build_s1 (by decide +kernel)
theorem cX13_build_k1 : dw_ok cX13_build (ByteArray.mk cX13_build_w1.toArray) 25 := dw_Sw (r := cX13_build_r2) cX13_build_s1
theorem cX13_build_s3 : dw_S cX13_build 74 cX13_build_r3 := dw_Sn (w := cX13_build_w2) (r := cX13_build_r3) cX13_build_s2 (by decide +kernel)
theorem cX13_build_k2 : dw_ok cX13_build (ByteArray.mk cX13_build_w2.toArray) 50 := dw_Sw (r := cX13_build_r3) cX13_build_s2
theorem cX13_build_s4 : dw_S cX13_build 99 cX13_build_r4 := dw_Sn (w := cX13_build_w3) (r := cX13_build_r4) cX13_build_s3 (by decide +kernel)
theorem cX13_build_k3 : dw_ok cX13_build (ByteArray.mk cX13_build_w3.toArray) 74 := dw_Sw (r := cX13_build_r4) cX13_build_s3
theorem cX13_build_s5 : dw_S cX13_build 123 cX13_build_r5 := dw_Sn (w := cX13_build_w4) (r := cX13_build_r5) cX13_build_s4 (by decide +kernel)
theorem cX13_build_k4 : dw_ok cX13_build (ByteArray.mk cX13_build_w4.toArray) 99 := dw_Sw (r := cX13_build_r5) cX13_build_s4
theorem cX13_build_k5 : dw_ok cX13_build (ByteArray.mk cX13_build_w5.toArray) 123 := dw_Sw (r := []) cX13_build_s5
def cX13_chain_w10 : List UInt8 := [0xa7, 0xff, 0xab, 0x84, 0x05, 0x01, 0xa7, 0xff, 0x72, 0x15, 0x04, 0xac]
def cX13_chain_r10 : List UInt8 := cX13_chain_w10 ++ []
def cX13_chain_w9 : List UInt8 := [0x2a, 0xb4, 0x01, 0x30, 0x10, 0x50, 0x15, 0x06, 0x68, 0x15, 0x05, 0x60, 0x15, 0x07, 0x4f, 0x15, 0x04, 0x15, 0x07, 0x60, 0x36, 0x04, 0x84, 0x06, 0x01]
def cX13_chain_r9 : List UInt8 := cX13_chain_w9 ++ cX13_chain_r10
def cX13_chain_w8 : List UInt8 := [0x9a, 0x00, 0x07, 0x03, 0xa7, 0x00, 0x12, 0x2a, 0xb4, 0x01, 0x2d, 0x10, 0x50, 0x15, 0x06, 0x04, 0x64, 0x68, 0x15, 0x05, 0x60, 0x2e, 0x64, 0x36, 0x07]
def cX13_chain_r8 : List UInt8 := cX13_chain_w8 ++ cX13_chain_r9
def cX13_chain_w7 : List UInt8 := [0x10, 0x50, 0x15, 0x06, 0x68, 0x15, 0x05, 0x60, 0x2e, 0x2a, 0xb4, 0x01, 0x2d, 0x10, 0x50, 0x15, 0x06, 0x68, 0x15, 0x05, 0x60, 0x2e, 0x64, 0x15, 0x06]
def cX13_chain_r7 : List UInt8 := cX13_chain_w7 ++ cX13_chain_r8
def cX13_chain_w6 : List UInt8 := [0x1c, 0xb6, 0x02, 0xce, 0x4f, 0x84, 0x06, 0x01, 0xa7, 0xff, 0xdd, 0x03, 0x36, 0x06, 0x15, 0x06, 0x1d, 0xa3, 0x00, 0x55, 0x2a, 0xb4, 0x01, 0x2a]
def cX13_chain_r6 : List UInt8 := cX13_chain_w6 ++ cX13_chain_r7
def cX13_chain_w5 : List UInt8 := [0xa2, 0x00, 0x23, 0x2a, 0xb4, 0x01, 0x2d, 0x10, 0x50, 0x15, 0x06, 0x68, 0x15, 0x05, 0x60, 0x2a, 0x2a, 0xb4, 0x00, 0x72, 0x15, 0x06, 0x15, 0x05]
def cX13_chain_r5 : List UInt8 := cX13_chain_w5 ++ cX13_chain_r6
def cX13_chain_w4 : List UInt8 := [0x2a, 0x1d, 0xb6, 0x02, 0xcb, 0x03, 0x36, 0x04, 0x03, 0x36, 0x05, 0x15, 0x05, 0x10, 0x50, 0xa2, 0x00, 0x8d, 0x03, 0x36, 0x06, 0x15, 0x06, 0x1d]
def cX13_chain_r4 : List UInt8 := cX13_chain_w4 ++ cX13_chain_r5
def cX13_chain_w3 : List UInt8 := [0xac, 0x2a, 0x1d, 0x2a, 0xb4, 0x00, 0x72, 0xb8, 0x01, 0xba, 0x64, 0x05, 0x6c, 0xb5, 0x02, 0xb2, 0x2a, 0x2a, 0xb4, 0x00, 0x72, 0xb6, 0x02, 0xc8]
def cX13_chain_r3 : List UInt8 := cX13_chain_w3 ++ cX13_chain_r4
def cX13_chain_w2 : List UInt8 := [0xb4, 0x00, 0x2c, 0x05, 0x6c, 0x3e, 0x1d, 0x2a, 0xb4, 0x00, 0x72, 0xb4, 0x00, 0x4e, 0x60, 0x10, 0x09, 0xa4, 0x00, 0x09, 0x2a, 0x06, 0xb6, 0x01, 0x93]
def cX13_chain_r2 : List UInt8 := cX13_chain_w2 ++ cX13_chain_r3
def cX13_chain_w1 : List UInt8 := [0x2a, 0x05, 0xb6, 0x01, 0x93, 0xac, 0x2a, 0x1b, 0x2a, 0xb4, 0x00, 0x72, 0xb6, 0x01, 0xb2, 0x2a, 0xb4, 0x00, 0x72, 0xb6, 0x00, 0x4b, 0x2a, 0xb4, 0x00, 0x72]
def cX13_chain_r1 : List UInt8 := cX13_chain_w1 ++ cX13_chain_r2
def cX13_chain_w0 : List UInt8 := [0x2a, 0x03, 0xb5, 0x00, 0x01, 0x2a, 0x1b, 0xb6, 0x01, 0xa7, 0x9a, 0x00, 0x09, 0x2a, 0x04, 0xb6, 0x01, 0x93, 0xac, 0x1c, 0xb8, 0x02, 0xc5, 0x9a, 0x00, 0x09]
def cX13_chain_r0 : List UInt8 := cX13_chain_w0 ++ cX13_chain_r1
theorem cX13_chain_s0 : dw_S cX13_chain 0 cX13_chain_r0 := dw_S0 (by decide +kernel)
theorem cX13_chain_s1 : dw_S cX13_chain 26 cX13_chain_r1 := dw_Sn (w := cX13_chain_w0) (r := cX13_chain_r1) cX13_chain_s0 (by decide +kernel)
theorem cX13_chain_k0 : dw_ok cX13_chain (ByteArray.mk cX13_chain_w0.toArray) 0 := dw_Sw (r := cX13_chain_r1) cX13_chain_s0
theorem cX13_chain_s2 : dw_S cX13_chain 52 cX13_chain_r2 := dw_Sn (w := cX13_chain_w1) (r := cX13_chain_r2) cX13_chain_s1 (by decide +kernel)
theorem cX13_chain_k1 : dw_ok cX13_chain (ByteArray.mk cX13_chain_w1.toArray) 26 := dw_Sw (r := cX13_chain_r2) cX13_chain_s1
theorem cX13_chain_s3 : dw_S cX13_chain 77 cX13_chain_r3 := dw_Sn (w := cX13_chain_w2) (r := cX13_chain_r3) cX13_chain_s2 (by decide +kernel)
theorem cX13_chain_k2 : dw_ok cX13_chain (ByteArray.mk cX13_chain_w2.toArray) 52 := dw_Sw (r := cX13_chain_r3) cX13_chain_s2
theorem cX13_chain_s4 : dw_S cX13_chain 101 cX13_chain_r4 := dw_Sn (w := cX13_chain_w3) (r := cX13_chain_r4) cX13_chain_s3 (by decide +kernel)
theorem cX13_chain_k3 : dw_ok cX13_chain (ByteArray.mk cX13_chain_w3.toArray) 77 := dw_Sw (r := cX13_chain_r4) cX13_chain_s3
theorem cX13_chain_s5 : dw_S cX13_chain 125 cX13_chain_r5 := dw_Sn (w := cX13_chain_w4) (r := cX13_chain_r5) cX13_chain_s4 (by decide +kernel)
theorem cX13_chain_k4 : dw_ok cX13_chain (ByteArray.mk cX13_chain_w4.toArray) 101 := dw_Sw (r := cX13_chain_r5) cX13_chain_s4
theorem cX13_chain_s6 : dw_S cX13_chain 149 cX13_chain_r6 := dw_Sn (w := cX13_chain_w5) (r := cX13_chain_r6) cX13_chain_s5 (by decide +kernel)
theorem cX13_chain_k5 : dw_ok cX13_chain (ByteArray.mk cX13_chain_w5.toArray) 125 := dw_Sw (r := cX13_chain_r6) cX13_chain_s5
theorem cX13_chain_s7 : dw_S cX13_chain 173 cX13_chain_r7 := dw_Sn (w := cX13_chain_w6) (r := cX13_chain_r7) cX13_chain_s6 (by decide +kernel)
theorem cX13_chain_k6 : dw_ok cX13_chain (ByteArray.mk cX13_chain_w6.toArray) 149 := dw_Sw (r := cX13_chain_r7) cX13_chain_s6
theorem cX13_chain_s8 : dw_S cX13_chain 198 cX13_chain_r8 := dw_Sn (w := cX13_chain_w7) (r := cX13_chain_r8) cX13_chain_s7 (by decide +kernel)
theorem cX13_chain_k7 : dw_ok cX13_chain (ByteArray.mk cX13_chain_w7.toArray) 173 := dw_Sw (r := cX13_chain_r8) cX13_chain_s7
theorem cX13_chain_s9 : dw_S cX13_chain 223 cX13_chain_r9 := dw_Sn (w := cX13_chain_w8) (r := cX13_chain_r9) cX13_chain_s8 (by decide +kernel)
theorem cX13_chain_k8 : dw_ok cX13_chain (ByteArray.mk cX13_chain_w8.toArray) 198 := dw_Sw (r := cX13_chain_r9) cX13_chain_s8
theorem cX13_chain_s10 : dw_S cX13_chain 248 cX13_chain_r10 := dw_Sn (w := cX13_chain_w9) (r := cX13_chain_r10) cX13_chain_s9 (by decide +kernel)
theorem cX13_chain_k9 : dw_ok cX13_chain (ByteArray.mk cX13_chain_w9.toArray) 223 := dw_Sw (r := cX13_chain_r10) cX13_chain_s9
theorem cX13_chain_k10 : dw_ok cX13_chain (ByteArray.mk cX13_chain_w10.toArray) 248 := dw_Sw (r := []) cX13_chain_s10
def cX13_change_w2 : List UInt8 := [0xac, 0x2a, 0xb6, 0x01, 0x88, 0x02, 0xa0, 0x00, 0x09, 0x2a, 0x05, 0xb6, 0x01, 0x93, 0xac, 0x2a, 0xb4, 0x00, 0x79, 0x1c, 0xb8, 0x01, 0xc7, 0x2a, 0xb6, 0x01, 0xa4, 0xac]
def cX13_change_r2 : List UInt8 := cX13_change_w2 ++ []
def cX13_change_w1 : List UInt8 := [0xb6, 0x01, 0xb2, 0x1c, 0x9b, 0x00, 0x10, 0x1c, 0x2a, 0xb4, 0x00, 0x79, 0xb4, 0x00, 0x2c, 0x05, 0x6c, 0xa1, 0x00, 0x09, 0x2a, 0x04, 0xb6, 0x01, 0x93]
def cX13_change_r1 : List UInt8 := cX13_change_w1 ++ cX13_change_r2
def cX13_change_w0 : List UInt8 := [0x2a, 0x03, 0xb5, 0x00, 0x01, 0x2a, 0x1b, 0xb6, 0x01, 0xa7, 0x9a, 0x00, 0x09, 0x2a, 0x04, 0xb6, 0x01, 0x93, 0xac, 0x2a, 0x1b, 0x2a, 0xb4, 0x00, 0x79]
def cX13_change_r0 : List UInt8 := cX13_change_w0 ++ cX13_change_r1
theorem cX13_change_s0 : dw_S cX13_change 0 cX13_change_r0 := dw_S0 (by decide +kernel)
theorem cX13_change_s1 : dw_S cX13_change 25 cX13_change_r1 := dw_Sn (w := cX13_change_w0) (r := cX13_change_r1) cX13_change_s0 (by decide +kernel)
theorem cX13_change_k0 : dw_ok cX13_change (ByteArray.mk cX13_change_w0.toArray) 0 := dw_Sw (r := cX13_change_r1) cX13_change_s0
theorem cX13_change_s2 : dw_S cX13_change 50 cX13_change_r2 := dw_Sn (w := cX13_change_w1) (r := cX13_change_r2) cX13_change_s1 (by decide +kernel)
theorem cX13_change_k1 : dw_ok cX13_change (ByteArray.mk cX13_change_w1.toArray) 25 := dw_Sw (r := cX13_change_r2) cX13_change_s1
theorem cX13_change_k2 : dw_ok cX13_change (ByteArray.mk cX13_change_w2.toArray) 50 := dw_Sw (r := []) cX13_change_s2
def cX13_changeIn_w1 : List UInt8 := [0x1c, 0x04, 0x2a, 0xb4, 0x00, 0x20, 0x1c, 0x2e, 0x64, 0x4f, 0x84, 0x02, 0x01, 0xa7, 0xff, 0xdd, 0x2a, 0xb4, 0x00, 0x23, 0x1b, 0x03, 0x2a, 0xb4, 0x00, 0x23, 0x1b, 0x2e, 0x64, 0x4f, 0xb1]
def cX13_changeIn_r1 : List UInt8 := cX13_changeIn_w1 ++ []
def cX13_changeIn_w0 : List UInt8 := [0x03, 0x3d, 0x1c, 0x2a, 0xb4, 0x00, 0x2c, 0xa2, 0x00, 0x21, 0x2a, 0xb4, 0x00, 0x17, 0x1c, 0x2e, 0x1b, 0xa0, 0x00, 0x11, 0x2a, 0xb4, 0x00, 0x20]
def cX13_changeIn_r0 : List UInt8 := cX13_changeIn_w0 ++ cX13_changeIn_r1
theorem cX13_changeIn_s0 : dw_S cX13_changeIn 0 cX13_changeIn_r0 := dw_S0 (by decide +kernel)
theorem cX13_changeIn_s1 : dw_S cX13_changeIn 24 cX13_changeIn_r1 := dw_Sn (w := cX13_changeIn_w0) (r := cX13_changeIn_r1) cX13_changeIn_s0 (by decide +kernel)
theorem cX13_changeIn_k0 : dw_ok cX13_changeIn (ByteArray.mk cX13_changeIn_w0.toArray) 0 := dw_Sw (r := cX13_changeIn_r1) cX13_changeIn_s0
theorem cX13_changeIn_k1 : dw_ok cX13_changeIn (ByteArray.mk cX13_changeIn_w1.toArray) 24 := dw_Sw (r := []) cX13_changeIn_s1
def cX13_changes_w2 : List UInt8 := [0x15, 0x04, 0x99, 0x00, 0x0e, 0x15, 0x06, 0x15, 0x04, 0x9f, 0x00, 0x07, 0x04, 0xa7, 0x00, 0x04, 0x03, 0x60, 0x3e, 0x15, 0x06, 0x36, 0x04, 0x84, 0x05, 0xff, 0xa7, 0xff, 0xbd, 0x1d, 0xac]
def cX13_changes_r2 : List UInt8 := cX13_changes_w2 ++ []
def cX13_changes_w1 : List UInt8 := [0x1c, 0x99, 0x00, 0x11, 0x15, 0x05, 0x04, 0x7e, 0x04, 0xa0, 0x00, 0x09, 0x03, 0x15, 0x06, 0x64, 0x36, 0x06, 0x15, 0x06, 0x99, 0x00, 0x1b, 0x1d]
def cX13_changes_r1 : List UInt8 := cX13_changes_w1 ++ cX13_changes_r2
def cX13_changes_w0 : List UInt8 := [0x03, 0x3e, 0x03, 0x36, 0x04, 0x1b, 0x36, 0x05, 0x15, 0x05, 0x9b, 0x00, 0x44, 0x2a, 0xb4, 0x00, 0xe5, 0x15, 0x05, 0x2f, 0xb8, 0x02, 0x69, 0x36, 0x06]
def cX13_changes_r0 : List UInt8 := cX13_changes_w0 ++ cX13_changes_r1
theorem cX13_changes_s0 : dw_S cX13_changes 0 cX13_changes_r0 := dw_S0 (by decide +kernel)
theorem cX13_changes_s1 : dw_S cX13_changes 25 cX13_changes_r1 := dw_Sn (w := cX13_changes_w0) (r := cX13_changes_r1) cX13_changes_s0 (by decide +kernel)
theorem cX13_changes_k0 : dw_ok cX13_changes (ByteArray.mk cX13_changes_w0.toArray) 0 := dw_Sw (r := cX13_changes_r1) cX13_changes_s0
theorem cX13_changes_s2 : dw_S cX13_changes 49 cX13_changes_r2 := dw_Sn (w := cX13_changes_w1) (r := cX13_changes_r2) cX13_changes_s1 (by decide +kernel)
theorem cX13_changes_k1 : dw_ok cX13_changes (ByteArray.mk cX13_changes_w1.toArray) 25 := dw_Sw (r := cX13_changes_r2) cX13_changes_s1
theorem cX13_changes_k2 : dw_ok cX13_changes (ByteArray.mk cX13_changes_w2.toArray) 49 := dw_Sw (r := []) cX13_changes_s2
def cX13_close_w3 : List UInt8 := [0xb6, 0x00, 0x5e, 0x84, 0x02, 0x01, 0xa7, 0xff, 0xce, 0xb1]
def cX13_close_r3 : List UInt8 := cX13_close_w3 ++ []
def cX13_close_w2 : List UInt8 := [0x1c, 0x3e, 0x2a, 0xb4, 0x01, 0x7f, 0x1d, 0x04, 0x54, 0x2a, 0x1b, 0x1d, 0xb6, 0x03, 0x19, 0x3e, 0x1d, 0x1c, 0xa0, 0xff, 0xf0, 0x2a, 0xb4, 0x00, 0x79]
def cX13_close_r2 : List UInt8 := cX13_close_w2 ++ cX13_close_r3
def cX13_close_w1 : List UInt8 := [0xa7, 0xff, 0xf1, 0x03, 0x3d, 0x1c, 0x2a, 0xb4, 0x01, 0x46, 0x1b, 0x2e, 0xa2, 0x00, 0x2e, 0x2a, 0xb4, 0x01, 0x7f, 0x1c, 0x33, 0x9a, 0x00, 0x1f]
def cX13_close_r1 : List UInt8 := cX13_close_w1 ++ cX13_close_r2
def cX13_close_w0 : List UInt8 := [0x2a, 0xb4, 0x00, 0x79, 0xb6, 0x00, 0x5b, 0x03, 0x3d, 0x1c, 0x08, 0xa2, 0x00, 0x10, 0x2a, 0xb4, 0x01, 0x7f, 0x1c, 0x03, 0x54, 0x84, 0x02, 0x01]
def cX13_close_r0 : List UInt8 := cX13_close_w0 ++ cX13_close_r1
theorem cX13_close_s0 : dw_S cX13_close 0 cX13_close_r0 := dw_S0 (by decide +kernel)
theorem cX13_close_s1 : dw_S cX13_close 24 cX13_close_r1 := dw_Sn (w := cX13_close_w0) (r := cX13_close_r1) cX13_close_s0 (by decide +kernel)
theorem cX13_close_k0 : dw_ok cX13_close (ByteArray.mk cX13_close_w0.toArray) 0 := dw_Sw (r := cX13_close_r1) cX13_close_s0
theorem cX13_close_s2 : dw_S cX13_close 48 cX13_close_r2 := dw_Sn (w := cX13_close_w1) (r := cX13_close_r2) cX13_close_s1 (by decide +kernel)
theorem cX13_close_k1 : dw_ok cX13_close (ByteArray.mk cX13_close_w1.toArray) 24 := dw_Sw (r := cX13_close_r2) cX13_close_s1
theorem cX13_close_s3 : dw_S cX13_close 73 cX13_close_r3 := dw_Sn (w := cX13_close_w2) (r := cX13_close_r3) cX13_close_s2 (by decide +kernel)
theorem cX13_close_k2 : dw_ok cX13_close (ByteArray.mk cX13_close_w2.toArray) 48 := dw_Sw (r := cX13_close_r3) cX13_close_s2
theorem cX13_close_k3 : dw_ok cX13_close (ByteArray.mk cX13_close_w3.toArray) 73 := dw_Sw (r := []) cX13_close_s3
def cX13_closure_w2 : List UInt8 := [0xac, 0x2a, 0x1b, 0xb6, 0x03, 0x1c, 0x2a, 0xb6, 0x01, 0xa4, 0xac]
def cX13_closure_r2 : List UInt8 := cX13_closure_w2 ++ []
def cX13_closure_w1 : List UInt8 := [0x2e, 0x10, 0x0c, 0xa4, 0x00, 0x09, 0x2a, 0x05, 0xb6, 0x01, 0x93, 0xac, 0x2a, 0xb6, 0x01, 0x88, 0x02, 0xa0, 0x00, 0x09, 0x2a, 0x06, 0xb6, 0x01, 0x93]
def cX13_closure_r1 : List UInt8 := cX13_closure_w1 ++ cX13_closure_r2
def cX13_closure_w0 : List UInt8 := [0x2a, 0x03, 0xb5, 0x00, 0x01, 0x2a, 0x1b, 0xb6, 0x02, 0xe3, 0x9a, 0x00, 0x09, 0x2a, 0x04, 0xb6, 0x01, 0x93, 0xac, 0x2a, 0xb4, 0x01, 0x43, 0x1b]
def cX13_closure_r0 : List UInt8 := cX13_closure_w0 ++ cX13_closure_r1
theorem cX13_closure_s0 : dw_S cX13_closure 0 cX13_closure_r0 := dw_S0 (by decide +kernel)
theorem cX13_closure_s1 : dw_S cX13_closure 24 cX13_closure_r1 := dw_Sn (w := cX13_closure_w0) (r := cX13_closure_r1) cX13_closure_s0 (by decide +kernel)
theorem cX13_closure_k0 : dw_ok cX13_closure (ByteArray.mk cX13_closure_w0.toArray) 0 := dw_Sw (r := cX13_closure_r1) cX13_closure_s0
theorem cX13_closure_s2 : dw_S cX13_closure 49 cX13_closure_r2 := dw_Sn (w := cX13_closure_w1) (r := cX13_closure_r2) cX13_closure_s1 (by decide +kernel)
theorem cX13_closure_k1 : dw_ok cX13_closure (ByteArray.mk cX13_closure_w1.toArray) 24 := dw_Sw (r := cX13_closure_r2) cX13_closure_s1
theorem cX13_closure_k2 : dw_ok cX13_closure (ByteArray.mk cX13_closure_w2.toArray) 49 := dw_Sw (r := []) cX13_closure_s2
def cX13_colourFaces_w9 : List UInt8 := [0x15, 0x06, 0x2e, 0x04, 0xa0, 0x00, 0x0f, 0x2a, 0xb4, 0x00, 0xd9, 0x15, 0x06, 0x15, 0x05, 0x4f, 0x84, 0x05, 0x01, 0x84, 0x06, 0x01, 0xa7, 0xff, 0xdd, 0x15, 0x05, 0xac]
def cX13_colourFaces_r9 : List UInt8 := cX13_colourFaces_w9 ++ []
def cX13_colourFaces_w8 : List UInt8 := [0xa7, 0xff, 0x7b, 0xa7, 0xff, 0x6d, 0x03, 0x36, 0x05, 0x03, 0x36, 0x06, 0x15, 0x06, 0x2b, 0xb4, 0x02, 0x07, 0xa2, 0x00, 0x20, 0x2a, 0xb4, 0x00, 0xd6]
def cX13_colourFaces_r8 : List UInt8 := cX13_colourFaces_w8 ++ cX13_colourFaces_r9
def cX13_colourFaces_w7 : List UInt8 := [0x4f, 0xa7, 0x00, 0x13, 0x2a, 0xb4, 0x00, 0xd6, 0x15, 0x07, 0x06, 0x2a, 0xb4, 0x00, 0xd6, 0x15, 0x06, 0x2e, 0x64, 0x4f, 0x04, 0x36, 0x04, 0x84, 0x05, 0x01]
def cX13_colourFaces_r7 : List UInt8 := cX13_colourFaces_w7 ++ cX13_colourFaces_r8
def cX13_colourFaces_w6 : List UInt8 := [0xb4, 0x00, 0xd6, 0x15, 0x06, 0x2e, 0x9a, 0x00, 0x16, 0x2a, 0xb4, 0x00, 0xd6, 0x15, 0x06, 0x06, 0x2a, 0xb4, 0x00, 0xd6, 0x15, 0x07, 0x2e, 0x64]
def cX13_colourFaces_r6 : List UInt8 := cX13_colourFaces_w6 ++ cX13_colourFaces_r7
def cX13_colourFaces_w5 : List UInt8 := [0x04, 0xa7, 0x00, 0x04, 0x03, 0x2a, 0xb4, 0x00, 0xd6, 0x15, 0x07, 0x2e, 0x9a, 0x00, 0x07, 0x04, 0xa7, 0x00, 0x04, 0x03, 0x9f, 0x00, 0x33, 0x2a]
def cX13_colourFaces_r5 : List UInt8 := cX13_colourFaces_w5 ++ cX13_colourFaces_r6
def cX13_colourFaces_w4 : List UInt8 := [0xb4, 0x00, 0x2f, 0x2b, 0xb4, 0x00, 0x12, 0x15, 0x05, 0x2e, 0x2e, 0x1d, 0xa0, 0x00, 0x54, 0x2a, 0xb4, 0x00, 0xd6, 0x15, 0x06, 0x2e, 0x9a, 0x00, 0x07]
def cX13_colourFaces_r4 : List UInt8 := cX13_colourFaces_w4 ++ cX13_colourFaces_r5
def cX13_colourFaces_w3 : List UInt8 := [0xb4, 0x02, 0x0d, 0x05, 0x15, 0x05, 0x68, 0x2e, 0x36, 0x06, 0x2b, 0xb4, 0x02, 0x0d, 0x05, 0x15, 0x05, 0x68, 0x04, 0x60, 0x2e, 0x36, 0x07, 0x2b]
def cX13_colourFaces_r3 : List UInt8 := cX13_colourFaces_w3 ++ cX13_colourFaces_r4
def cX13_colourFaces_w2 : List UInt8 := [0x04, 0x36, 0x04, 0x15, 0x04, 0x99, 0x00, 0x94, 0x03, 0x36, 0x04, 0x03, 0x36, 0x05, 0x15, 0x05, 0x2b, 0xb4, 0x00, 0x2c, 0xa2, 0x00, 0x82, 0x2b]
def cX13_colourFaces_r2 : List UInt8 := cX13_colourFaces_w2 ++ cX13_colourFaces_r3
def cX13_colourFaces_w1 : List UInt8 := [0x15, 0x04, 0x03, 0x4f, 0x84, 0x04, 0x01, 0xa7, 0xff, 0xee, 0x2a, 0xb4, 0x00, 0xd6, 0x2b, 0xb4, 0x02, 0x0d, 0x05, 0x1c, 0x68, 0x2e, 0x04, 0x4f]
def cX13_colourFaces_r1 : List UInt8 := cX13_colourFaces_w1 ++ cX13_colourFaces_r2
def cX13_colourFaces_w0 : List UInt8 := [0x2b, 0xb4, 0x00, 0x2f, 0x2b, 0xb4, 0x00, 0x12, 0x1c, 0x2e, 0x2e, 0x3e, 0x03, 0x36, 0x04, 0x15, 0x04, 0x10, 0x50, 0xa2, 0x00, 0x11, 0x2a, 0xb4, 0x00, 0xd6]
def cX13_colourFaces_r0 : List UInt8 := cX13_colourFaces_w0 ++ cX13_colourFaces_r1
theorem cX13_colourFaces_s0 : dw_S cX13_colourFaces 0 cX13_colourFaces_r0 := dw_S0 (by decide +kernel)
theorem cX13_colourFaces_s1 : dw_S cX13_colourFaces 26 cX13_colourFaces_r1 := dw_Sn (w := cX13_colourFaces_w0) (r := cX13_colourFaces_r1) cX13_colourFaces_s0 (by decide +kernel)
theorem cX13_colourFaces_k0 : dw_ok cX13_colourFaces (ByteArray.mk cX13_colourFaces_w0.toArray) 0 := dw_Sw (r := cX13_colourFaces_r1) cX13_colourFaces_s0
theorem cX13_colourFaces_s2 : dw_S cX13_colourFaces 50 cX13_colourFaces_r2 := dw_Sn (w := cX13_colourFaces_w1) (r := cX13_colourFaces_r2) cX13_colourFaces_s1 (by decide +kernel)
theorem cX13_colourFaces_k1 : dw_ok cX13_colourFaces (ByteArray.mk cX13_colourFaces_w1.toArray) 26 := dw_Sw (r := cX13_colourFaces_r2) cX13_colourFaces_s1
theorem cX13_colourFaces_s3 : dw_S cX13_colourFaces 74 cX13_colourFaces_r3 := dw_Sn (w := cX13_colourFaces_w2) (r := cX13_colourFaces_r3) cX13_colourFaces_s2 (by decide +kernel)
theorem cX13_colourFaces_k2 : dw_ok cX13_colourFaces (ByteArray.mk cX13_colourFaces_w2.toArray) 50 := dw_Sw (r := cX13_colourFaces_r3) cX13_colourFaces_s2
theorem cX13_colourFaces_s4 : dw_S cX13_colourFaces 98 cX13_colourFaces_r4 := dw_Sn (w := cX13_colourFaces_w3) (r := cX13_colourFaces_r4) cX13_colourFaces_s3 (by decide +kernel)
theorem cX13_colourFaces_k3 : dw_ok cX13_colourFaces (ByteArray.mk cX13_colourFaces_w3.toArray) 74 := dw_Sw (r := cX13_colourFaces_r4) cX13_colourFaces_s3
theorem cX13_colourFaces_s5 : dw_S cX13_colourFaces 123 cX13_colourFaces_r5 := dw_Sn (w := cX13_colourFaces_w4) (r := cX13_colourFaces_r5) cX13_colourFaces_s4 (by decide +kernel)
theorem cX13_colourFaces_k4 : dw_ok cX13_colourFaces (ByteArray.mk cX13_colourFaces_w4.toArray) 98 := dw_Sw (r := cX13_colourFaces_r5) cX13_colourFaces_s4
theorem cX13_colourFaces_s6 : dw_S cX13_colourFaces 147 cX13_colourFaces_r6 := dw_Sn (w := cX13_colourFaces_w5) (r := cX13_colourFaces_r6) cX13_colourFaces_s5 (by decide +kernel)
theorem cX13_colourFaces_k5 : dw_ok cX13_colourFaces (ByteArray.mk cX13_colourFaces_w5.toArray) 123 := dw_Sw (r := cX13_colourFaces_r6) cX13_colourFaces_s5
theorem cX13_colourFaces_s7 : dw_S cX13_colourFaces 171 cX13_colourFaces_r7 := dw_Sn (w := cX13_colourFaces_w6) (r := cX13_colourFaces_r7) cX13_colourFaces_s6 (by decide +kernel)
theorem cX13_colourFaces_k6 : dw_ok cX13_colourFaces (ByteArray.mk cX13_colourFaces_w6.toArray) 147 := dw_Sw (r := cX13_colourFaces_r7) cX13_colourFaces_s6
theorem cX13_colourFaces_s8 : dw_S cX13_colourFaces 197 cX13_colourFaces_r8 := dw_Sn (w := cX13_colourFaces_w7) (r := cX13_colourFaces_r8) cX13_colourFaces_s7 (by decide +kernel)
theorem cX13_colourFaces_k7 : dw_ok cX13_colourFaces (ByteArray.mk cX13_colourFaces_w7.toArray) 171 := dw_Sw (r := cX13_colourFaces_r8) cX13_colourFaces_s7
theorem cX13_colourFaces_s9 : dw_S cX13_colourFaces 222 cX13_colourFaces_r9 := dw_Sn (w := cX13_colourFaces_w8) (r := cX13_colourFaces_r9) cX13_colourFaces_s8 (by decide +kernel)
theorem cX13_colourFaces_k8 : dw_ok cX13_colourFaces (ByteArray.mk cX13_colourFaces_w8.toArray) 197 := dw_Sw (r := cX13_colourFaces_r9) cX13_colourFaces_s8
theorem cX13_colourFaces_k9 : dw_ok cX13_colourFaces (ByteArray.mk cX13_colourFaces_w9.toArray) 222 := dw_Sw (r := []) cX13_colourFaces_s9
def cX13_colours_w3 : List UInt8 := [0x84, 0x05, 0x01, 0xa7, 0xff, 0xe5, 0x21, 0xad]
def cX13_colours_r3 : List UInt8 := cX13_colours_w3 ++ []
def cX13_colours_w2 : List UInt8 := [0x15, 0x05, 0x2a, 0xb4, 0x02, 0x80, 0xa2, 0x00, 0x18, 0x21, 0x1c, 0x85, 0x2a, 0xb4, 0x00, 0xfd, 0x15, 0x05, 0x2f, 0xb8, 0x02, 0x95, 0x69, 0x42]
def cX13_colours_r2 : List UInt8 := cX13_colours_w2 ++ cX13_colours_r3
def cX13_colours_w1 : List UInt8 := [0x1c, 0x10, 0x64, 0xa4, 0x00, 0x0a, 0x2a, 0x05, 0xb6, 0x01, 0x93, 0x85, 0xad, 0x2a, 0x1b, 0xb6, 0x02, 0x9c, 0x1c, 0x85, 0x42, 0x03, 0x36, 0x05]
def cX13_colours_r1 : List UInt8 := cX13_colours_w1 ++ cX13_colours_r2
def cX13_colours_w0 : List UInt8 := [0x2a, 0x03, 0xb5, 0x00, 0x01, 0x2a, 0x1b, 0xb6, 0x01, 0xa7, 0x9a, 0x00, 0x0a, 0x2a, 0x04, 0xb6, 0x01, 0x93, 0x85, 0xad, 0x1c, 0x04, 0xa1, 0x00, 0x09]
def cX13_colours_r0 : List UInt8 := cX13_colours_w0 ++ cX13_colours_r1
theorem cX13_colours_s0 : dw_S cX13_colours 0 cX13_colours_r0 := dw_S0 (by decide +kernel)
theorem cX13_colours_s1 : dw_S cX13_colours 25 cX13_colours_r1 := dw_Sn (w := cX13_colours_w0) (r := cX13_colours_r1) cX13_colours_s0 (by decide +kernel)
theorem cX13_colours_k0 : dw_ok cX13_colours (ByteArray.mk cX13_colours_w0.toArray) 0 := dw_Sw (r := cX13_colours_r1) cX13_colours_s0
theorem cX13_colours_s2 : dw_S cX13_colours 49 cX13_colours_r2 := dw_Sn (w := cX13_colours_w1) (r := cX13_colours_r2) cX13_colours_s1 (by decide +kernel)
theorem cX13_colours_k1 : dw_ok cX13_colours (ByteArray.mk cX13_colours_w1.toArray) 25 := dw_Sw (r := cX13_colours_r2) cX13_colours_s1
theorem cX13_colours_s3 : dw_S cX13_colours 73 cX13_colours_r3 := dw_Sn (w := cX13_colours_w2) (r := cX13_colours_r3) cX13_colours_s2 (by decide +kernel)
theorem cX13_colours_k2 : dw_ok cX13_colours (ByteArray.mk cX13_colours_w2.toArray) 49 := dw_Sw (r := cX13_colours_r3) cX13_colours_s2
theorem cX13_colours_k3 : dw_ok cX13_colours (ByteArray.mk cX13_colours_w3.toArray) 73 := dw_Sw (r := []) cX13_colours_s3
def cX13_conjugate_w4 : List UInt8 := [0xb6, 0x03, 0x0f, 0x99, 0x00, 0x05, 0x04, 0xac, 0x2a, 0x1c, 0xb6, 0x03, 0x13, 0x2a, 0x1d, 0xb6, 0x03, 0x16, 0x99, 0x00, 0x07, 0x03, 0xa7, 0x00, 0x05, 0x10, 0xfe, 0xac]
def cX13_conjugate_r4 : List UInt8 := cX13_conjugate_w4 ++ []
def cX13_conjugate_w3 : List UInt8 := [0x03, 0xb6, 0x02, 0xfe, 0x2a, 0x1b, 0xb6, 0x03, 0x13, 0x2a, 0x1d, 0xb6, 0x03, 0x16, 0x9a, 0x00, 0x06, 0x10, 0xfe, 0xac, 0x2a, 0x2a, 0xb4, 0x01, 0x79]
def cX13_conjugate_r3 : List UInt8 := cX13_conjugate_w3 ++ cX13_conjugate_r4
def cX13_conjugate_w2 : List UInt8 := [0x1b, 0x2e, 0x3e, 0x1d, 0x08, 0xa0, 0x00, 0x09, 0x2a, 0x06, 0xb6, 0x01, 0x93, 0xac, 0x2a, 0x1c, 0xb6, 0x03, 0x13, 0x2a, 0x2a, 0xb4, 0x01, 0x79]
def cX13_conjugate_r2 : List UInt8 := cX13_conjugate_w2 ++ cX13_conjugate_r3
def cX13_conjugate_w1 : List UInt8 := [0xac, 0x2a, 0xb4, 0x01, 0x46, 0x1b, 0x2e, 0x2a, 0xb4, 0x01, 0x46, 0x1c, 0x2e, 0x9f, 0x00, 0x09, 0x2a, 0x05, 0xb6, 0x01, 0x93, 0xac, 0x2a, 0xb4, 0x01, 0x46]
def cX13_conjugate_r1 : List UInt8 := cX13_conjugate_w1 ++ cX13_conjugate_r2
def cX13_conjugate_w0 : List UInt8 := [0x2a, 0x03, 0xb5, 0x00, 0x01, 0x2a, 0x1b, 0xb6, 0x02, 0xe3, 0x99, 0x00, 0x0b, 0x2a, 0x1c, 0xb6, 0x02, 0xe3, 0x9a, 0x00, 0x09, 0x2a, 0x04, 0xb6, 0x01, 0x93]
def cX13_conjugate_r0 : List UInt8 := cX13_conjugate_w0 ++ cX13_conjugate_r1
theorem cX13_conjugate_s0 : dw_S cX13_conjugate 0 cX13_conjugate_r0 := dw_S0 (by decide +kernel)
theorem cX13_conjugate_s1 : dw_S cX13_conjugate 26 cX13_conjugate_r1 := dw_Sn (w := cX13_conjugate_w0) (r := cX13_conjugate_r1) cX13_conjugate_s0 (by decide +kernel)
theorem cX13_conjugate_k0 : dw_ok cX13_conjugate (ByteArray.mk cX13_conjugate_w0.toArray) 0 := dw_Sw (r := cX13_conjugate_r1) cX13_conjugate_s0
theorem cX13_conjugate_s2 : dw_S cX13_conjugate 52 cX13_conjugate_r2 := dw_Sn (w := cX13_conjugate_w1) (r := cX13_conjugate_r2) cX13_conjugate_s1 (by decide +kernel)
theorem cX13_conjugate_k1 : dw_ok cX13_conjugate (ByteArray.mk cX13_conjugate_w1.toArray) 26 := dw_Sw (r := cX13_conjugate_r2) cX13_conjugate_s1
theorem cX13_conjugate_s3 : dw_S cX13_conjugate 76 cX13_conjugate_r3 := dw_Sn (w := cX13_conjugate_w2) (r := cX13_conjugate_r3) cX13_conjugate_s2 (by decide +kernel)
theorem cX13_conjugate_k2 : dw_ok cX13_conjugate (ByteArray.mk cX13_conjugate_w2.toArray) 52 := dw_Sw (r := cX13_conjugate_r3) cX13_conjugate_s2
theorem cX13_conjugate_s4 : dw_S cX13_conjugate 101 cX13_conjugate_r4 := dw_Sn (w := cX13_conjugate_w3) (r := cX13_conjugate_r4) cX13_conjugate_s3 (by decide +kernel)
theorem cX13_conjugate_k3 : dw_ok cX13_conjugate (ByteArray.mk cX13_conjugate_w3.toArray) 76 := dw_Sw (r := cX13_conjugate_r4) cX13_conjugate_s3
theorem cX13_conjugate_k4 : dw_ok cX13_conjugate (ByteArray.mk cX13_conjugate_w4.toArray) 101 := dw_Sw (r := []) cX13_conjugate_s4
def cX13_conway_w5 : List UInt8 := [0x03, 0xa7, 0x00, 0x0a, 0x2a, 0xb4, 0x00, 0xba, 0x1c, 0x2f, 0x88, 0xac]
def cX13_conway_r5 : List UInt8 := cX13_conway_w5 ++ []
def cX13_conway_w4 : List UInt8 := [0x10, 0x20, 0x1b, 0x68, 0x1d, 0x60, 0x2e, 0x4f, 0x84, 0x03, 0x01, 0xa7, 0xff, 0xe6, 0x1c, 0x9b, 0x00, 0x09, 0x1c, 0x10, 0x28, 0xa1, 0x00, 0x07]
def cX13_conway_r4 : List UInt8 := cX13_conway_w4 ++ cX13_conway_r5
def cX13_conway_w3 : List UInt8 := [0x2a, 0x03, 0x0a, 0x03, 0x03, 0xb6, 0x02, 0x3f, 0x03, 0x3e, 0x1d, 0x10, 0x20, 0xa2, 0x00, 0x1a, 0x2a, 0xb4, 0x00, 0xbe, 0x1d, 0x2a, 0xb4, 0x00, 0x6e]
def cX13_conway_r3 : List UInt8 := cX13_conway_w3 ++ cX13_conway_r4
def cX13_conway_w2 : List UInt8 := [0x1d, 0x09, 0x50, 0x84, 0x03, 0x01, 0xa7, 0xff, 0xf0, 0x2a, 0x1b, 0x2a, 0xb4, 0x00, 0xb3, 0x03, 0x32, 0xb6, 0x01, 0xb2, 0x2a, 0x03, 0xb5, 0x02, 0x3c]
def cX13_conway_r2 : List UInt8 := cX13_conway_w2 ++ cX13_conway_r3
def cX13_conway_w1 : List UInt8 := [0x1b, 0x68, 0x2a, 0xb4, 0x00, 0xbe, 0x03, 0xb8, 0x01, 0xbd, 0x9a, 0x00, 0x4f, 0x03, 0x3e, 0x1d, 0x10, 0x28, 0xa2, 0x00, 0x10, 0x2a, 0xb4, 0x00, 0xba]
def cX13_conway_r1 : List UInt8 := cX13_conway_w1 ++ cX13_conway_r2
def cX13_conway_w0 : List UInt8 := [0x2a, 0x03, 0xb5, 0x00, 0x01, 0x2a, 0x1b, 0xb6, 0x01, 0xa7, 0x9a, 0x00, 0x09, 0x2a, 0x04, 0xb6, 0x01, 0x93, 0xac, 0x2a, 0xb4, 0x00, 0x6e, 0x10, 0x20]
def cX13_conway_r0 : List UInt8 := cX13_conway_w0 ++ cX13_conway_r1
theorem cX13_conway_s0 : dw_S cX13_conway 0 cX13_conway_r0 := dw_S0 (by decide +kernel)
theorem cX13_conway_s1 : dw_S cX13_conway 25 cX13_conway_r1 := dw_Sn (w := cX13_conway_w0) (r := cX13_conway_r1) cX13_conway_s0 (by decide +kernel)
theorem cX13_conway_k0 : dw_ok cX13_conway (ByteArray.mk cX13_conway_w0.toArray) 0 := dw_Sw (r := cX13_conway_r1) cX13_conway_s0
theorem cX13_conway_s2 : dw_S cX13_conway 50 cX13_conway_r2 := dw_Sn (w := cX13_conway_w1) (r := cX13_conway_r2) cX13_conway_s1 (by decide +kernel)
theorem cX13_conway_k1 : dw_ok cX13_conway (ByteArray.mk cX13_conway_w1.toArray) 25 := dw_Sw (r := cX13_conway_r2) cX13_conway_s1
theorem cX13_conway_s3 : dw_S cX13_conway 75 cX13_conway_r3 := dw_Sn (w := cX13_conway_w2) (r := cX13_conway_r3) cX13_conway_s2 (by decide +kernel)
theorem cX13_conway_k2 : dw_ok cX13_conway (ByteArray.mk cX13_conway_w2.toArray) 50 := dw_Sw (r := cX13_conway_r3) cX13_conway_s2
theorem cX13_conway_s4 : dw_S cX13_conway 100 cX13_conway_r4 := dw_Sn (w := cX13_conway_w3) (r := cX13_conway_r4) cX13_conway_s3 (by decide +kernel)
theorem cX13_conway_k3 : dw_ok cX13_conway (ByteArray.mk cX13_conway_w3.toArray) 75 := dw_Sw (r := cX13_conway_r4) cX13_conway_s3
theorem cX13_conway_s5 : dw_S cX13_conway 124 cX13_conway_r5 := dw_Sn (w := cX13_conway_w4) (r := cX13_conway_r5) cX13_conway_s4 (by decide +kernel)
theorem cX13_conway_k4 : dw_ok cX13_conway (ByteArray.mk cX13_conway_w4.toArray) 100 := dw_Sw (r := cX13_conway_r5) cX13_conway_s4
theorem cX13_conway_k5 : dw_ok cX13_conway (ByteArray.mk cX13_conway_w5.toArray) 124 := dw_Sw (r := []) cX13_conway_s5
def cX13_cover_w1 : List UInt8 := [0x1c, 0x9b, 0x00, 0x0b, 0x1c, 0x2a, 0xb4, 0x02, 0x80, 0xa1, 0x00, 0x07, 0x02, 0xa7, 0x00, 0x0a, 0x2a, 0xb4, 0x00, 0xfd, 0x1c, 0x2f, 0x88, 0xac]
def cX13_cover_r1 : List UInt8 := cX13_cover_w1 ++ []
def cX13_cover_w0 : List UInt8 := [0x2a, 0x03, 0xb5, 0x00, 0x01, 0x2a, 0x1b, 0xb6, 0x01, 0xa7, 0x9a, 0x00, 0x09, 0x2a, 0x04, 0xb6, 0x01, 0x93, 0xac, 0x2a, 0x1b, 0xb6, 0x02, 0x9c]
def cX13_cover_r0 : List UInt8 := cX13_cover_w0 ++ cX13_cover_r1
theorem cX13_cover_s0 : dw_S cX13_cover 0 cX13_cover_r0 := dw_S0 (by decide +kernel)
theorem cX13_cover_s1 : dw_S cX13_cover 24 cX13_cover_r1 := dw_Sn (w := cX13_cover_w0) (r := cX13_cover_r1) cX13_cover_s0 (by decide +kernel)
theorem cX13_cover_k0 : dw_ok cX13_cover (ByteArray.mk cX13_cover_w0.toArray) 0 := dw_Sw (r := cX13_cover_r1) cX13_cover_s0
theorem cX13_cover_k1 : dw_ok cX13_cover (ByteArray.mk cX13_cover_w1.toArray) 24 := dw_Sw (r := []) cX13_cover_s1
def cX13_coverOf_w2 : List UInt8 := [0x2a, 0xb4, 0x00, 0x6e, 0x10, 0x20, 0x1b, 0x68, 0x1c, 0x60, 0x2e, 0x4f, 0x84, 0x02, 0x01, 0xa7, 0xff, 0xe6, 0xb1]
def cX13_coverOf_r2 : List UInt8 := cX13_coverOf_w2 ++ []
def cX13_coverOf_w1 : List UInt8 := [0xb6, 0x01, 0xb2, 0x2a, 0x2a, 0xb4, 0x00, 0x72, 0xb6, 0x02, 0x99, 0x03, 0x3d, 0x1c, 0x10, 0x20, 0xa2, 0x00, 0x1a, 0x2a, 0xb4, 0x00, 0xfa, 0x1c]
def cX13_coverOf_r1 : List UInt8 := cX13_coverOf_w1 ++ cX13_coverOf_r2
def cX13_coverOf_w0 : List UInt8 := [0x2a, 0xb4, 0x00, 0x6e, 0x10, 0x20, 0x1b, 0x68, 0x2a, 0xb4, 0x00, 0xfa, 0x03, 0xb8, 0x01, 0xbd, 0x9a, 0x00, 0x33, 0x2a, 0x1b, 0x2a, 0xb4, 0x00, 0x72]
def cX13_coverOf_r0 : List UInt8 := cX13_coverOf_w0 ++ cX13_coverOf_r1
theorem cX13_coverOf_s0 : dw_S cX13_coverOf 0 cX13_coverOf_r0 := dw_S0 (by decide +kernel)
theorem cX13_coverOf_s1 : dw_S cX13_coverOf 25 cX13_coverOf_r1 := dw_Sn (w := cX13_coverOf_w0) (r := cX13_coverOf_r1) cX13_coverOf_s0 (by decide +kernel)
theorem cX13_coverOf_k0 : dw_ok cX13_coverOf (ByteArray.mk cX13_coverOf_w0.toArray) 0 := dw_Sw (r := cX13_coverOf_r1) cX13_coverOf_s0
theorem cX13_coverOf_s2 : dw_S cX13_coverOf 49 cX13_coverOf_r2 := dw_Sn (w := cX13_coverOf_w1) (r := cX13_coverOf_r2) cX13_coverOf_s1 (by decide +kernel)
theorem cX13_coverOf_k1 : dw_ok cX13_coverOf (ByteArray.mk cX13_coverOf_w1.toArray) 25 := dw_Sw (r := cX13_coverOf_r2) cX13_coverOf_s1
theorem cX13_coverOf_k2 : dw_ok cX13_coverOf (ByteArray.mk cX13_coverOf_w2.toArray) 49 := dw_Sw (r := []) cX13_coverOf_s2
def cX13_cycle_w4 : List UInt8 := [0x03, 0x2e, 0x15, 0x04, 0xb6, 0x03, 0x05, 0xb6, 0x02, 0xf5, 0x2a, 0x1b, 0x15, 0x04, 0xb6, 0x02, 0xf8, 0xb1]
def cX13_cycle_r4 : List UInt8 := cX13_cycle_w4 ++ []
def cX13_cycle_w3 : List UInt8 := [0x15, 0x05, 0x2e, 0xb6, 0x02, 0xf5, 0x84, 0x05, 0x01, 0xa7, 0xff, 0xe1, 0x1c, 0x9a, 0x00, 0x15, 0x2a, 0x1b, 0x2a, 0x1b, 0x2a, 0xb4, 0x01, 0x70]
def cX13_cycle_r3 : List UInt8 := cX13_cycle_w3 ++ cX13_cycle_r4
def cX13_cycle_w2 : List UInt8 := [0x04, 0x36, 0x05, 0x15, 0x05, 0x1c, 0x99, 0x00, 0x09, 0x1d, 0x04, 0x64, 0xa7, 0x00, 0x04, 0x1d, 0xa2, 0x00, 0x15, 0x2a, 0x1b, 0x2a, 0xb4, 0x01, 0x70]
def cX13_cycle_r2 : List UInt8 := cX13_cycle_w2 ++ cX13_cycle_r3
def cX13_cycle_w1 : List UInt8 := [0x2a, 0xb4, 0x01, 0x70, 0x1d, 0x04, 0x64, 0x2e, 0x15, 0x04, 0xb6, 0x03, 0x05, 0xb6, 0x02, 0xf5, 0x1c, 0x99, 0x00, 0x07, 0x03, 0xa7, 0x00, 0x04]
def cX13_cycle_r1 : List UInt8 := cX13_cycle_w1 ++ cX13_cycle_r2
def cX13_cycle_w0 : List UInt8 := [0x2a, 0xb4, 0x02, 0xef, 0x3e, 0x2a, 0xb4, 0x02, 0xec, 0x36, 0x04, 0x2a, 0x03, 0xb5, 0x02, 0xe6, 0x1c, 0x99, 0x00, 0x17, 0x2a, 0x1b, 0x2a, 0x1b]
def cX13_cycle_r0 : List UInt8 := cX13_cycle_w0 ++ cX13_cycle_r1
theorem cX13_cycle_s0 : dw_S cX13_cycle 0 cX13_cycle_r0 := dw_S0 (by decide +kernel)
theorem cX13_cycle_s1 : dw_S cX13_cycle 24 cX13_cycle_r1 := dw_Sn (w := cX13_cycle_w0) (r := cX13_cycle_r1) cX13_cycle_s0 (by decide +kernel)
theorem cX13_cycle_k0 : dw_ok cX13_cycle (ByteArray.mk cX13_cycle_w0.toArray) 0 := dw_Sw (r := cX13_cycle_r1) cX13_cycle_s0
theorem cX13_cycle_s2 : dw_S cX13_cycle 48 cX13_cycle_r2 := dw_Sn (w := cX13_cycle_w1) (r := cX13_cycle_r2) cX13_cycle_s1 (by decide +kernel)
theorem cX13_cycle_k1 : dw_ok cX13_cycle (ByteArray.mk cX13_cycle_w1.toArray) 24 := dw_Sw (r := cX13_cycle_r2) cX13_cycle_s1
theorem cX13_cycle_s3 : dw_S cX13_cycle 73 cX13_cycle_r3 := dw_Sn (w := cX13_cycle_w2) (r := cX13_cycle_r3) cX13_cycle_s2 (by decide +kernel)
theorem cX13_cycle_k2 : dw_ok cX13_cycle (ByteArray.mk cX13_cycle_w2.toArray) 48 := dw_Sw (r := cX13_cycle_r3) cX13_cycle_s2
theorem cX13_cycle_s4 : dw_S cX13_cycle 97 cX13_cycle_r4 := dw_Sn (w := cX13_cycle_w3) (r := cX13_cycle_r4) cX13_cycle_s3 (by decide +kernel)
theorem cX13_cycle_k3 : dw_ok cX13_cycle (ByteArray.mk cX13_cycle_w3.toArray) 73 := dw_Sw (r := cX13_cycle_r4) cX13_cycle_s3
theorem cX13_cycle_k4 : dw_ok cX13_cycle (ByteArray.mk cX13_cycle_w4.toArray) 97 := dw_Sw (r := []) cX13_cycle_s4
def cX13_diagram_w1 : List UInt8 := [0x2a, 0x03, 0xb5, 0x01, 0x90, 0x1b, 0x02, 0x9f, 0x00, 0x09, 0x02, 0x1b, 0x64, 0xa7, 0x00, 0x07, 0x2a, 0xb6, 0x01, 0xa4, 0xac]
def cX13_diagram_r1 : List UInt8 := cX13_diagram_w1 ++ []
def cX13_diagram_w0 : List UInt8 := [0x2a, 0x03, 0xb5, 0x00, 0x01, 0x2a, 0xb6, 0x01, 0x88, 0x02, 0xa0, 0x00, 0x09, 0x2a, 0x04, 0xb6, 0x01, 0x93, 0xac, 0x2a, 0xb6, 0x01, 0xa1, 0x3c]
def cX13_diagram_r0 : List UInt8 := cX13_diagram_w0 ++ cX13_diagram_r1
theorem cX13_diagram_s0 : dw_S cX13_diagram 0 cX13_diagram_r0 := dw_S0 (by decide +kernel)
theorem cX13_diagram_s1 : dw_S cX13_diagram 24 cX13_diagram_r1 := dw_Sn (w := cX13_diagram_w0) (r := cX13_diagram_r1) cX13_diagram_s0 (by decide +kernel)
theorem cX13_diagram_k0 : dw_ok cX13_diagram (ByteArray.mk cX13_diagram_w0.toArray) 0 := dw_Sw (r := cX13_diagram_r1) cX13_diagram_s0
theorem cX13_diagram_k1 : dw_ok cX13_diagram (ByteArray.mk cX13_diagram_w1.toArray) 24 := dw_Sw (r := []) cX13_diagram_s1
def cX13_divisor_w3 : List UInt8 := [0xb8, 0x02, 0x87, 0xb8, 0x02, 0x95, 0x37, 0x04, 0x84, 0x07, 0x01, 0xa7, 0xff, 0xc6, 0x84, 0x06, 0x01, 0xa7, 0xff, 0xab, 0x16, 0x04, 0xad]
def cX13_divisor_r3 : List UInt8 := cX13_divisor_w3 ++ []
def cX13_divisor_w2 : List UInt8 := [0x1b, 0xa0, 0x00, 0x25, 0x15, 0x07, 0xb8, 0x02, 0x4e, 0x1b, 0xa0, 0x00, 0x16, 0x16, 0x04, 0x2a, 0x15, 0x06, 0x15, 0x07, 0x1b, 0xb6, 0x02, 0x91]
def cX13_divisor_r2 : List UInt8 := cX13_divisor_w2 ++ cX13_divisor_r3
def cX13_divisor_w1 : List UInt8 := [0x03, 0x36, 0x07, 0x15, 0x07, 0x04, 0x2a, 0xb4, 0x02, 0x8e, 0x78, 0xa2, 0x00, 0x35, 0x16, 0x04, 0x20, 0x94, 0x99, 0x00, 0x2e, 0x15, 0x06, 0xb8, 0x02, 0x4e]
def cX13_divisor_r1 : List UInt8 := cX13_divisor_w1 ++ cX13_divisor_r2
def cX13_divisor_w0 : List UInt8 := [0x09, 0x37, 0x04, 0x03, 0x36, 0x06, 0x15, 0x06, 0x04, 0x2a, 0xb4, 0x02, 0x8b, 0x78, 0xa2, 0x00, 0x50, 0x16, 0x04, 0x20, 0x94, 0x99, 0x00, 0x49]
def cX13_divisor_r0 : List UInt8 := cX13_divisor_w0 ++ cX13_divisor_r1
theorem cX13_divisor_s0 : dw_S cX13_divisor 0 cX13_divisor_r0 := dw_S0 (by decide +kernel)
theorem cX13_divisor_s1 : dw_S cX13_divisor 24 cX13_divisor_r1 := dw_Sn (w := cX13_divisor_w0) (r := cX13_divisor_r1) cX13_divisor_s0 (by decide +kernel)
theorem cX13_divisor_k0 : dw_ok cX13_divisor (ByteArray.mk cX13_divisor_w0.toArray) 0 := dw_Sw (r := cX13_divisor_r1) cX13_divisor_s0
theorem cX13_divisor_s2 : dw_S cX13_divisor 50 cX13_divisor_r2 := dw_Sn (w := cX13_divisor_w1) (r := cX13_divisor_r2) cX13_divisor_s1 (by decide +kernel)
theorem cX13_divisor_k1 : dw_ok cX13_divisor (ByteArray.mk cX13_divisor_w1.toArray) 24 := dw_Sw (r := cX13_divisor_r2) cX13_divisor_s1
theorem cX13_divisor_s3 : dw_S cX13_divisor 74 cX13_divisor_r3 := dw_Sn (w := cX13_divisor_w2) (r := cX13_divisor_r3) cX13_divisor_s2 (by decide +kernel)
theorem cX13_divisor_k2 : dw_ok cX13_divisor (ByteArray.mk cX13_divisor_w2.toArray) 50 := dw_Sw (r := cX13_divisor_r3) cX13_divisor_s2
theorem cX13_divisor_k3 : dw_ok cX13_divisor (ByteArray.mk cX13_divisor_w3.toArray) 74 := dw_Sw (r := []) cX13_divisor_s3
def cX13_equal_w2 : List UInt8 := [0xb6, 0x02, 0xfe, 0x2a, 0x1c, 0xb6, 0x02, 0xfb, 0x2a, 0x2a, 0xb4, 0x01, 0x79, 0x03, 0xb6, 0x02, 0xfe, 0x2a, 0xb4, 0x01, 0x76, 0x03, 0x2a, 0xb4, 0x01, 0x79, 0x03, 0xb8, 0x03, 0x02, 0xac]
def cX13_equal_r2 : List UInt8 := cX13_equal_w2 ++ []
def cX13_equal_w1 : List UInt8 := [0x1b, 0x2e, 0x2a, 0xb4, 0x01, 0x46, 0x1c, 0x2e, 0x9f, 0x00, 0x05, 0x03, 0xac, 0x2a, 0x1b, 0xb6, 0x02, 0xfb, 0x2a, 0x2a, 0xb4, 0x01, 0x76, 0x03]
def cX13_equal_r1 : List UInt8 := cX13_equal_w1 ++ cX13_equal_r2
def cX13_equal_w0 : List UInt8 := [0x2a, 0x03, 0xb5, 0x00, 0x01, 0x2a, 0x1b, 0xb6, 0x02, 0xe3, 0x99, 0x00, 0x1a, 0x2a, 0x1c, 0xb6, 0x02, 0xe3, 0x99, 0x00, 0x12, 0x2a, 0xb4, 0x01, 0x46]
def cX13_equal_r0 : List UInt8 := cX13_equal_w0 ++ cX13_equal_r1
theorem cX13_equal_s0 : dw_S cX13_equal 0 cX13_equal_r0 := dw_S0 (by decide +kernel)
theorem cX13_equal_s1 : dw_S cX13_equal 25 cX13_equal_r1 := dw_Sn (w := cX13_equal_w0) (r := cX13_equal_r1) cX13_equal_s0 (by decide +kernel)
theorem cX13_equal_k0 : dw_ok cX13_equal (ByteArray.mk cX13_equal_w0.toArray) 0 := dw_Sw (r := cX13_equal_r1) cX13_equal_s0
theorem cX13_equal_s2 : dw_S cX13_equal 49 cX13_equal_r2 := dw_Sn (w := cX13_equal_w1) (r := cX13_equal_r2) cX13_equal_s1 (by decide +kernel)
theorem cX13_equal_k1 : dw_ok cX13_equal (ByteArray.mk cX13_equal_w1.toArray) 25 := dw_Sw (r := cX13_equal_r2) cX13_equal_s1
theorem cX13_equal_k2 : dw_ok cX13_equal (ByteArray.mk cX13_equal_w2.toArray) 49 := dw_Sw (r := []) cX13_equal_s2
def cX13_factor_w3 : List UInt8 := [0x1c, 0x04, 0x64, 0x2e, 0x60, 0x68, 0x1d, 0x60, 0x2e, 0xac]
def cX13_factor_r3 : List UInt8 := cX13_factor_w3 ++ []
def cX13_factor_w2 : List UInt8 := [0xa1, 0x00, 0x07, 0x02, 0xa7, 0x00, 0x1e, 0x2a, 0xb4, 0x01, 0x4c, 0x08, 0x10, 0x78, 0x2a, 0xb4, 0x01, 0x46, 0x1b, 0x2e, 0x68, 0x2a, 0xb4, 0x01, 0x70]
def cX13_factor_r2 : List UInt8 := cX13_factor_w2 ++ cX13_factor_r3
def cX13_factor_w1 : List UInt8 := [0x1c, 0x04, 0xa1, 0x00, 0x19, 0x1c, 0x2a, 0xb4, 0x02, 0xef, 0xa3, 0x00, 0x11, 0x1d, 0x9b, 0x00, 0x0d, 0x1d, 0x2a, 0xb4, 0x01, 0x46, 0x1b, 0x2e]
def cX13_factor_r1 : List UInt8 := cX13_factor_w1 ++ cX13_factor_r2
def cX13_factor_w0 : List UInt8 := [0x2a, 0x03, 0xb5, 0x00, 0x01, 0x2a, 0x1b, 0xb6, 0x02, 0xe3, 0x9a, 0x00, 0x09, 0x2a, 0x04, 0xb6, 0x01, 0x93, 0xac, 0x2a, 0x1b, 0xb6, 0x02, 0xfb]
def cX13_factor_r0 : List UInt8 := cX13_factor_w0 ++ cX13_factor_r1
theorem cX13_factor_s0 : dw_S cX13_factor 0 cX13_factor_r0 := dw_S0 (by decide +kernel)
theorem cX13_factor_s1 : dw_S cX13_factor 24 cX13_factor_r1 := dw_Sn (w := cX13_factor_w0) (r := cX13_factor_r1) cX13_factor_s0 (by decide +kernel)
theorem cX13_factor_k0 : dw_ok cX13_factor (ByteArray.mk cX13_factor_w0.toArray) 0 := dw_Sw (r := cX13_factor_r1) cX13_factor_s0
theorem cX13_factor_s2 : dw_S cX13_factor 48 cX13_factor_r2 := dw_Sn (w := cX13_factor_w1) (r := cX13_factor_r2) cX13_factor_s1 (by decide +kernel)
theorem cX13_factor_k1 : dw_ok cX13_factor (ByteArray.mk cX13_factor_w1.toArray) 24 := dw_Sw (r := cX13_factor_r2) cX13_factor_s1
theorem cX13_factor_s3 : dw_S cX13_factor 73 cX13_factor_r3 := dw_Sn (w := cX13_factor_w2) (r := cX13_factor_r3) cX13_factor_s2 (by decide +kernel)
theorem cX13_factor_k2 : dw_ok cX13_factor (ByteArray.mk cX13_factor_w2.toArray) 48 := dw_Sw (r := cX13_factor_r3) cX13_factor_s2
theorem cX13_factor_k3 : dw_ok cX13_factor (ByteArray.mk cX13_factor_w3.toArray) 73 := dw_Sw (r := []) cX13_factor_s3
def cX13_feed_w4 : List UInt8 := [0x06, 0x7e, 0x68, 0x64, 0x7a, 0x91, 0x54, 0x2a, 0x59, 0xb4, 0x01, 0x90, 0x04, 0x60, 0xb5, 0x01, 0x90, 0x84, 0x06, 0x01, 0xa7, 0xff, 0xa5, 0x2a, 0xb4, 0x01, 0x90, 0xac]
def cX13_feed_r4 : List UInt8 := cX13_feed_w4 ++ []
def cX13_feed_w3 : List UInt8 := [0x15, 0x04, 0xa7, 0x00, 0x05, 0x15, 0x05, 0x36, 0x07, 0x2a, 0xb4, 0x00, 0x6a, 0x2a, 0xb4, 0x01, 0x90, 0x15, 0x07, 0x10, 0x18, 0x10, 0x08, 0x15, 0x06]
def cX13_feed_r3 : List UInt8 := cX13_feed_w3 ++ cX13_feed_r4
def cX13_feed_w2 : List UInt8 := [0xa2, 0x00, 0x07, 0x1c, 0xa7, 0x00, 0x1c, 0x15, 0x06, 0x10, 0x0c, 0xa2, 0x00, 0x07, 0x1d, 0xa7, 0x00, 0x11, 0x15, 0x06, 0x10, 0x10, 0xa2, 0x00, 0x08]
def cX13_feed_r2 : List UInt8 := cX13_feed_w2 ++ cX13_feed_r3
def cX13_feed_w1 : List UInt8 := [0x03, 0x36, 0x06, 0x15, 0x06, 0x10, 0x14, 0xa2, 0x00, 0x5a, 0x15, 0x06, 0x07, 0xa2, 0x00, 0x07, 0x1b, 0xa7, 0x00, 0x27, 0x15, 0x06, 0x10, 0x08]
def cX13_feed_r1 : List UInt8 := cX13_feed_w1 ++ cX13_feed_r2
def cX13_feed_w0 : List UInt8 := [0x2a, 0x03, 0xb5, 0x00, 0x01, 0x2a, 0xb4, 0x01, 0x90, 0x10, 0x14, 0x60, 0x11, 0x01, 0x90, 0xa4, 0x00, 0x09, 0x2a, 0x04, 0xb6, 0x01, 0x93, 0xac]
def cX13_feed_r0 : List UInt8 := cX13_feed_w0 ++ cX13_feed_r1
theorem cX13_feed_s0 : dw_S cX13_feed 0 cX13_feed_r0 := dw_S0 (by decide +kernel)
theorem cX13_feed_s1 : dw_S cX13_feed 24 cX13_feed_r1 := dw_Sn (w := cX13_feed_w0) (r := cX13_feed_r1) cX13_feed_s0 (by decide +kernel)
theorem cX13_feed_k0 : dw_ok cX13_feed (ByteArray.mk cX13_feed_w0.toArray) 0 := dw_Sw (r := cX13_feed_r1) cX13_feed_s0
theorem cX13_feed_s2 : dw_S cX13_feed 48 cX13_feed_r2 := dw_Sn (w := cX13_feed_w1) (r := cX13_feed_r2) cX13_feed_s1 (by decide +kernel)
theorem cX13_feed_k1 : dw_ok cX13_feed (ByteArray.mk cX13_feed_w1.toArray) 24 := dw_Sw (r := cX13_feed_r2) cX13_feed_s1
theorem cX13_feed_s3 : dw_S cX13_feed 73 cX13_feed_r3 := dw_Sn (w := cX13_feed_w2) (r := cX13_feed_r3) cX13_feed_s2 (by decide +kernel)
theorem cX13_feed_k2 : dw_ok cX13_feed (ByteArray.mk cX13_feed_w2.toArray) 48 := dw_Sw (r := cX13_feed_r3) cX13_feed_s2
theorem cX13_feed_s4 : dw_S cX13_feed 98 cX13_feed_r4 := dw_Sn (w := cX13_feed_w3) (r := cX13_feed_r4) cX13_feed_s3 (by decide +kernel)
theorem cX13_feed_k3 : dw_ok cX13_feed (ByteArray.mk cX13_feed_w3.toArray) 73 := dw_Sw (r := cX13_feed_r4) cX13_feed_s3
theorem cX13_feed_k4 : dw_ok cX13_feed (ByteArray.mk cX13_feed_w4.toArray) 98 := dw_Sw (r := []) cX13_feed_s4
def cX13_figure_w6 : List UInt8 := [0x2a, 0xb4, 0x00, 0x72, 0xb4, 0x00, 0x26, 0x1d, 0x2e, 0x2e, 0xa0, 0x00, 0x05, 0x03, 0xac, 0x84, 0x03, 0x01, 0xa7, 0xff, 0xd3, 0x04, 0xac]
def cX13_figure_r6 : List UInt8 := cX13_figure_w6 ++ []
def cX13_figure_w5 : List UInt8 := [0x2a, 0xb4, 0x00, 0x72, 0xb4, 0x00, 0x2c, 0xa2, 0x00, 0x28, 0x2a, 0xb4, 0x00, 0x72, 0xb4, 0x00, 0x20, 0x1d, 0x2e, 0x2a, 0xb4, 0x00, 0x72, 0xb4, 0x00, 0x20]
def cX13_figure_r5 : List UInt8 := cX13_figure_w5 ++ cX13_figure_r6
def cX13_figure_w4 : List UInt8 := [0x2a, 0xb4, 0x00, 0x72, 0xb4, 0x00, 0x4e, 0xac, 0x1c, 0x07, 0xa0, 0x00, 0x0b, 0x2a, 0xb4, 0x00, 0x72, 0xb8, 0x01, 0xba, 0xac, 0x03, 0x3e, 0x1d]
def cX13_figure_r4 : List UInt8 := cX13_figure_w4 ++ cX13_figure_r5
def cX13_figure_w3 : List UInt8 := [0xa0, 0x00, 0x0c, 0x2a, 0x2a, 0xb4, 0x00, 0x72, 0xb6, 0x01, 0xb6, 0xac, 0x1c, 0x06, 0xa0, 0x00, 0x12, 0x2a, 0xb4, 0x00, 0x72, 0xb6, 0x00, 0x4b]
def cX13_figure_r3 : List UInt8 := cX13_figure_w3 ++ cX13_figure_r4
def cX13_figure_w2 : List UInt8 := [0xb4, 0x00, 0x72, 0xb4, 0x00, 0x2c, 0x05, 0x6c, 0xac, 0x1c, 0x04, 0xa0, 0x00, 0x0b, 0x2a, 0xb4, 0x00, 0x72, 0xb4, 0x01, 0x97, 0xac, 0x1c, 0x05]
def cX13_figure_r2 : List UInt8 := cX13_figure_w2 ++ cX13_figure_r3
def cX13_figure_w1 : List UInt8 := [0x08, 0xa4, 0x00, 0x09, 0x2a, 0x05, 0xb6, 0x01, 0x93, 0xac, 0x2a, 0x1b, 0x2a, 0xb4, 0x00, 0x72, 0xb6, 0x01, 0xb2, 0x1c, 0x9a, 0x00, 0x0d, 0x2a]
def cX13_figure_r1 : List UInt8 := cX13_figure_w1 ++ cX13_figure_r2
def cX13_figure_w0 : List UInt8 := [0x2a, 0x03, 0xb5, 0x00, 0x01, 0x2a, 0x1b, 0xb6, 0x01, 0xa7, 0x9a, 0x00, 0x09, 0x2a, 0x04, 0xb6, 0x01, 0x93, 0xac, 0x1c, 0x9b, 0x00, 0x08, 0x1c]
def cX13_figure_r0 : List UInt8 := cX13_figure_w0 ++ cX13_figure_r1
theorem cX13_figure_s0 : dw_S cX13_figure 0 cX13_figure_r0 := dw_S0 (by decide +kernel)
theorem cX13_figure_s1 : dw_S cX13_figure 24 cX13_figure_r1 := dw_Sn (w := cX13_figure_w0) (r := cX13_figure_r1) cX13_figure_s0 (by decide +kernel)
theorem cX13_figure_k0 : dw_ok cX13_figure (ByteArray.mk cX13_figure_w0.toArray) 0 := dw_Sw (r := cX13_figure_r1) cX13_figure_s0
theorem cX13_figure_s2 : dw_S cX13_figure 48 cX13_figure_r2 := dw_Sn (w := cX13_figure_w1) (r := cX13_figure_r2) cX13_figure_s1 (by decide +kernel)
theorem cX13_figure_k1 : dw_ok cX13_figure (ByteArray.mk cX13_figure_w1.toArray) 24 := dw_Sw (r := cX13_figure_r2) cX13_figure_s1
theorem cX13_figure_s3 : dw_S cX13_figure 72 cX13_figure_r3 := dw_Sn (w := cX13_figure_w2) (r := cX13_figure_r3) cX13_figure_s2 (by decide +kernel)
theorem cX13_figure_k2 : dw_ok cX13_figure (ByteArray.mk cX13_figure_w2.toArray) 48 := dw_Sw (r := cX13_figure_r3) cX13_figure_s2
theorem cX13_figure_s4 : dw_S cX13_figure 96 cX13_figure_r4 := dw_Sn (w := cX13_figure_w3) (r := cX13_figure_r4) cX13_figure_s3 (by decide +kernel)
theorem cX13_figure_k3 : dw_ok cX13_figure (ByteArray.mk cX13_figure_w3.toArray) 72 := dw_Sw (r := cX13_figure_r4) cX13_figure_s3
theorem cX13_figure_s5 : dw_S cX13_figure 120 cX13_figure_r5 := dw_Sn (w := cX13_figure_w4) (r := cX13_figure_r5) cX13_figure_s4 (by decide +kernel)
theorem cX13_figure_k4 : dw_ok cX13_figure (ByteArray.mk cX13_figure_w4.toArray) 96 := dw_Sw (r := cX13_figure_r5) cX13_figure_s4
theorem cX13_figure_s6 : dw_S cX13_figure 146 cX13_figure_r6 := dw_Sn (w := cX13_figure_w5) (r := cX13_figure_r6) cX13_figure_s5 (by decide +kernel)
theorem cX13_figure_k5 : dw_ok cX13_figure (ByteArray.mk cX13_figure_w5.toArray) 120 := dw_Sw (r := cX13_figure_r6) cX13_figure_s5
theorem cX13_figure_k6 : dw_ok cX13_figure (ByteArray.mk cX13_figure_w6.toArray) 146 := dw_Sw (r := []) cX13_figure_s6
def cX13_find_w2 : List UInt8 := [0x04, 0xa7, 0x00, 0x04, 0x03, 0x7e, 0x36, 0x04, 0x84, 0x05, 0x01, 0xa7, 0xff, 0xd6, 0x15, 0x04, 0x99, 0x00, 0x05, 0x1d, 0xac, 0x84, 0x03, 0x01, 0xa7, 0xff, 0xb9, 0x02, 0xac]
def cX13_find_r2 : List UInt8 := cX13_find_w2 ++ []
def cX13_find_w1 : List UInt8 := [0x15, 0x04, 0x2a, 0xb4, 0x01, 0x4c, 0x08, 0x10, 0x78, 0x1b, 0x68, 0x1d, 0x60, 0x68, 0x15, 0x05, 0x60, 0x2e, 0x2c, 0x15, 0x05, 0x2e, 0xa0, 0x00, 0x07]
def cX13_find_r1 : List UInt8 := cX13_find_w1 ++ cX13_find_r2
def cX13_find_w0 : List UInt8 := [0x03, 0x3e, 0x1d, 0x2a, 0xb4, 0x01, 0x49, 0x1b, 0x2e, 0xa2, 0x00, 0x43, 0x04, 0x36, 0x04, 0x03, 0x36, 0x05, 0x15, 0x05, 0x1b, 0xa2, 0x00, 0x2a]
def cX13_find_r0 : List UInt8 := cX13_find_w0 ++ cX13_find_r1
theorem cX13_find_s0 : dw_S cX13_find 0 cX13_find_r0 := dw_S0 (by decide +kernel)
theorem cX13_find_s1 : dw_S cX13_find 24 cX13_find_r1 := dw_Sn (w := cX13_find_w0) (r := cX13_find_r1) cX13_find_s0 (by decide +kernel)
theorem cX13_find_k0 : dw_ok cX13_find (ByteArray.mk cX13_find_w0.toArray) 0 := dw_Sw (r := cX13_find_r1) cX13_find_s0
theorem cX13_find_s2 : dw_S cX13_find 49 cX13_find_r2 := dw_Sn (w := cX13_find_w1) (r := cX13_find_r2) cX13_find_s1 (by decide +kernel)
theorem cX13_find_k1 : dw_ok cX13_find (ByteArray.mk cX13_find_w1.toArray) 24 := dw_Sw (r := cX13_find_r2) cX13_find_s1
theorem cX13_find_k2 : dw_ok cX13_find (ByteArray.mk cX13_find_w2.toArray) 49 := dw_Sw (r := []) cX13_find_s2
def cX13_follows_w10 : List UInt8 := [0x3e, 0x84, 0x04, 0x01, 0xa7, 0xff, 0x0f, 0xa7, 0xff, 0x03, 0x04, 0xac]
def cX13_follows_r10 : List UInt8 := cX13_follows_w10 ++ []
def cX13_follows_w9 : List UInt8 := [0x15, 0x04, 0x2e, 0x19, 0x07, 0x11, 0x02, 0x40, 0x1c, 0x68, 0x10, 0x18, 0x15, 0x05, 0x68, 0x60, 0x15, 0x09, 0x60, 0x2e, 0xb6, 0x02, 0xa6, 0x04]
def cX13_follows_r9 : List UInt8 := cX13_follows_w9 ++ cX13_follows_r10
def cX13_follows_w8 : List UInt8 := [0x2e, 0xb6, 0x02, 0xa6, 0x04, 0x3e, 0xa7, 0x00, 0x2d, 0x15, 0x08, 0x02, 0xa0, 0x00, 0x27, 0x15, 0x09, 0x02, 0x9f, 0x00, 0x21, 0x2a, 0x2a, 0xb4, 0x00, 0xf1]
def cX13_follows_r8 : List UInt8 := cX13_follows_w8 ++ cX13_follows_r9
def cX13_follows_w7 : List UInt8 := [0x2a, 0x2a, 0xb4, 0x00, 0xf4, 0x15, 0x04, 0x2e, 0x19, 0x06, 0x11, 0x02, 0x40, 0x1c, 0x68, 0x10, 0x18, 0x15, 0x05, 0x68, 0x60, 0x15, 0x08, 0x60]
def cX13_follows_r7 : List UInt8 := cX13_follows_w7 ++ cX13_follows_r8
def cX13_follows_w6 : List UInt8 := [0x60, 0x15, 0x08, 0x60, 0x2e, 0x15, 0x09, 0x9f, 0x00, 0x05, 0x03, 0xac, 0x15, 0x08, 0x02, 0x9f, 0x00, 0x2a, 0x15, 0x09, 0x02, 0xa0, 0x00, 0x24]
def cX13_follows_r6 : List UInt8 := cX13_follows_w6 ++ cX13_follows_r7
def cX13_follows_w5 : List UInt8 := [0x15, 0x08, 0x02, 0x9f, 0x00, 0x21, 0x15, 0x09, 0x02, 0x9f, 0x00, 0x1b, 0x19, 0x06, 0x11, 0x02, 0x40, 0x1c, 0x68, 0x10, 0x18, 0x15, 0x05, 0x68]
def cX13_follows_r5 : List UInt8 := cX13_follows_w5 ++ cX13_follows_r6
def cX13_follows_w4 : List UInt8 := [0x2a, 0xb4, 0x00, 0xf1, 0x15, 0x04, 0x2e, 0x2e, 0x36, 0x08, 0x2a, 0xb4, 0x01, 0x15, 0x2a, 0xb4, 0x00, 0xf4, 0x15, 0x04, 0x2e, 0x2e, 0x36, 0x09]
def cX13_follows_r4 : List UInt8 := cX13_follows_w4 ++ cX13_follows_r5
def cX13_follows_w3 : List UInt8 := [0xb4, 0x00, 0x23, 0x15, 0x04, 0x2e, 0x9e, 0x00, 0x0a, 0x2a, 0xb4, 0x01, 0x12, 0xa7, 0x00, 0x07, 0x2a, 0xb4, 0x01, 0x0f, 0x3a, 0x07, 0x2a, 0xb4, 0x01, 0x15]
def cX13_follows_r3 : List UInt8 := cX13_follows_w3 ++ cX13_follows_r4
def cX13_follows_w2 : List UInt8 := [0x2b, 0xb4, 0x00, 0x23, 0x15, 0x04, 0x2e, 0x9e, 0x00, 0x0a, 0x2a, 0xb4, 0x01, 0x0f, 0xa7, 0x00, 0x07, 0x2a, 0xb4, 0x01, 0x12, 0x3a, 0x06, 0x2b]
def cX13_follows_r2 : List UInt8 := cX13_follows_w2 ++ cX13_follows_r3
def cX13_follows_w1 : List UInt8 := [0x2a, 0xb4, 0x00, 0xee, 0x15, 0x04, 0x2e, 0x2e, 0x36, 0x05, 0x2a, 0xb4, 0x01, 0x1b, 0x15, 0x04, 0x33, 0x99, 0x00, 0xce, 0x15, 0x05, 0x02, 0x9f, 0x00, 0xc8]
def cX13_follows_r1 : List UInt8 := cX13_follows_w1 ++ cX13_follows_r2
def cX13_follows_w0 : List UInt8 := [0x04, 0x3e, 0x1d, 0x99, 0x00, 0xff, 0x03, 0x3e, 0x03, 0x36, 0x04, 0x15, 0x04, 0x2b, 0xb4, 0x00, 0x2c, 0x05, 0x6c, 0xa2, 0x00, 0xec, 0x2a, 0xb4, 0x01, 0x15]
def cX13_follows_r0 : List UInt8 := cX13_follows_w0 ++ cX13_follows_r1
theorem cX13_follows_s0 : dw_S cX13_follows 0 cX13_follows_r0 := dw_S0 (by decide +kernel)
theorem cX13_follows_s1 : dw_S cX13_follows 26 cX13_follows_r1 := dw_Sn (w := cX13_follows_w0) (r := cX13_follows_r1) cX13_follows_s0 (by decide +kernel)
theorem cX13_follows_k0 : dw_ok cX13_follows (ByteArray.mk cX13_follows_w0.toArray) 0 := dw_Sw (r := cX13_follows_r1) cX13_follows_s0
theorem cX13_follows_s2 : dw_S cX13_follows 52 cX13_follows_r2 := dw_Sn (w := cX13_follows_w1) (r := cX13_follows_r2) cX13_follows_s1 (by decide +kernel)
theorem cX13_follows_k1 : dw_ok cX13_follows (ByteArray.mk cX13_follows_w1.toArray) 26 := dw_Sw (r := cX13_follows_r2) cX13_follows_s1
theorem cX13_follows_s3 : dw_S cX13_follows 76 cX13_follows_r3 := dw_Sn (w := cX13_follows_w2) (r := cX13_follows_r3) cX13_follows_s2 (by decide +kernel)
theorem cX13_follows_k2 : dw_ok cX13_follows (ByteArray.mk cX13_follows_w2.toArray) 52 := dw_Sw (r := cX13_follows_r3) cX13_follows_s2
theorem cX13_follows_s4 : dw_S cX13_follows 102 cX13_follows_r4 := dw_Sn (w := cX13_follows_w3) (r := cX13_follows_r4) cX13_follows_s3 (by decide +kernel)
theorem cX13_follows_k3 : dw_ok cX13_follows (ByteArray.mk cX13_follows_w3.toArray) 76 := dw_Sw (r := cX13_follows_r4) cX13_follows_s3
theorem cX13_follows_s5 : dw_S cX13_follows 126 cX13_follows_r5 := dw_Sn (w := cX13_follows_w4) (r := cX13_follows_r5) cX13_follows_s4 (by decide +kernel)
theorem cX13_follows_k4 : dw_ok cX13_follows (ByteArray.mk cX13_follows_w4.toArray) 102 := dw_Sw (r := cX13_follows_r5) cX13_follows_s4
theorem cX13_follows_s6 : dw_S cX13_follows 150 cX13_follows_r6 := dw_Sn (w := cX13_follows_w5) (r := cX13_follows_r6) cX13_follows_s5 (by decide +kernel)
theorem cX13_follows_k5 : dw_ok cX13_follows (ByteArray.mk cX13_follows_w5.toArray) 126 := dw_Sw (r := cX13_follows_r6) cX13_follows_s5
theorem cX13_follows_s7 : dw_S cX13_follows 174 cX13_follows_r7 := dw_Sn (w := cX13_follows_w6) (r := cX13_follows_r7) cX13_follows_s6 (by decide +kernel)
theorem cX13_follows_k6 : dw_ok cX13_follows (ByteArray.mk cX13_follows_w6.toArray) 150 := dw_Sw (r := cX13_follows_r7) cX13_follows_s6
theorem cX13_follows_s8 : dw_S cX13_follows 198 cX13_follows_r8 := dw_Sn (w := cX13_follows_w7) (r := cX13_follows_r8) cX13_follows_s7 (by decide +kernel)
theorem cX13_follows_k7 : dw_ok cX13_follows (ByteArray.mk cX13_follows_w7.toArray) 174 := dw_Sw (r := cX13_follows_r8) cX13_follows_s7
theorem cX13_follows_s9 : dw_S cX13_follows 224 cX13_follows_r9 := dw_Sn (w := cX13_follows_w8) (r := cX13_follows_r9) cX13_follows_s8 (by decide +kernel)
theorem cX13_follows_k8 : dw_ok cX13_follows (ByteArray.mk cX13_follows_w8.toArray) 198 := dw_Sw (r := cX13_follows_r9) cX13_follows_s8
theorem cX13_follows_s10 : dw_S cX13_follows 248 cX13_follows_r10 := dw_Sn (w := cX13_follows_w9) (r := cX13_follows_r10) cX13_follows_s9 (by decide +kernel)
theorem cX13_follows_k9 : dw_ok cX13_follows (ByteArray.mk cX13_follows_w9.toArray) 224 := dw_Sw (r := cX13_follows_r10) cX13_follows_s9
theorem cX13_follows_k10 : dw_ok cX13_follows (ByteArray.mk cX13_follows_w10.toArray) 248 := dw_Sw (r := []) cX13_follows_s10
def cX13_formOf_w6 : List UInt8 := [0xa7, 0xff, 0x80, 0x2a, 0x1c, 0x1d, 0xb6, 0x02, 0xf8, 0xb1]
def cX13_formOf_r6 : List UInt8 := cX13_formOf_w6 ++ []
def cX13_formOf_w5 : List UInt8 := [0x68, 0x2a, 0xb4, 0x01, 0x55, 0x11, 0x01, 0xe0, 0x1c, 0x68, 0x15, 0x05, 0x64, 0x04, 0x64, 0x2e, 0x60, 0x2e, 0xb6, 0x02, 0xf5, 0x84, 0x04, 0x01]
def cX13_formOf_r5 : List UInt8 := cX13_formOf_w5 ++ cX13_formOf_r6
def cX13_formOf_w4 : List UInt8 := [0x2a, 0xb4, 0x01, 0x6a, 0x15, 0x06, 0x2e, 0x64, 0x4f, 0x84, 0x06, 0x01, 0xa7, 0xff, 0xe2, 0x2a, 0x1c, 0x2a, 0xb4, 0x01, 0x58, 0x10, 0x78, 0x1c]
def cX13_formOf_r4 : List UInt8 := cX13_formOf_w4 ++ cX13_formOf_r5
def cX13_formOf_w3 : List UInt8 := [0x84, 0x03, 0xff, 0x03, 0x36, 0x06, 0x15, 0x06, 0x2a, 0xb4, 0x02, 0xe6, 0xa2, 0x00, 0x1b, 0x2a, 0xb4, 0x01, 0x6a, 0x15, 0x06, 0x1c, 0x05, 0x64]
def cX13_formOf_r3 : List UInt8 := cX13_formOf_w3 ++ cX13_formOf_r4
def cX13_formOf_w2 : List UInt8 := [0xb4, 0x01, 0x6a, 0x2a, 0xb4, 0x02, 0xe6, 0x15, 0x05, 0x04, 0x64, 0x4f, 0x2a, 0x59, 0xb4, 0x02, 0xe6, 0x04, 0x60, 0xb5, 0x02, 0xe6, 0xa7, 0x00, 0x48]
def cX13_formOf_r2 : List UInt8 := cX13_formOf_w2 ++ cX13_formOf_r3
def cX13_formOf_w1 : List UInt8 := [0x2e, 0xa2, 0x00, 0x7b, 0x2a, 0xb4, 0x01, 0x40, 0x10, 0x10, 0x1b, 0x68, 0x15, 0x04, 0x60, 0x2e, 0x36, 0x05, 0x15, 0x05, 0x9e, 0x00, 0x1d, 0x2a]
def cX13_formOf_r1 : List UInt8 := cX13_formOf_w1 ++ cX13_formOf_r2
def cX13_formOf_w0 : List UInt8 := [0x2a, 0xb4, 0x01, 0x46, 0x1b, 0x2e, 0x3d, 0x2a, 0x03, 0xb5, 0x02, 0xe6, 0x03, 0x3e, 0x03, 0x36, 0x04, 0x15, 0x04, 0x2a, 0xb4, 0x01, 0x43, 0x1b]
def cX13_formOf_r0 : List UInt8 := cX13_formOf_w0 ++ cX13_formOf_r1
theorem cX13_formOf_s0 : dw_S cX13_formOf 0 cX13_formOf_r0 := dw_S0 (by decide +kernel)
theorem cX13_formOf_s1 : dw_S cX13_formOf 24 cX13_formOf_r1 := dw_Sn (w := cX13_formOf_w0) (r := cX13_formOf_r1) cX13_formOf_s0 (by decide +kernel)
theorem cX13_formOf_k0 : dw_ok cX13_formOf (ByteArray.mk cX13_formOf_w0.toArray) 0 := dw_Sw (r := cX13_formOf_r1) cX13_formOf_s0
theorem cX13_formOf_s2 : dw_S cX13_formOf 48 cX13_formOf_r2 := dw_Sn (w := cX13_formOf_w1) (r := cX13_formOf_r2) cX13_formOf_s1 (by decide +kernel)
theorem cX13_formOf_k1 : dw_ok cX13_formOf (ByteArray.mk cX13_formOf_w1.toArray) 24 := dw_Sw (r := cX13_formOf_r2) cX13_formOf_s1
theorem cX13_formOf_s3 : dw_S cX13_formOf 73 cX13_formOf_r3 := dw_Sn (w := cX13_formOf_w2) (r := cX13_formOf_r3) cX13_formOf_s2 (by decide +kernel)
theorem cX13_formOf_k2 : dw_ok cX13_formOf (ByteArray.mk cX13_formOf_w2.toArray) 48 := dw_Sw (r := cX13_formOf_r3) cX13_formOf_s2
theorem cX13_formOf_s4 : dw_S cX13_formOf 97 cX13_formOf_r4 := dw_Sn (w := cX13_formOf_w3) (r := cX13_formOf_r4) cX13_formOf_s3 (by decide +kernel)
theorem cX13_formOf_k3 : dw_ok cX13_formOf (ByteArray.mk cX13_formOf_w3.toArray) 73 := dw_Sw (r := cX13_formOf_r4) cX13_formOf_s3
theorem cX13_formOf_s5 : dw_S cX13_formOf 121 cX13_formOf_r5 := dw_Sn (w := cX13_formOf_w4) (r := cX13_formOf_r5) cX13_formOf_s4 (by decide +kernel)
theorem cX13_formOf_k4 : dw_ok cX13_formOf (ByteArray.mk cX13_formOf_w4.toArray) 97 := dw_Sw (r := cX13_formOf_r5) cX13_formOf_s4
theorem cX13_formOf_s6 : dw_S cX13_formOf 145 cX13_formOf_r6 := dw_Sn (w := cX13_formOf_w5) (r := cX13_formOf_r6) cX13_formOf_s5 (by decide +kernel)
theorem cX13_formOf_k5 : dw_ok cX13_formOf (ByteArray.mk cX13_formOf_w5.toArray) 121 := dw_Sw (r := cX13_formOf_r6) cX13_formOf_s5
theorem cX13_formOf_k6 : dw_ok cX13_formOf (ByteArray.mk cX13_formOf_w6.toArray) 145 := dw_Sw (r := []) cX13_formOf_s6
def cX13_formTo_w1 : List UInt8 := [0x2b, 0x1c, 0x05, 0x60, 0x1d, 0x60, 0x2a, 0xb4, 0x01, 0x70, 0x1d, 0x2e, 0x4f, 0x84, 0x03, 0x01, 0xa7, 0xff, 0xe8, 0xb1]
def cX13_formTo_r1 : List UInt8 := cX13_formTo_w1 ++ []
def cX13_formTo_w0 : List UInt8 := [0x2b, 0x1c, 0x2a, 0xb4, 0x02, 0xec, 0x4f, 0x2b, 0x1c, 0x04, 0x60, 0x2a, 0xb4, 0x02, 0xef, 0x4f, 0x03, 0x3e, 0x1d, 0x2a, 0xb4, 0x02, 0xef, 0xa2, 0x00, 0x16]
def cX13_formTo_r0 : List UInt8 := cX13_formTo_w0 ++ cX13_formTo_r1
theorem cX13_formTo_s0 : dw_S cX13_formTo 0 cX13_formTo_r0 := dw_S0 (by decide +kernel)
theorem cX13_formTo_s1 : dw_S cX13_formTo 26 cX13_formTo_r1 := dw_Sn (w := cX13_formTo_w0) (r := cX13_formTo_r1) cX13_formTo_s0 (by decide +kernel)
theorem cX13_formTo_k0 : dw_ok cX13_formTo (ByteArray.mk cX13_formTo_w0.toArray) 0 := dw_Sw (r := cX13_formTo_r1) cX13_formTo_s0
theorem cX13_formTo_k1 : dw_ok cX13_formTo (ByteArray.mk cX13_formTo_w1.toArray) 26 := dw_Sw (r := []) cX13_formTo_s1
def cX13_init_w35 : List UInt8 := [0x03, 0x3c, 0x1b, 0x2a, 0xb4, 0x00, 0xb3, 0xbe, 0xa2, 0x00, 0x16, 0x2a, 0xb4, 0x00, 0xb3, 0x1b, 0xbb, 0x00, 0x13, 0x59, 0xb7, 0x00, 0x71, 0x53, 0x84, 0x01, 0x01, 0xa7, 0xff, 0xe7, 0xb1]
def cX13_init_r35 : List UInt8 := cX13_init_w35 ++ []
def cX13_init_w34 : List UInt8 := [0xb5, 0x01, 0x79, 0x2a, 0x08, 0xbc, 0x0a, 0xb5, 0x01, 0x7c, 0x2a, 0x08, 0xbc, 0x04, 0xb5, 0x01, 0x7f, 0x2a, 0xb6, 0x01, 0x82, 0x2a, 0xb6, 0x01, 0x85]
def cX13_init_r34 : List UInt8 := cX13_init_w34 ++ cX13_init_r35
def cX13_init_w33 : List UInt8 := [0xb5, 0x01, 0x70, 0x2a, 0x11, 0x1f, 0x68, 0xbc, 0x0a, 0xb5, 0x01, 0x73, 0x2a, 0x10, 0x28, 0xbc, 0x0a, 0xb5, 0x01, 0x76, 0x2a, 0x10, 0x28, 0xbc, 0x0a]
def cX13_init_r33 : List UInt8 := cX13_init_w33 ++ cX13_init_r34
def cX13_init_w32 : List UInt8 := [0x2a, 0x11, 0x02, 0x58, 0xbc, 0x0a, 0xb5, 0x01, 0x6a, 0x2a, 0x11, 0x02, 0x58, 0xbc, 0x0a, 0xb5, 0x01, 0x6d, 0x2a, 0x11, 0x02, 0x58, 0xbc, 0x0a]
def cX13_init_r32 : List UInt8 := cX13_init_w32 ++ cX13_init_r33
def cX13_init_w31 : List UInt8 := [0x2a, 0x11, 0x0b, 0x40, 0xbc, 0x0a, 0xb5, 0x01, 0x61, 0x2a, 0x08, 0xbc, 0x0a, 0xb5, 0x01, 0x64, 0x2a, 0x11, 0x01, 0x90, 0xbc, 0x0a, 0xb5, 0x01, 0x67]
def cX13_init_r31 : List UInt8 := cX13_init_w31 ++ cX13_init_r32
def cX13_init_w30 : List UInt8 := [0x11, 0x02, 0xd0, 0xbc, 0x0a, 0xb5, 0x01, 0x58, 0x2a, 0x11, 0x02, 0xd0, 0xbc, 0x0a, 0xb5, 0x01, 0x5b, 0x2a, 0x11, 0x0b, 0x40, 0xbc, 0x0a, 0xb5, 0x01, 0x5e]
def cX13_init_r30 : List UInt8 := cX13_init_w30 ++ cX13_init_r31
def cX13_init_w29 : List UInt8 := [0xbc, 0x0a, 0xb5, 0x01, 0x4f, 0x2a, 0x11, 0x02, 0xd0, 0xbc, 0x0a, 0xb5, 0x01, 0x52, 0x2a, 0x11, 0x0b, 0x40, 0xbc, 0x0a, 0xb5, 0x01, 0x55, 0x2a]
def cX13_init_r29 : List UInt8 := cX13_init_w29 ++ cX13_init_r30
def cX13_init_w28 : List UInt8 := [0xbc, 0x0a, 0xb5, 0x01, 0x46, 0x2a, 0x10, 0x06, 0xbc, 0x0a, 0xb5, 0x01, 0x49, 0x2a, 0x11, 0x0e, 0x10, 0xbc, 0x0a, 0xb5, 0x01, 0x4c, 0x2a, 0x11, 0x1c, 0x20]
def cX13_init_r28 : List UInt8 := cX13_init_w28 ++ cX13_init_r29
def cX13_init_w27 : List UInt8 := [0xbc, 0x0a, 0xb5, 0x01, 0x3d, 0x2a, 0x11, 0x01, 0x40, 0xbc, 0x0a, 0xb5, 0x01, 0x40, 0x2a, 0x10, 0x14, 0xbc, 0x0a, 0xb5, 0x01, 0x43, 0x2a, 0x10, 0x14]
def cX13_init_r27 : List UInt8 := cX13_init_w27 ++ cX13_init_r28
def cX13_init_w26 : List UInt8 := [0xb5, 0x01, 0x33, 0x2a, 0x11, 0x33, 0x90, 0xbc, 0x0a, 0xb5, 0x01, 0x36, 0x2a, 0x11, 0x33, 0x90, 0xbc, 0x0a, 0xb5, 0x01, 0x39, 0x2a, 0x13, 0x01, 0x3c]
def cX13_init_r26 : List UInt8 := cX13_init_w26 ++ cX13_init_r27
def cX13_init_w25 : List UInt8 := [0x2a, 0x11, 0x03, 0x20, 0xbc, 0x0a, 0xb5, 0x01, 0x2d, 0x2a, 0x11, 0x03, 0x20, 0xbc, 0x0a, 0xb5, 0x01, 0x30, 0x2a, 0x11, 0x33, 0x90, 0xbc, 0x0a]
def cX13_init_r25 : List UInt8 := cX13_init_w25 ++ cX13_init_r26
def cX13_init_w24 : List UInt8 := [0x11, 0x01, 0x01, 0xbc, 0x0a, 0xb5, 0x01, 0x24, 0x2a, 0x11, 0x33, 0x90, 0xbc, 0x0a, 0xb5, 0x01, 0x27, 0x2a, 0x11, 0x03, 0x20, 0xbc, 0x0a, 0xb5, 0x01, 0x2a]
def cX13_init_r24 : List UInt8 := cX13_init_w24 ++ cX13_init_r25
def cX13_init_w23 : List UInt8 := [0xbc, 0x04, 0xb5, 0x01, 0x1b, 0x2a, 0x11, 0x20, 0x00, 0xbc, 0x08, 0xb5, 0x01, 0x1e, 0x2a, 0x11, 0x01, 0x00, 0xbc, 0x0a, 0xb5, 0x01, 0x21, 0x2a]
def cX13_init_r23 : List UInt8 := cX13_init_w23 ++ cX13_init_r24
def cX13_init_w22 : List UInt8 := [0xbc, 0x0a, 0xb5, 0x01, 0x12, 0x2a, 0x10, 0x28, 0xbc, 0x0a, 0xb5, 0x01, 0x15, 0x2a, 0x10, 0x28, 0xbc, 0x0a, 0xb5, 0x01, 0x18, 0x2a, 0x10, 0x10]
def cX13_init_r22 : List UInt8 := cX13_init_w22 ++ cX13_init_r23
def cX13_init_w21 : List UInt8 := [0x4f, 0xb5, 0x01, 0x09, 0x2a, 0x11, 0x01, 0xe0, 0xbc, 0x0a, 0xb5, 0x01, 0x0c, 0x2a, 0x11, 0x0b, 0x40, 0xbc, 0x0a, 0xb5, 0x01, 0x0f, 0x2a, 0x11, 0x0b, 0x40]
def cX13_init_r21 : List UInt8 := cX13_init_w21 ++ cX13_init_r22
def cX13_init_w20 : List UInt8 := [0x2a, 0x08, 0xbc, 0x0a, 0x59, 0x03, 0x04, 0x4f, 0x59, 0x04, 0x04, 0x4f, 0x59, 0x05, 0x05, 0x4f, 0x59, 0x06, 0x10, 0x06, 0x4f, 0x59, 0x07, 0x10, 0x18]
def cX13_init_r20 : List UInt8 := cX13_init_w20 ++ cX13_init_r21
def cX13_init_w19 : List UInt8 := [0x2a, 0x10, 0x0d, 0xbc, 0x0a, 0xb5, 0x01, 0x00, 0x2a, 0x10, 0x18, 0xbc, 0x0a, 0xb5, 0x01, 0x03, 0x2a, 0x11, 0x00, 0xa9, 0xbc, 0x0b, 0xb5, 0x01, 0x06]
def cX13_init_r19 : List UInt8 := cX13_init_w19 ++ cX13_init_r20
def cX13_init_w18 : List UInt8 := [0x11, 0x01, 0x38, 0xbc, 0x0b, 0xb5, 0x00, 0xf7, 0x2a, 0x10, 0x20, 0xbc, 0x0a, 0xb5, 0x00, 0xfa, 0x2a, 0x10, 0x28, 0xbc, 0x0b, 0xb5, 0x00, 0xfd]
def cX13_init_r18 : List UInt8 := cX13_init_w18 ++ cX13_init_r19
def cX13_init_w17 : List UInt8 := [0x10, 0x10, 0xbc, 0x0a, 0xb5, 0x00, 0xee, 0x2a, 0x10, 0x10, 0xbc, 0x0a, 0xb5, 0x00, 0xf1, 0x2a, 0x10, 0x10, 0xbc, 0x0a, 0xb5, 0x00, 0xf4, 0x2a]
def cX13_init_r17 : List UInt8 := cX13_init_w17 ++ cX13_init_r18
def cX13_init_w16 : List UInt8 := [0x10, 0x14, 0xbc, 0x0b, 0xb5, 0x00, 0xe5, 0x2a, 0x10, 0x28, 0xbc, 0x0a, 0xb5, 0x00, 0xe8, 0x2a, 0x10, 0x28, 0xbc, 0x0a, 0xb5, 0x00, 0xeb, 0x2a]
def cX13_init_r16 : List UInt8 := cX13_init_w16 ++ cX13_init_r17
def cX13_init_w15 : List UInt8 := [0xbc, 0x0b, 0xb5, 0x00, 0xdc, 0x2a, 0x11, 0x01, 0x00, 0xbc, 0x0b, 0xb5, 0x00, 0xdf, 0x2a, 0x11, 0x01, 0x00, 0xbc, 0x0b, 0xb5, 0x00, 0xe2, 0x2a]
def cX13_init_r15 : List UInt8 := cX13_init_w15 ++ cX13_init_r16
def cX13_init_w14 : List UInt8 := [0xbc, 0x0b, 0xb5, 0x00, 0xd3, 0x2a, 0x10, 0x50, 0xbc, 0x0a, 0xb5, 0x00, 0xd6, 0x2a, 0x10, 0x50, 0xbc, 0x0a, 0xb5, 0x00, 0xd9, 0x2a, 0x11, 0x01, 0x00]
def cX13_init_r14 : List UInt8 := cX13_init_w14 ++ cX13_init_r15
def cX13_init_w13 : List UInt8 := [0xbc, 0x0b, 0xb5, 0x00, 0xca, 0x2a, 0x11, 0x00, 0xc9, 0xbc, 0x0b, 0xb5, 0x00, 0xcd, 0x2a, 0x10, 0x20, 0xbc, 0x0a, 0xb5, 0x00, 0xd0, 0x2a, 0x11, 0x01, 0x38]
def cX13_init_r13 : List UInt8 := cX13_init_w13 ++ cX13_init_r14
def cX13_init_w12 : List UInt8 := [0xbc, 0x0b, 0xb5, 0x00, 0xc1, 0x2a, 0x10, 0x20, 0xbc, 0x0a, 0xb5, 0x00, 0xc4, 0x2a, 0x10, 0x30, 0xbc, 0x0a, 0xb5, 0x00, 0xc7, 0x2a, 0x11, 0x00, 0xc9]
def cX13_init_r12 : List UInt8 := cX13_init_w12 ++ cX13_init_r13
def cX13_init_w11 : List UInt8 := [0xbc, 0x04, 0xb5, 0x00, 0xb7, 0x2a, 0x10, 0x28, 0xbc, 0x0b, 0xb5, 0x00, 0xba, 0x2a, 0x10, 0x20, 0xbc, 0x0a, 0xb5, 0x00, 0xbe, 0x2a, 0x11, 0x14, 0xa9]
def cX13_init_r11 : List UInt8 := cX13_init_w11 ++ cX13_init_r12
def cX13_init_w10 : List UInt8 := [0xbc, 0x04, 0xb5, 0x00, 0xad, 0x2a, 0x10, 0x10, 0xbc, 0x0a, 0xb5, 0x00, 0xb0, 0x2a, 0x10, 0x0f, 0xbd, 0x00, 0x13, 0xb5, 0x00, 0xb3, 0x2a, 0x10, 0x28]
def cX13_init_r10 : List UInt8 := cX13_init_w10 ++ cX13_init_r11
def cX13_init_w9 : List UInt8 := [0xb5, 0x00, 0xa4, 0x2a, 0x11, 0x02, 0x00, 0xbc, 0x0a, 0xb5, 0x00, 0xa7, 0x2a, 0x11, 0x02, 0x00, 0xbc, 0x0a, 0xb5, 0x00, 0xaa, 0x2a, 0x10, 0x30]
def cX13_init_r9 : List UInt8 := cX13_init_w9 ++ cX13_init_r10
def cX13_init_w8 : List UInt8 := [0x2a, 0x07, 0xbc, 0x0a, 0xb5, 0x00, 0x9b, 0x2a, 0x07, 0xbc, 0x0a, 0xb5, 0x00, 0x9e, 0x2a, 0x06, 0xbc, 0x0a, 0xb5, 0x00, 0xa1, 0x2a, 0x06, 0xbc, 0x0a]
def cX13_init_r8 : List UInt8 := cX13_init_w8 ++ cX13_init_r9
def cX13_init_w7 : List UInt8 := [0x11, 0x26, 0xc0, 0xbc, 0x0a, 0xb5, 0x00, 0x92, 0x2a, 0x10, 0x20, 0xbc, 0x0a, 0xb5, 0x00, 0x95, 0x2a, 0x10, 0x20, 0xbc, 0x0a, 0xb5, 0x00, 0x98]
def cX13_init_r7 : List UInt8 := cX13_init_w7 ++ cX13_init_r8
def cX13_init_w6 : List UInt8 := [0xbc, 0x0a, 0xb5, 0x00, 0x89, 0x2a, 0x11, 0x0a, 0x8c, 0xbc, 0x0a, 0xb5, 0x00, 0x8c, 0x2a, 0x11, 0x7d, 0x00, 0xbc, 0x0a, 0xb5, 0x00, 0x8f, 0x2a]
def cX13_init_r6 : List UInt8 := cX13_init_w6 ++ cX13_init_r7
def cX13_init_w5 : List UInt8 := [0xbc, 0x0a, 0xb5, 0x00, 0x7f, 0x2a, 0x10, 0x10, 0xbc, 0x0a, 0xb5, 0x00, 0x82, 0x2a, 0x10, 0x10, 0xbc, 0x0a, 0xb5, 0x00, 0x85, 0x2a, 0x12, 0x88]
def cX13_init_r5 : List UInt8 := cX13_init_w5 ++ cX13_init_r6
def cX13_init_w4 : List UInt8 := [0xb5, 0x00, 0x76, 0x2a, 0xbb, 0x00, 0x13, 0x59, 0xb7, 0x00, 0x71, 0xb5, 0x00, 0x79, 0x2a, 0x10, 0x10, 0xbc, 0x0a, 0xb5, 0x00, 0x7c, 0x2a, 0x10, 0x10]
def cX13_init_r4 : List UInt8 := cX13_init_w4 ++ cX13_init_r5
def cX13_init_w3 : List UInt8 := [0xbc, 0x0a, 0xb5, 0x00, 0x6e, 0x2a, 0xbb, 0x00, 0x13, 0x59, 0xb7, 0x00, 0x71, 0xb5, 0x00, 0x72, 0x2a, 0xbb, 0x00, 0x13, 0x59, 0xb7, 0x00, 0x71]
def cX13_init_r3 : List UInt8 := cX13_init_w3 ++ cX13_init_r4
def cX13_init_w2 : List UInt8 := [0xb5, 0x00, 0x55, 0x2a, 0x10, 0x14, 0xbc, 0x04, 0xb5, 0x00, 0x58, 0x2a, 0x11, 0x01, 0x90, 0xbc, 0x08, 0xb5, 0x00, 0x6a, 0x2a, 0x11, 0x05, 0x00]
def cX13_init_r2 : List UInt8 := cX13_init_w2 ++ cX13_init_r3
def cX13_init_w1 : List UInt8 := [0xb5, 0x00, 0x1a, 0x2a, 0x10, 0x28, 0xbc, 0x04, 0xb5, 0x00, 0x0b, 0x2a, 0x11, 0x02, 0x80, 0xbc, 0x0a, 0xb5, 0x00, 0x36, 0x2a, 0x10, 0x14, 0xbc, 0x0a]
def cX13_init_r1 : List UInt8 := cX13_init_w1 ++ cX13_init_r2
def cX13_init_w0 : List UInt8 := [0x2a, 0xb7, 0x00, 0x65, 0x2a, 0x10, 0x20, 0xbc, 0x0a, 0xb5, 0x00, 0x1d, 0x2a, 0x10, 0x28, 0xbc, 0x0a, 0xb5, 0x00, 0x07, 0x2a, 0x10, 0x28, 0xbc, 0x0a]
def cX13_init_r0 : List UInt8 := cX13_init_w0 ++ cX13_init_r1
theorem cX13_init_s0 : dw_S cX13_init 0 cX13_init_r0 := dw_S0 (by decide +kernel)
theorem cX13_init_s1 : dw_S cX13_init 25 cX13_init_r1 := dw_Sn (w := cX13_init_w0) (r := cX13_init_r1) cX13_init_s0 (by decide +kernel)
theorem cX13_init_k0 : dw_ok cX13_init (ByteArray.mk cX13_init_w0.toArray) 0 := dw_Sw (r := cX13_init_r1) cX13_init_s0
theorem cX13_init_s2 : dw_S cX13_init 50 cX13_init_r2 := dw_Sn (w := cX13_init_w1) (r := cX13_init_r2) cX13_init_s1 (by decide +kernel)
theorem cX13_init_k1 : dw_ok cX13_init (ByteArray.mk cX13_init_w1.toArray) 25 := dw_Sw (r := cX13_init_r2) cX13_init_s1
theorem cX13_init_s3 : dw_S cX13_init 74 cX13_init_r3 := dw_Sn (w := cX13_init_w2) (r := cX13_init_r3) cX13_init_s2 (by decide +kernel)
theorem cX13_init_k2 : dw_ok cX13_init (ByteArray.mk cX13_init_w2.toArray) 50 := dw_Sw (r := cX13_init_r3) cX13_init_s2
theorem cX13_init_s4 : dw_S cX13_init 98 cX13_init_r4 := dw_Sn (w := cX13_init_w3) (r := cX13_init_r4) cX13_init_s3 (by decide +kernel)
theorem cX13_init_k3 : dw_ok cX13_init (ByteArray.mk cX13_init_w3.toArray) 74 := dw_Sw (r := cX13_init_r4) cX13_init_s3
theorem cX13_init_s5 : dw_S cX13_init 123 cX13_init_r5 := dw_Sn (w := cX13_init_w4) (r := cX13_init_r5) cX13_init_s4 (by decide +kernel)
theorem cX13_init_k4 : dw_ok cX13_init (ByteArray.mk cX13_init_w4.toArray) 98 := dw_Sw (r := cX13_init_r5) cX13_init_s4
theorem cX13_init_s6 : dw_S cX13_init 147 cX13_init_r6 := dw_Sn (w := cX13_init_w5) (r := cX13_init_r6) cX13_init_s5 (by decide +kernel)
theorem cX13_init_k5 : dw_ok cX13_init (ByteArray.mk cX13_init_w5.toArray) 123 := dw_Sw (r := cX13_init_r6) cX13_init_s5
theorem cX13_init_s7 : dw_S cX13_init 171 cX13_init_r7 := dw_Sn (w := cX13_init_w6) (r := cX13_init_r7) cX13_init_s6 (by decide +kernel)
theorem cX13_init_k6 : dw_ok cX13_init (ByteArray.mk cX13_init_w6.toArray) 147 := dw_Sw (r := cX13_init_r7) cX13_init_s6
theorem cX13_init_s8 : dw_S cX13_init 195 cX13_init_r8 := dw_Sn (w := cX13_init_w7) (r := cX13_init_r8) cX13_init_s7 (by decide +kernel)
theorem cX13_init_k7 : dw_ok cX13_init (ByteArray.mk cX13_init_w7.toArray) 171 := dw_Sw (r := cX13_init_r8) cX13_init_s7
theorem cX13_init_s9 : dw_S cX13_init 220 cX13_init_r9 := dw_Sn (w := cX13_init_w8) (r := cX13_init_r9) cX13_init_s8 (by decide +kernel)
theorem cX13_init_k8 : dw_ok cX13_init (ByteArray.mk cX13_init_w8.toArray) 195 := dw_Sw (r := cX13_init_r9) cX13_init_s8
theorem cX13_init_s10 : dw_S cX13_init 244 cX13_init_r10 := dw_Sn (w := cX13_init_w9) (r := cX13_init_r10) cX13_init_s9 (by decide +kernel)
theorem cX13_init_k9 : dw_ok cX13_init (ByteArray.mk cX13_init_w9.toArray) 220 := dw_Sw (r := cX13_init_r10) cX13_init_s9
theorem cX13_init_s11 : dw_S cX13_init 269 cX13_init_r11 := dw_Sn (w := cX13_init_w10) (r := cX13_init_r11) cX13_init_s10 (by decide +kernel)
theorem cX13_init_k10 : dw_ok cX13_init (ByteArray.mk cX13_init_w10.toArray) 244 := dw_Sw (r := cX13_init_r11) cX13_init_s10
theorem cX13_init_s12 : dw_S cX13_init 294 cX13_init_r12 := dw_Sn (w := cX13_init_w11) (r := cX13_init_r12) cX13_init_s11 (by decide +kernel)
theorem cX13_init_k11 : dw_ok cX13_init (ByteArray.mk cX13_init_w11.toArray) 269 := dw_Sw (r := cX13_init_r12) cX13_init_s11
theorem cX13_init_s13 : dw_S cX13_init 319 cX13_init_r13 := dw_Sn (w := cX13_init_w12) (r := cX13_init_r13) cX13_init_s12 (by decide +kernel)
theorem cX13_init_k12 : dw_ok cX13_init (ByteArray.mk cX13_init_w12.toArray) 294 := dw_Sw (r := cX13_init_r13) cX13_init_s12
theorem cX13_init_s14 : dw_S cX13_init 345 cX13_init_r14 := dw_Sn (w := cX13_init_w13) (r := cX13_init_r14) cX13_init_s13 (by decide +kernel)
theorem cX13_init_k13 : dw_ok cX13_init (ByteArray.mk cX13_init_w13.toArray) 319 := dw_Sw (r := cX13_init_r14) cX13_init_s13
theorem cX13_init_s15 : dw_S cX13_init 370 cX13_init_r15 := dw_Sn (w := cX13_init_w14) (r := cX13_init_r15) cX13_init_s14 (by decide +kernel)
theorem cX13_init_k14 : dw_ok cX13_init (ByteArray.mk cX13_init_w14.toArray) 345 := dw_Sw (r := cX13_init_r15) cX13_init_s14
theorem cX13_init_s16 : dw_S cX13_init 394 cX13_init_r16 := dw_Sn (w := cX13_init_w15) (r := cX13_init_r16) cX13_init_s15 (by decide +kernel)
theorem cX13_init_k15 : dw_ok cX13_init (ByteArray.mk cX13_init_w15.toArray) 370 := dw_Sw (r := cX13_init_r16) cX13_init_s15
theorem cX13_init_s17 : dw_S cX13_init 418 cX13_init_r17 := dw_Sn (w := cX13_init_w16) (r := cX13_init_r17) cX13_init_s16 (by decide +kernel)
theorem cX13_init_k16 : dw_ok cX13_init (ByteArray.mk cX13_init_w16.toArray) 394 := dw_Sw (r := cX13_init_r17) cX13_init_s16
theorem cX13_init_s18 : dw_S cX13_init 442 cX13_init_r18 := dw_Sn (w := cX13_init_w17) (r := cX13_init_r18) cX13_init_s17 (by decide +kernel)
theorem cX13_init_k17 : dw_ok cX13_init (ByteArray.mk cX13_init_w17.toArray) 418 := dw_Sw (r := cX13_init_r18) cX13_init_s17
theorem cX13_init_s19 : dw_S cX13_init 466 cX13_init_r19 := dw_Sn (w := cX13_init_w18) (r := cX13_init_r19) cX13_init_s18 (by decide +kernel)
theorem cX13_init_k18 : dw_ok cX13_init (ByteArray.mk cX13_init_w18.toArray) 442 := dw_Sw (r := cX13_init_r19) cX13_init_s18
theorem cX13_init_s20 : dw_S cX13_init 491 cX13_init_r20 := dw_Sn (w := cX13_init_w19) (r := cX13_init_r20) cX13_init_s19 (by decide +kernel)
theorem cX13_init_k19 : dw_ok cX13_init (ByteArray.mk cX13_init_w19.toArray) 466 := dw_Sw (r := cX13_init_r20) cX13_init_s19
theorem cX13_init_s21 : dw_S cX13_init 516 cX13_init_r21 := dw_Sn (w := cX13_init_w20) (r := cX13_init_r21) cX13_init_s20 (by decide +kernel)
theorem cX13_init_k20 : dw_ok cX13_init (ByteArray.mk cX13_init_w20.toArray) 491 := dw_Sw (r := cX13_init_r21) cX13_init_s20
theorem cX13_init_s22 : dw_S cX13_init 542 cX13_init_r22 := dw_Sn (w := cX13_init_w21) (r := cX13_init_r22) cX13_init_s21 (by decide +kernel)
theorem cX13_init_k21 : dw_ok cX13_init (ByteArray.mk cX13_init_w21.toArray) 516 := dw_Sw (r := cX13_init_r22) cX13_init_s21
theorem cX13_init_s23 : dw_S cX13_init 566 cX13_init_r23 := dw_Sn (w := cX13_init_w22) (r := cX13_init_r23) cX13_init_s22 (by decide +kernel)
theorem cX13_init_k22 : dw_ok cX13_init (ByteArray.mk cX13_init_w22.toArray) 542 := dw_Sw (r := cX13_init_r23) cX13_init_s22
theorem cX13_init_s24 : dw_S cX13_init 590 cX13_init_r24 := dw_Sn (w := cX13_init_w23) (r := cX13_init_r24) cX13_init_s23 (by decide +kernel)
theorem cX13_init_k23 : dw_ok cX13_init (ByteArray.mk cX13_init_w23.toArray) 566 := dw_Sw (r := cX13_init_r24) cX13_init_s23
theorem cX13_init_s25 : dw_S cX13_init 616 cX13_init_r25 := dw_Sn (w := cX13_init_w24) (r := cX13_init_r25) cX13_init_s24 (by decide +kernel)
theorem cX13_init_k24 : dw_ok cX13_init (ByteArray.mk cX13_init_w24.toArray) 590 := dw_Sw (r := cX13_init_r25) cX13_init_s24
theorem cX13_init_s26 : dw_S cX13_init 640 cX13_init_r26 := dw_Sn (w := cX13_init_w25) (r := cX13_init_r26) cX13_init_s25 (by decide +kernel)
theorem cX13_init_k25 : dw_ok cX13_init (ByteArray.mk cX13_init_w25.toArray) 616 := dw_Sw (r := cX13_init_r26) cX13_init_s25
theorem cX13_init_s27 : dw_S cX13_init 665 cX13_init_r27 := dw_Sn (w := cX13_init_w26) (r := cX13_init_r27) cX13_init_s26 (by decide +kernel)
theorem cX13_init_k26 : dw_ok cX13_init (ByteArray.mk cX13_init_w26.toArray) 640 := dw_Sw (r := cX13_init_r27) cX13_init_s26
theorem cX13_init_s28 : dw_S cX13_init 690 cX13_init_r28 := dw_Sn (w := cX13_init_w27) (r := cX13_init_r28) cX13_init_s27 (by decide +kernel)
theorem cX13_init_k27 : dw_ok cX13_init (ByteArray.mk cX13_init_w27.toArray) 665 := dw_Sw (r := cX13_init_r28) cX13_init_s27
theorem cX13_init_s29 : dw_S cX13_init 716 cX13_init_r29 := dw_Sn (w := cX13_init_w28) (r := cX13_init_r29) cX13_init_s28 (by decide +kernel)
theorem cX13_init_k28 : dw_ok cX13_init (ByteArray.mk cX13_init_w28.toArray) 690 := dw_Sw (r := cX13_init_r29) cX13_init_s28
theorem cX13_init_s30 : dw_S cX13_init 740 cX13_init_r30 := dw_Sn (w := cX13_init_w29) (r := cX13_init_r30) cX13_init_s29 (by decide +kernel)
theorem cX13_init_k29 : dw_ok cX13_init (ByteArray.mk cX13_init_w29.toArray) 716 := dw_Sw (r := cX13_init_r30) cX13_init_s29
theorem cX13_init_s31 : dw_S cX13_init 766 cX13_init_r31 := dw_Sn (w := cX13_init_w30) (r := cX13_init_r31) cX13_init_s30 (by decide +kernel)
theorem cX13_init_k30 : dw_ok cX13_init (ByteArray.mk cX13_init_w30.toArray) 740 := dw_Sw (r := cX13_init_r31) cX13_init_s30
theorem cX13_init_s32 : dw_S cX13_init 791 cX13_init_r32 := dw_Sn (w := cX13_init_w31) (r := cX13_init_r32) cX13_init_s31 (by decide +kernel)
theorem cX13_init_k31 : dw_ok cX13_init (ByteArray.mk cX13_init_w31.toArray) 766 := dw_Sw (r := cX13_init_r32) cX13_init_s31
theorem cX13_init_s33 : dw_S cX13_init 815 cX13_init_r33 := dw_Sn (w := cX13_init_w32) (r := cX13_init_r33) cX13_init_s32 (by decide +kernel)
theorem cX13_init_k32 : dw_ok cX13_init (ByteArray.mk cX13_init_w32.toArray) 791 := dw_Sw (r := cX13_init_r33) cX13_init_s32
theorem cX13_init_s34 : dw_S cX13_init 840 cX13_init_r34 := dw_Sn (w := cX13_init_w33) (r := cX13_init_r34) cX13_init_s33 (by decide +kernel)
theorem cX13_init_k33 : dw_ok cX13_init (ByteArray.mk cX13_init_w33.toArray) 815 := dw_Sw (r := cX13_init_r34) cX13_init_s33
theorem cX13_init_s35 : dw_S cX13_init 865 cX13_init_r35 := dw_Sn (w := cX13_init_w34) (r := cX13_init_r35) cX13_init_s34 (by decide +kernel)
theorem cX13_init_k34 : dw_ok cX13_init (ByteArray.mk cX13_init_w34.toArray) 840 := dw_Sw (r := cX13_init_r35) cX13_init_s34
theorem cX13_init_k35 : dw_ok cX13_init (ByteArray.mk cX13_init_w35.toArray) 865 := dw_Sw (r := []) cX13_init_s35
def cX13_inverse_w4 : List UInt8 := [0x2e, 0x4f, 0x2a, 0xb4, 0x01, 0x46, 0x1c, 0x2a, 0xb4, 0x01, 0x46, 0x1b, 0x2e, 0x4f, 0x1c, 0xac]
def cX13_inverse_r4 : List UInt8 := cX13_inverse_w4 ++ []
def cX13_inverse_w3 : List UInt8 := [0x60, 0x04, 0x64, 0x1d, 0x64, 0x2e, 0x64, 0x4f, 0x84, 0x03, 0x01, 0xa7, 0xff, 0xd2, 0x2a, 0xb4, 0x01, 0x43, 0x1c, 0x2a, 0xb4, 0x01, 0x43, 0x1b]
def cX13_inverse_r3 : List UInt8 := cX13_inverse_w3 ++ cX13_inverse_r4
def cX13_inverse_w2 : List UInt8 := [0xb4, 0x01, 0x40, 0x10, 0x10, 0x1c, 0x68, 0x1d, 0x60, 0x03, 0x2a, 0xb4, 0x01, 0x40, 0x10, 0x10, 0x1b, 0x68, 0x2a, 0xb4, 0x01, 0x43, 0x1b, 0x2e]
def cX13_inverse_r2 : List UInt8 := cX13_inverse_w2 ++ cX13_inverse_r3
def cX13_inverse_w1 : List UInt8 := [0x1c, 0x02, 0xa0, 0x00, 0x09, 0x2a, 0x05, 0xb6, 0x01, 0x93, 0xac, 0x03, 0x3e, 0x1d, 0x2a, 0xb4, 0x01, 0x43, 0x1b, 0x2e, 0xa2, 0x00, 0x2a, 0x2a]
def cX13_inverse_r1 : List UInt8 := cX13_inverse_w1 ++ cX13_inverse_r2
def cX13_inverse_w0 : List UInt8 := [0x2a, 0x03, 0xb5, 0x00, 0x01, 0x2a, 0x1b, 0xb6, 0x02, 0xe3, 0x9a, 0x00, 0x09, 0x2a, 0x04, 0xb6, 0x01, 0x93, 0xac, 0x2a, 0xb6, 0x02, 0xe0, 0x3d]
def cX13_inverse_r0 : List UInt8 := cX13_inverse_w0 ++ cX13_inverse_r1
theorem cX13_inverse_s0 : dw_S cX13_inverse 0 cX13_inverse_r0 := dw_S0 (by decide +kernel)
theorem cX13_inverse_s1 : dw_S cX13_inverse 24 cX13_inverse_r1 := dw_Sn (w := cX13_inverse_w0) (r := cX13_inverse_r1) cX13_inverse_s0 (by decide +kernel)
theorem cX13_inverse_k0 : dw_ok cX13_inverse (ByteArray.mk cX13_inverse_w0.toArray) 0 := dw_Sw (r := cX13_inverse_r1) cX13_inverse_s0
theorem cX13_inverse_s2 : dw_S cX13_inverse 48 cX13_inverse_r2 := dw_Sn (w := cX13_inverse_w1) (r := cX13_inverse_r2) cX13_inverse_s1 (by decide +kernel)
theorem cX13_inverse_k1 : dw_ok cX13_inverse (ByteArray.mk cX13_inverse_w1.toArray) 24 := dw_Sw (r := cX13_inverse_r2) cX13_inverse_s1
theorem cX13_inverse_s3 : dw_S cX13_inverse 72 cX13_inverse_r3 := dw_Sn (w := cX13_inverse_w2) (r := cX13_inverse_r3) cX13_inverse_s2 (by decide +kernel)
theorem cX13_inverse_k2 : dw_ok cX13_inverse (ByteArray.mk cX13_inverse_w2.toArray) 48 := dw_Sw (r := cX13_inverse_r3) cX13_inverse_s2
theorem cX13_inverse_s4 : dw_S cX13_inverse 96 cX13_inverse_r4 := dw_Sn (w := cX13_inverse_w3) (r := cX13_inverse_r4) cX13_inverse_s3 (by decide +kernel)
theorem cX13_inverse_k3 : dw_ok cX13_inverse (ByteArray.mk cX13_inverse_w3.toArray) 72 := dw_Sw (r := cX13_inverse_r4) cX13_inverse_s3
theorem cX13_inverse_k4 : dw_ok cX13_inverse (ByteArray.mk cX13_inverse_w4.toArray) 96 := dw_Sw (r := []) cX13_inverse_s4
def cX13_isBelow_w2 : List UInt8 := [0x04, 0xa7, 0x00, 0x04, 0x03, 0xac, 0x84, 0x05, 0x01, 0xa7, 0xff, 0xd2, 0x2a, 0x1b, 0x2e, 0x2c, 0x1d, 0x2e, 0xa2, 0x00, 0x07, 0x04, 0xa7, 0x00, 0x04, 0x03, 0xac]
def cX13_isBelow_r2 : List UInt8 := cX13_isBelow_w2 ++ []
def cX13_isBelow_w1 : List UInt8 := [0x60, 0x2e, 0x2c, 0x1d, 0x15, 0x05, 0x60, 0x2e, 0x9f, 0x00, 0x18, 0x2a, 0x1b, 0x15, 0x05, 0x60, 0x2e, 0x2c, 0x1d, 0x15, 0x05, 0x60, 0x2e, 0xa2, 0x00, 0x07]
def cX13_isBelow_r1 : List UInt8 := cX13_isBelow_w1 ++ cX13_isBelow_r2
def cX13_isBelow_w0 : List UInt8 := [0x2a, 0x1b, 0x2e, 0x2c, 0x1d, 0x2e, 0xb8, 0x00, 0x3d, 0x36, 0x04, 0x04, 0x36, 0x05, 0x15, 0x05, 0x15, 0x04, 0xa3, 0x00, 0x2d, 0x2a, 0x1b, 0x15, 0x05]
def cX13_isBelow_r0 : List UInt8 := cX13_isBelow_w0 ++ cX13_isBelow_r1
theorem cX13_isBelow_s0 : dw_S cX13_isBelow 0 cX13_isBelow_r0 := dw_S0 (by decide +kernel)
theorem cX13_isBelow_s1 : dw_S cX13_isBelow 25 cX13_isBelow_r1 := dw_Sn (w := cX13_isBelow_w0) (r := cX13_isBelow_r1) cX13_isBelow_s0 (by decide +kernel)
theorem cX13_isBelow_k0 : dw_ok cX13_isBelow (ByteArray.mk cX13_isBelow_w0.toArray) 0 := dw_Sw (r := cX13_isBelow_r1) cX13_isBelow_s0
theorem cX13_isBelow_s2 : dw_S cX13_isBelow 51 cX13_isBelow_r2 := dw_Sn (w := cX13_isBelow_w1) (r := cX13_isBelow_r2) cX13_isBelow_s1 (by decide +kernel)
theorem cX13_isBelow_k1 : dw_ok cX13_isBelow (ByteArray.mk cX13_isBelow_w1.toArray) 25 := dw_Sw (r := cX13_isBelow_r2) cX13_isBelow_s1
theorem cX13_isBelow_k2 : dw_ok cX13_isBelow (ByteArray.mk cX13_isBelow_w2.toArray) 51 := dw_Sw (r := []) cX13_isBelow_s2
def cX13_isForm_w2 : List UInt8 := [0x60, 0x15, 0x05, 0x60, 0x2e, 0x2c, 0x1d, 0x05, 0x60, 0x15, 0x05, 0x60, 0x2e, 0xa0, 0x00, 0x07, 0x04, 0xa7, 0x00, 0x04, 0x03, 0x36, 0x04, 0x84, 0x05, 0x01, 0xa7, 0xff, 0xd4, 0x15, 0x04, 0xac]
def cX13_isForm_r2 : List UInt8 := cX13_isForm_w2 ++ []
def cX13_isForm_w1 : List UInt8 := [0x03, 0x36, 0x04, 0x03, 0x36, 0x05, 0x15, 0x04, 0x99, 0x00, 0x2d, 0x15, 0x05, 0x2a, 0x1b, 0x04, 0x60, 0x2e, 0xa2, 0x00, 0x23, 0x2a, 0x1b, 0x05]
def cX13_isForm_r1 : List UInt8 := cX13_isForm_w1 ++ cX13_isForm_r2
def cX13_isForm_w0 : List UInt8 := [0x2a, 0x1b, 0x2e, 0x2c, 0x1d, 0x2e, 0xa0, 0x00, 0x14, 0x2a, 0x1b, 0x04, 0x60, 0x2e, 0x2c, 0x1d, 0x04, 0x60, 0x2e, 0xa0, 0x00, 0x07, 0x04, 0xa7, 0x00, 0x04]
def cX13_isForm_r0 : List UInt8 := cX13_isForm_w0 ++ cX13_isForm_r1
theorem cX13_isForm_s0 : dw_S cX13_isForm 0 cX13_isForm_r0 := dw_S0 (by decide +kernel)
theorem cX13_isForm_s1 : dw_S cX13_isForm 26 cX13_isForm_r1 := dw_Sn (w := cX13_isForm_w0) (r := cX13_isForm_r1) cX13_isForm_s0 (by decide +kernel)
theorem cX13_isForm_k0 : dw_ok cX13_isForm (ByteArray.mk cX13_isForm_w0.toArray) 0 := dw_Sw (r := cX13_isForm_r1) cX13_isForm_s0
theorem cX13_isForm_s2 : dw_S cX13_isForm 50 cX13_isForm_r2 := dw_Sn (w := cX13_isForm_w1) (r := cX13_isForm_r2) cX13_isForm_s1 (by decide +kernel)
theorem cX13_isForm_k1 : dw_ok cX13_isForm (ByteArray.mk cX13_isForm_w1.toArray) 26 := dw_Sw (r := cX13_isForm_r2) cX13_isForm_s1
theorem cX13_isForm_k2 : dw_ok cX13_isForm (ByteArray.mk cX13_isForm_w2.toArray) 50 := dw_Sw (r := []) cX13_isForm_s2
def cX13_isLesser_w1 : List UInt8 := [0xa2, 0x00, 0x07, 0x04, 0xa7, 0x00, 0x0e, 0x03, 0xa7, 0x00, 0x0a, 0x2a, 0x1b, 0x2c, 0x1d, 0xb8, 0x00, 0x39, 0xac]
def cX13_isLesser_r1 : List UInt8 := cX13_isLesser_w1 ++ []
def cX13_isLesser_w0 : List UInt8 := [0x2a, 0x1b, 0xb8, 0x00, 0x43, 0x36, 0x04, 0x2c, 0x1d, 0xb8, 0x00, 0x43, 0x36, 0x05, 0x15, 0x04, 0x15, 0x05, 0x9f, 0x00, 0x12, 0x15, 0x04, 0x15, 0x05]
def cX13_isLesser_r0 : List UInt8 := cX13_isLesser_w0 ++ cX13_isLesser_r1
theorem cX13_isLesser_s0 : dw_S cX13_isLesser 0 cX13_isLesser_r0 := dw_S0 (by decide +kernel)
theorem cX13_isLesser_s1 : dw_S cX13_isLesser 25 cX13_isLesser_r1 := dw_Sn (w := cX13_isLesser_w0) (r := cX13_isLesser_r1) cX13_isLesser_s0 (by decide +kernel)
theorem cX13_isLesser_k0 : dw_ok cX13_isLesser (ByteArray.mk cX13_isLesser_w0.toArray) 0 := dw_Sw (r := cX13_isLesser_r1) cX13_isLesser_s0
theorem cX13_isLesser_k1 : dw_ok cX13_isLesser (ByteArray.mk cX13_isLesser_w1.toArray) 25 := dw_Sw (r := []) cX13_isLesser_s1
def cX13_isParted_w6 : List UInt8 := [0x84, 0x08, 0x01, 0xa7, 0xff, 0xe7, 0x04, 0x36, 0x05, 0x84, 0x06, 0x01, 0xa7, 0xff, 0x9d, 0xa7, 0xff, 0x8f, 0x04, 0xac]
def cX13_isParted_r6 : List UInt8 := cX13_isParted_w6 ++ []
def cX13_isParted_w5 : List UInt8 := [0x36, 0x08, 0x15, 0x08, 0x2b, 0xb4, 0x01, 0xc4, 0x15, 0x07, 0x04, 0x60, 0x2e, 0xa2, 0x00, 0x11, 0x2a, 0xb4, 0x00, 0xad, 0x15, 0x08, 0x04, 0x54]
def cX13_isParted_r5 : List UInt8 := cX13_isParted_w5 ++ cX13_isParted_r6
def cX13_isParted_w4 : List UInt8 := [0xb4, 0x00, 0x29, 0x15, 0x06, 0x2e, 0x2e, 0x36, 0x07, 0x15, 0x07, 0x1c, 0xa0, 0x00, 0x05, 0x03, 0xac, 0x2b, 0xb4, 0x01, 0xc4, 0x15, 0x07, 0x2e]
def cX13_isParted_r4 : List UInt8 := cX13_isParted_w4 ++ cX13_isParted_r5
def cX13_isParted_w3 : List UInt8 := [0x33, 0x99, 0x00, 0x50, 0x2a, 0xb4, 0x00, 0xad, 0x2b, 0xb4, 0x00, 0x29, 0x15, 0x06, 0x2e, 0x33, 0x9a, 0x00, 0x41, 0x2b, 0xb4, 0x00, 0x12, 0x2b]
def cX13_isParted_r3 : List UInt8 := cX13_isParted_w3 ++ cX13_isParted_r4
def cX13_isParted_w2 : List UInt8 := [0x99, 0x00, 0x72, 0x03, 0x36, 0x05, 0x03, 0x36, 0x06, 0x15, 0x06, 0x2b, 0xb4, 0x00, 0x2c, 0xa2, 0x00, 0x60, 0x2a, 0xb4, 0x00, 0xad, 0x15, 0x06]
def cX13_isParted_r2 : List UInt8 := cX13_isParted_w2 ++ cX13_isParted_r3
def cX13_isParted_w1 : List UInt8 := [0x15, 0x05, 0x15, 0x04, 0xa3, 0x00, 0x07, 0x04, 0xa7, 0x00, 0x04, 0x03, 0x54, 0x84, 0x05, 0x01, 0xa7, 0xff, 0xdb, 0x04, 0x36, 0x05, 0x15, 0x05]
def cX13_isParted_r1 : List UInt8 := cX13_isParted_w1 ++ cX13_isParted_r2
def cX13_isParted_w0 : List UInt8 := [0x03, 0x36, 0x05, 0x15, 0x05, 0x2b, 0xb4, 0x00, 0x2c, 0xa2, 0x00, 0x22, 0x2a, 0xb4, 0x00, 0xad, 0x15, 0x05, 0x15, 0x05, 0x1d, 0xa4, 0x00, 0x0e]
def cX13_isParted_r0 : List UInt8 := cX13_isParted_w0 ++ cX13_isParted_r1
theorem cX13_isParted_s0 : dw_S cX13_isParted 0 cX13_isParted_r0 := dw_S0 (by decide +kernel)
theorem cX13_isParted_s1 : dw_S cX13_isParted 24 cX13_isParted_r1 := dw_Sn (w := cX13_isParted_w0) (r := cX13_isParted_r1) cX13_isParted_s0 (by decide +kernel)
theorem cX13_isParted_k0 : dw_ok cX13_isParted (ByteArray.mk cX13_isParted_w0.toArray) 0 := dw_Sw (r := cX13_isParted_r1) cX13_isParted_s0
theorem cX13_isParted_s2 : dw_S cX13_isParted 48 cX13_isParted_r2 := dw_Sn (w := cX13_isParted_w1) (r := cX13_isParted_r2) cX13_isParted_s1 (by decide +kernel)
theorem cX13_isParted_k1 : dw_ok cX13_isParted (ByteArray.mk cX13_isParted_w1.toArray) 24 := dw_Sw (r := cX13_isParted_r2) cX13_isParted_s1
theorem cX13_isParted_s3 : dw_S cX13_isParted 72 cX13_isParted_r3 := dw_Sn (w := cX13_isParted_w2) (r := cX13_isParted_r3) cX13_isParted_s2 (by decide +kernel)
theorem cX13_isParted_k2 : dw_ok cX13_isParted (ByteArray.mk cX13_isParted_w2.toArray) 48 := dw_Sw (r := cX13_isParted_r3) cX13_isParted_s2
theorem cX13_isParted_s4 : dw_S cX13_isParted 96 cX13_isParted_r4 := dw_Sn (w := cX13_isParted_w3) (r := cX13_isParted_r4) cX13_isParted_s3 (by decide +kernel)
theorem cX13_isParted_k3 : dw_ok cX13_isParted (ByteArray.mk cX13_isParted_w3.toArray) 72 := dw_Sw (r := cX13_isParted_r4) cX13_isParted_s3
theorem cX13_isParted_s5 : dw_S cX13_isParted 120 cX13_isParted_r5 := dw_Sn (w := cX13_isParted_w4) (r := cX13_isParted_r5) cX13_isParted_s4 (by decide +kernel)
theorem cX13_isParted_k4 : dw_ok cX13_isParted (ByteArray.mk cX13_isParted_w4.toArray) 96 := dw_Sw (r := cX13_isParted_r5) cX13_isParted_s4
theorem cX13_isParted_s6 : dw_S cX13_isParted 144 cX13_isParted_r6 := dw_Sn (w := cX13_isParted_w5) (r := cX13_isParted_r6) cX13_isParted_s5 (by decide +kernel)
theorem cX13_isParted_k5 : dw_ok cX13_isParted (ByteArray.mk cX13_isParted_w5.toArray) 120 := dw_Sw (r := cX13_isParted_r6) cX13_isParted_s5
theorem cX13_isParted_k6 : dw_ok cX13_isParted (ByteArray.mk cX13_isParted_w6.toArray) 144 := dw_Sw (r := []) cX13_isParted_s6
def cX13_isPrime_w1 : List UInt8 := [0x1c, 0x1c, 0x68, 0x1a, 0xa3, 0x00, 0x15, 0x1a, 0x1c, 0x70, 0x99, 0x00, 0x07, 0x04, 0xa7, 0x00, 0x04, 0x03, 0x3c, 0x84, 0x02, 0x01, 0xa7, 0xff, 0xe6, 0x1b, 0xac]
def cX13_isPrime_r1 : List UInt8 := cX13_isPrime_w1 ++ []
def cX13_isPrime_w0 : List UInt8 := [0x1a, 0x05, 0xa1, 0x00, 0x0e, 0x1a, 0x11, 0x03, 0xe5, 0xa3, 0x00, 0x07, 0x04, 0xa7, 0x00, 0x04, 0x03, 0x3c, 0x05, 0x3d, 0x1b, 0x99, 0x00, 0x1c]
def cX13_isPrime_r0 : List UInt8 := cX13_isPrime_w0 ++ cX13_isPrime_r1
theorem cX13_isPrime_s0 : dw_S cX13_isPrime 0 cX13_isPrime_r0 := dw_S0 (by decide +kernel)
theorem cX13_isPrime_s1 : dw_S cX13_isPrime 24 cX13_isPrime_r1 := dw_Sn (w := cX13_isPrime_w0) (r := cX13_isPrime_r1) cX13_isPrime_s0 (by decide +kernel)
theorem cX13_isPrime_k0 : dw_ok cX13_isPrime (ByteArray.mk cX13_isPrime_w0.toArray) 0 := dw_Sw (r := cX13_isPrime_r1) cX13_isPrime_s0
theorem cX13_isPrime_k1 : dw_ok cX13_isPrime (ByteArray.mk cX13_isPrime_w1.toArray) 24 := dw_Sw (r := []) cX13_isPrime_s1
def cX13_join_w19 : List UInt8 := [0x15, 0x06, 0x15, 0x05, 0x64, 0x2e, 0x4f, 0x84, 0x06, 0x01, 0xa7, 0xff, 0xcb, 0x2a, 0xb6, 0x01, 0xa4, 0xac]
def cX13_join_r19 : List UInt8 := cX13_join_w19 ++ []
def cX13_join_w18 : List UInt8 := [0x15, 0x05, 0xa2, 0x00, 0x10, 0x2a, 0xb4, 0x00, 0x72, 0xb4, 0x00, 0x23, 0x15, 0x06, 0x2e, 0xa7, 0x00, 0x10, 0x2a, 0xb4, 0x00, 0x76, 0xb4, 0x00, 0x23]
def cX13_join_r18 : List UInt8 := cX13_join_w18 ++ cX13_join_r19
def cX13_join_w17 : List UInt8 := [0xa7, 0xff, 0x9a, 0x03, 0x36, 0x06, 0x15, 0x06, 0x10, 0x14, 0xa2, 0x00, 0x34, 0x2a, 0xb4, 0x00, 0x79, 0xb4, 0x00, 0x23, 0x15, 0x06, 0x15, 0x06]
def cX13_join_r17 : List UInt8 := cX13_join_w17 ++ cX13_join_r18
def cX13_join_w16 : List UInt8 := [0xb4, 0x00, 0x20, 0x15, 0x07, 0x2e, 0xb6, 0x00, 0x61, 0x84, 0x07, 0x01, 0xa7, 0xff, 0xce, 0x2a, 0xb4, 0x00, 0x79, 0xb6, 0x00, 0x5e, 0x84, 0x06, 0x01]
def cX13_join_r16 : List UInt8 := cX13_join_w16 ++ cX13_join_r17
def cX13_join_w15 : List UInt8 := [0x60, 0x2e, 0xa2, 0x00, 0x27, 0x2a, 0xb4, 0x00, 0x79, 0x2a, 0xb4, 0x00, 0x76, 0xb4, 0x00, 0x17, 0x15, 0x07, 0x2e, 0x15, 0x05, 0x60, 0x2a, 0xb4, 0x00, 0x76]
def cX13_join_r15 : List UInt8 := cX13_join_w15 ++ cX13_join_r16
def cX13_join_w14 : List UInt8 := [0x2a, 0xb4, 0x00, 0x76, 0xb4, 0x01, 0xc4, 0x15, 0x06, 0x2e, 0x36, 0x07, 0x15, 0x07, 0x2a, 0xb4, 0x00, 0x76, 0xb4, 0x01, 0xc4, 0x15, 0x06, 0x04]
def cX13_join_r14 : List UInt8 := cX13_join_w14 ++ cX13_join_r15
def cX13_join_w13 : List UInt8 := [0x2a, 0xb4, 0x00, 0x76, 0xb4, 0x01, 0x97, 0xa2, 0x00, 0x60, 0x15, 0x06, 0x2a, 0xb4, 0x00, 0x76, 0xb4, 0x00, 0x12, 0x15, 0x04, 0x2e, 0x9f, 0x00, 0x4b]
def cX13_join_r13 : List UInt8 := cX13_join_w13 ++ cX13_join_r14
def cX13_join_w12 : List UInt8 := [0x84, 0x07, 0x01, 0xa7, 0xff, 0x96, 0x2a, 0xb4, 0x00, 0x79, 0xb6, 0x00, 0x5e, 0x84, 0x06, 0x01, 0xa7, 0xff, 0x71, 0x03, 0x36, 0x06, 0x15, 0x06]
def cX13_join_r12 : List UInt8 := cX13_join_w12 ++ cX13_join_r13
def cX13_join_w11 : List UInt8 := [0x2e, 0x15, 0x05, 0x60, 0x2a, 0xb4, 0x00, 0x76, 0xb4, 0x00, 0x20, 0x15, 0x08, 0x2e, 0xb6, 0x00, 0x61, 0x15, 0x08, 0x15, 0x04, 0xa0, 0xff, 0xd2]
def cX13_join_r11 : List UInt8 := cX13_join_w11 ++ cX13_join_r12
def cX13_join_w10 : List UInt8 := [0x2a, 0xb4, 0x00, 0x76, 0xb4, 0x00, 0x26, 0x15, 0x08, 0x2e, 0x36, 0x08, 0x2a, 0xb4, 0x00, 0x79, 0x2a, 0xb4, 0x00, 0x76, 0xb4, 0x00, 0x17, 0x15, 0x08]
def cX13_join_r10 : List UInt8 := cX13_join_w10 ++ cX13_join_r11
def cX13_join_w9 : List UInt8 := [0x2e, 0x2a, 0xb4, 0x00, 0x72, 0xb4, 0x00, 0x20, 0x15, 0x07, 0x2e, 0xb6, 0x00, 0x61, 0x15, 0x07, 0x1c, 0xa0, 0x00, 0x38, 0x15, 0x04, 0x36, 0x08]
def cX13_join_r9 : List UInt8 := cX13_join_w9 ++ cX13_join_r10
def cX13_join_w8 : List UInt8 := [0xb4, 0x01, 0xc4, 0x15, 0x06, 0x04, 0x60, 0x2e, 0xa2, 0x00, 0x5f, 0x2a, 0xb4, 0x00, 0x79, 0x2a, 0xb4, 0x00, 0x72, 0xb4, 0x00, 0x17, 0x15, 0x07]
def cX13_join_r8 : List UInt8 := cX13_join_w8 ++ cX13_join_r9
def cX13_join_w7 : List UInt8 := [0xb4, 0x01, 0x97, 0xa2, 0x00, 0x89, 0x2a, 0xb4, 0x00, 0x72, 0xb4, 0x01, 0xc4, 0x15, 0x06, 0x2e, 0x36, 0x07, 0x15, 0x07, 0x2a, 0xb4, 0x00, 0x72]
def cX13_join_r7 : List UInt8 := cX13_join_w7 ++ cX13_join_r8
def cX13_join_w6 : List UInt8 := [0xb4, 0x00, 0x72, 0xb4, 0x00, 0x2c, 0x05, 0x6c, 0x36, 0x05, 0x2a, 0xb4, 0x00, 0x79, 0xb6, 0x00, 0x5b, 0x03, 0x36, 0x06, 0x15, 0x06, 0x2a, 0xb4, 0x00, 0x72]
def cX13_join_r6 : List UInt8 := cX13_join_w6 ++ cX13_join_r7
def cX13_join_w5 : List UInt8 := [0xa4, 0x00, 0x09, 0x2a, 0x05, 0xb6, 0x01, 0x93, 0xac, 0x2a, 0xb6, 0x01, 0x88, 0x02, 0xa0, 0x00, 0x09, 0x2a, 0x06, 0xb6, 0x01, 0x93, 0xac, 0x2a]
def cX13_join_r5 : List UInt8 := cX13_join_w5 ++ cX13_join_r6
def cX13_join_w4 : List UInt8 := [0x10, 0x18, 0xa3, 0x00, 0x19, 0x2a, 0xb4, 0x00, 0x72, 0xb4, 0x01, 0x97, 0x2a, 0xb4, 0x00, 0x76, 0xb4, 0x01, 0x97, 0x60, 0x04, 0x64, 0x10, 0x06]
def cX13_join_r4 : List UInt8 := cX13_join_w4 ++ cX13_join_r5
def cX13_join_w3 : List UInt8 := [0xa1, 0x00, 0x09, 0x2a, 0x04, 0xb6, 0x01, 0x93, 0xac, 0x2a, 0xb4, 0x00, 0x72, 0xb4, 0x00, 0x2c, 0x2a, 0xb4, 0x00, 0x76, 0xb4, 0x00, 0x2c, 0x60]
def cX13_join_r3 : List UInt8 := cX13_join_w3 ++ cX13_join_r4
def cX13_join_w2 : List UInt8 := [0x2a, 0xb4, 0x00, 0x72, 0xb4, 0x00, 0x2c, 0xa2, 0x00, 0x14, 0x15, 0x04, 0x9b, 0x00, 0x0f, 0x15, 0x04, 0x2a, 0xb4, 0x00, 0x76, 0xb4, 0x00, 0x2c]
def cX13_join_r2 : List UInt8 := cX13_join_w2 ++ cX13_join_r3
def cX13_join_w1 : List UInt8 := [0xac, 0x2a, 0x1b, 0x2a, 0xb4, 0x00, 0x72, 0xb6, 0x01, 0xb2, 0x2a, 0x1d, 0x2a, 0xb4, 0x00, 0x76, 0xb6, 0x01, 0xb2, 0x1c, 0x9b, 0x00, 0x1f, 0x1c]
def cX13_join_r1 : List UInt8 := cX13_join_w1 ++ cX13_join_r2
def cX13_join_w0 : List UInt8 := [0x2a, 0x03, 0xb5, 0x00, 0x01, 0x2a, 0x1b, 0xb6, 0x01, 0xa7, 0x99, 0x00, 0x0b, 0x2a, 0x1d, 0xb6, 0x01, 0xa7, 0x9a, 0x00, 0x09, 0x2a, 0x04, 0xb6, 0x01, 0x93]
def cX13_join_r0 : List UInt8 := cX13_join_w0 ++ cX13_join_r1
theorem cX13_join_s0 : dw_S cX13_join 0 cX13_join_r0 := dw_S0 (by decide +kernel)
theorem cX13_join_s1 : dw_S cX13_join 26 cX13_join_r1 := dw_Sn (w := cX13_join_w0) (r := cX13_join_r1) cX13_join_s0 (by decide +kernel)
theorem cX13_join_k0 : dw_ok cX13_join (ByteArray.mk cX13_join_w0.toArray) 0 := dw_Sw (r := cX13_join_r1) cX13_join_s0
theorem cX13_join_s2 : dw_S cX13_join 50 cX13_join_r2 := dw_Sn (w := cX13_join_w1) (r := cX13_join_r2) cX13_join_s1 (by decide +kernel)
theorem cX13_join_k1 : dw_ok cX13_join (ByteArray.mk cX13_join_w1.toArray) 26 := dw_Sw (r := cX13_join_r2) cX13_join_s1
theorem cX13_join_s3 : dw_S cX13_join 74 cX13_join_r3 := dw_Sn (w := cX13_join_w2) (r := cX13_join_r3) cX13_join_s2 (by decide +kernel)
theorem cX13_join_k2 : dw_ok cX13_join (ByteArray.mk cX13_join_w2.toArray) 50 := dw_Sw (r := cX13_join_r3) cX13_join_s2
theorem cX13_join_s4 : dw_S cX13_join 98 cX13_join_r4 := dw_Sn (w := cX13_join_w3) (r := cX13_join_r4) cX13_join_s3 (by decide +kernel)
theorem cX13_join_k3 : dw_ok cX13_join (ByteArray.mk cX13_join_w3.toArray) 74 := dw_Sw (r := cX13_join_r4) cX13_join_s3
theorem cX13_join_s5 : dw_S cX13_join 122 cX13_join_r5 := dw_Sn (w := cX13_join_w4) (r := cX13_join_r5) cX13_join_s4 (by decide +kernel)
theorem cX13_join_k4 : dw_ok cX13_join (ByteArray.mk cX13_join_w4.toArray) 98 := dw_Sw (r := cX13_join_r5) cX13_join_s4
theorem cX13_join_s6 : dw_S cX13_join 146 cX13_join_r6 := dw_Sn (w := cX13_join_w5) (r := cX13_join_r6) cX13_join_s5 (by decide +kernel)
theorem cX13_join_k5 : dw_ok cX13_join (ByteArray.mk cX13_join_w5.toArray) 122 := dw_Sw (r := cX13_join_r6) cX13_join_s5
theorem cX13_join_s7 : dw_S cX13_join 172 cX13_join_r7 := dw_Sn (w := cX13_join_w6) (r := cX13_join_r7) cX13_join_s6 (by decide +kernel)
theorem cX13_join_k6 : dw_ok cX13_join (ByteArray.mk cX13_join_w6.toArray) 146 := dw_Sw (r := cX13_join_r7) cX13_join_s6
theorem cX13_join_s8 : dw_S cX13_join 196 cX13_join_r8 := dw_Sn (w := cX13_join_w7) (r := cX13_join_r8) cX13_join_s7 (by decide +kernel)
theorem cX13_join_k7 : dw_ok cX13_join (ByteArray.mk cX13_join_w7.toArray) 172 := dw_Sw (r := cX13_join_r8) cX13_join_s7
theorem cX13_join_s9 : dw_S cX13_join 220 cX13_join_r9 := dw_Sn (w := cX13_join_w8) (r := cX13_join_r9) cX13_join_s8 (by decide +kernel)
theorem cX13_join_k8 : dw_ok cX13_join (ByteArray.mk cX13_join_w8.toArray) 196 := dw_Sw (r := cX13_join_r9) cX13_join_s8
theorem cX13_join_s10 : dw_S cX13_join 244 cX13_join_r10 := dw_Sn (w := cX13_join_w9) (r := cX13_join_r10) cX13_join_s9 (by decide +kernel)
theorem cX13_join_k9 : dw_ok cX13_join (ByteArray.mk cX13_join_w9.toArray) 220 := dw_Sw (r := cX13_join_r10) cX13_join_s9
theorem cX13_join_s11 : dw_S cX13_join 269 cX13_join_r11 := dw_Sn (w := cX13_join_w10) (r := cX13_join_r11) cX13_join_s10 (by decide +kernel)
theorem cX13_join_k10 : dw_ok cX13_join (ByteArray.mk cX13_join_w10.toArray) 244 := dw_Sw (r := cX13_join_r11) cX13_join_s10
theorem cX13_join_s12 : dw_S cX13_join 293 cX13_join_r12 := dw_Sn (w := cX13_join_w11) (r := cX13_join_r12) cX13_join_s11 (by decide +kernel)
theorem cX13_join_k11 : dw_ok cX13_join (ByteArray.mk cX13_join_w11.toArray) 269 := dw_Sw (r := cX13_join_r12) cX13_join_s11
theorem cX13_join_s13 : dw_S cX13_join 317 cX13_join_r13 := dw_Sn (w := cX13_join_w12) (r := cX13_join_r13) cX13_join_s12 (by decide +kernel)
theorem cX13_join_k12 : dw_ok cX13_join (ByteArray.mk cX13_join_w12.toArray) 293 := dw_Sw (r := cX13_join_r13) cX13_join_s12
theorem cX13_join_s14 : dw_S cX13_join 342 cX13_join_r14 := dw_Sn (w := cX13_join_w13) (r := cX13_join_r14) cX13_join_s13 (by decide +kernel)
theorem cX13_join_k13 : dw_ok cX13_join (ByteArray.mk cX13_join_w13.toArray) 317 := dw_Sw (r := cX13_join_r14) cX13_join_s13
theorem cX13_join_s15 : dw_S cX13_join 366 cX13_join_r15 := dw_Sn (w := cX13_join_w14) (r := cX13_join_r15) cX13_join_s14 (by decide +kernel)
theorem cX13_join_k14 : dw_ok cX13_join (ByteArray.mk cX13_join_w14.toArray) 342 := dw_Sw (r := cX13_join_r15) cX13_join_s14
theorem cX13_join_s16 : dw_S cX13_join 392 cX13_join_r16 := dw_Sn (w := cX13_join_w15) (r := cX13_join_r16) cX13_join_s15 (by decide +kernel)
theorem cX13_join_k15 : dw_ok cX13_join (ByteArray.mk cX13_join_w15.toArray) 366 := dw_Sw (r := cX13_join_r16) cX13_join_s15
theorem cX13_join_s17 : dw_S cX13_join 417 cX13_join_r17 := dw_Sn (w := cX13_join_w16) (r := cX13_join_r17) cX13_join_s16 (by decide +kernel)
theorem cX13_join_k16 : dw_ok cX13_join (ByteArray.mk cX13_join_w16.toArray) 392 := dw_Sw (r := cX13_join_r17) cX13_join_s16
theorem cX13_join_s18 : dw_S cX13_join 441 cX13_join_r18 := dw_Sn (w := cX13_join_w17) (r := cX13_join_r18) cX13_join_s17 (by decide +kernel)
theorem cX13_join_k17 : dw_ok cX13_join (ByteArray.mk cX13_join_w17.toArray) 417 := dw_Sw (r := cX13_join_r18) cX13_join_s17
theorem cX13_join_s19 : dw_S cX13_join 466 cX13_join_r19 := dw_Sn (w := cX13_join_w18) (r := cX13_join_r19) cX13_join_s18 (by decide +kernel)
theorem cX13_join_k18 : dw_ok cX13_join (ByteArray.mk cX13_join_w18.toArray) 441 := dw_Sw (r := cX13_join_r19) cX13_join_s18
theorem cX13_join_k19 : dw_ok cX13_join (ByteArray.mk cX13_join_w19.toArray) 466 := dw_Sw (r := []) cX13_join_s19
def cX13_jones_w4 : List UInt8 := [0x03, 0xa7, 0x00, 0x0d, 0x2a, 0xb4, 0x00, 0xca, 0x1c, 0x10, 0x64, 0x60, 0x2f, 0x88, 0xac]
def cX13_jones_r4 : List UInt8 := cX13_jones_w4 ++ []
def cX13_jones_w3 : List UInt8 := [0x1b, 0x68, 0x1d, 0x60, 0x2e, 0x4f, 0x84, 0x03, 0x01, 0xa7, 0xff, 0xe6, 0x1c, 0x10, 0x9c, 0xa1, 0x00, 0x09, 0x1c, 0x10, 0x64, 0xa4, 0x00, 0x07]
def cX13_jones_r3 : List UInt8 := cX13_jones_w3 ++ cX13_jones_r4
def cX13_jones_w2 : List UInt8 := [0xb4, 0x00, 0x72, 0xb6, 0x02, 0x58, 0x03, 0x3e, 0x1d, 0x10, 0x20, 0xa2, 0x00, 0x1a, 0x2a, 0xb4, 0x00, 0xd0, 0x1d, 0x2a, 0xb4, 0x00, 0x6e, 0x10, 0x20]
def cX13_jones_r2 : List UInt8 := cX13_jones_w2 ++ cX13_jones_r3
def cX13_jones_w1 : List UInt8 := [0x1b, 0x68, 0x2a, 0xb4, 0x00, 0xd0, 0x03, 0xb8, 0x01, 0xbd, 0x9a, 0x00, 0x33, 0x2a, 0x1b, 0x2a, 0xb4, 0x00, 0x72, 0xb6, 0x01, 0xb2, 0x2a, 0x2a]
def cX13_jones_r1 : List UInt8 := cX13_jones_w1 ++ cX13_jones_r2
def cX13_jones_w0 : List UInt8 := [0x2a, 0x03, 0xb5, 0x00, 0x01, 0x2a, 0x1b, 0xb6, 0x01, 0xa7, 0x9a, 0x00, 0x09, 0x2a, 0x04, 0xb6, 0x01, 0x93, 0xac, 0x2a, 0xb4, 0x00, 0x6e, 0x10, 0x20]
def cX13_jones_r0 : List UInt8 := cX13_jones_w0 ++ cX13_jones_r1
theorem cX13_jones_s0 : dw_S cX13_jones 0 cX13_jones_r0 := dw_S0 (by decide +kernel)
theorem cX13_jones_s1 : dw_S cX13_jones 25 cX13_jones_r1 := dw_Sn (w := cX13_jones_w0) (r := cX13_jones_r1) cX13_jones_s0 (by decide +kernel)
theorem cX13_jones_k0 : dw_ok cX13_jones (ByteArray.mk cX13_jones_w0.toArray) 0 := dw_Sw (r := cX13_jones_r1) cX13_jones_s0
theorem cX13_jones_s2 : dw_S cX13_jones 49 cX13_jones_r2 := dw_Sn (w := cX13_jones_w1) (r := cX13_jones_r2) cX13_jones_s1 (by decide +kernel)
theorem cX13_jones_k1 : dw_ok cX13_jones (ByteArray.mk cX13_jones_w1.toArray) 25 := dw_Sw (r := cX13_jones_r2) cX13_jones_s1
theorem cX13_jones_s3 : dw_S cX13_jones 74 cX13_jones_r3 := dw_Sn (w := cX13_jones_w2) (r := cX13_jones_r3) cX13_jones_s2 (by decide +kernel)
theorem cX13_jones_k2 : dw_ok cX13_jones (ByteArray.mk cX13_jones_w2.toArray) 49 := dw_Sw (r := cX13_jones_r3) cX13_jones_s2
theorem cX13_jones_s4 : dw_S cX13_jones 98 cX13_jones_r4 := dw_Sn (w := cX13_jones_w3) (r := cX13_jones_r4) cX13_jones_s3 (by decide +kernel)
theorem cX13_jones_k3 : dw_ok cX13_jones (ByteArray.mk cX13_jones_w3.toArray) 74 := dw_Sw (r := cX13_jones_r4) cX13_jones_s3
theorem cX13_jones_k4 : dw_ok cX13_jones (ByteArray.mk cX13_jones_w4.toArray) 98 := dw_Sw (r := []) cX13_jones_s4
def cX13_keepRow_w1 : List UInt8 := [0x15, 0x04, 0x60, 0x2b, 0x1c, 0x15, 0x04, 0x60, 0x2e, 0x4f, 0x84, 0x04, 0x01, 0xa7, 0xff, 0xe3, 0x1d, 0xac]
def cX13_keepRow_r1 : List UInt8 := cX13_keepRow_w1 ++ []
def cX13_keepRow_w0 : List UInt8 := [0x2a, 0xb6, 0x01, 0x88, 0x3e, 0x03, 0x36, 0x04, 0x15, 0x04, 0x2b, 0x1c, 0x2e, 0xa3, 0x00, 0x1b, 0x2a, 0xb4, 0x00, 0x6e, 0x10, 0x20, 0x1d, 0x68]
def cX13_keepRow_r0 : List UInt8 := cX13_keepRow_w0 ++ cX13_keepRow_r1
theorem cX13_keepRow_s0 : dw_S cX13_keepRow 0 cX13_keepRow_r0 := dw_S0 (by decide +kernel)
theorem cX13_keepRow_s1 : dw_S cX13_keepRow 24 cX13_keepRow_r1 := dw_Sn (w := cX13_keepRow_w0) (r := cX13_keepRow_r1) cX13_keepRow_s0 (by decide +kernel)
theorem cX13_keepRow_k0 : dw_ok cX13_keepRow (ByteArray.mk cX13_keepRow_w0.toArray) 0 := dw_Sw (r := cX13_keepRow_r1) cX13_keepRow_s0
theorem cX13_keepRow_k1 : dw_ok cX13_keepRow (ByteArray.mk cX13_keepRow_w1.toArray) 24 := dw_Sw (r := []) cX13_keepRow_s1
def cX13_leaf_w4 : List UInt8 := [0x15, 0x09, 0x64, 0x85, 0x69, 0x15, 0x09, 0x04, 0x60, 0x85, 0x6d, 0x37, 0x07, 0x84, 0x09, 0x01, 0xa7, 0xff, 0xb3, 0xb1]
def cX13_leaf_r4 : List UInt8 := cX13_leaf_w4 ++ []
def cX13_leaf_w3 : List UInt8 := [0x60, 0x5c, 0x2f, 0x15, 0x09, 0x04, 0x7e, 0x9a, 0x00, 0x08, 0x16, 0x07, 0xa7, 0x00, 0x07, 0x09, 0x16, 0x07, 0x65, 0x61, 0x50, 0x16, 0x07, 0x15, 0x06]
def cX13_leaf_r3 : List UInt8 := cX13_leaf_w3 ++ cX13_leaf_r4
def cX13_leaf_w2 : List UInt8 := [0x11, 0x00, 0x81, 0x15, 0x05, 0x15, 0x06, 0x64, 0x10, 0x14, 0x60, 0x68, 0x15, 0x04, 0x60, 0x05, 0x15, 0x09, 0x68, 0x60, 0x15, 0x06, 0x64, 0x10, 0x40]
def cX13_leaf_r2 : List UInt8 := cX13_leaf_w2 ++ cX13_leaf_r3
def cX13_leaf_w1 : List UInt8 := [0x09, 0x61, 0x50, 0xb1, 0x1b, 0x04, 0x64, 0x36, 0x06, 0x20, 0x37, 0x07, 0x03, 0x36, 0x09, 0x15, 0x09, 0x15, 0x06, 0xa3, 0x00, 0x4c, 0x2a, 0xb4, 0x00, 0xc1]
def cX13_leaf_r1 : List UInt8 := cX13_leaf_w1 ++ cX13_leaf_r2
def cX13_leaf_w0 : List UInt8 := [0x2a, 0xb4, 0x02, 0x3c, 0x9a, 0x00, 0x18, 0x2a, 0xb4, 0x00, 0xba, 0x15, 0x05, 0x5c, 0x2f, 0x1b, 0x04, 0xa0, 0x00, 0x07, 0x20, 0xa7, 0x00, 0x04]
def cX13_leaf_r0 : List UInt8 := cX13_leaf_w0 ++ cX13_leaf_r1
theorem cX13_leaf_s0 : dw_S cX13_leaf 0 cX13_leaf_r0 := dw_S0 (by decide +kernel)
theorem cX13_leaf_s1 : dw_S cX13_leaf 24 cX13_leaf_r1 := dw_Sn (w := cX13_leaf_w0) (r := cX13_leaf_r1) cX13_leaf_s0 (by decide +kernel)
theorem cX13_leaf_k0 : dw_ok cX13_leaf (ByteArray.mk cX13_leaf_w0.toArray) 0 := dw_Sw (r := cX13_leaf_r1) cX13_leaf_s0
theorem cX13_leaf_s2 : dw_S cX13_leaf 50 cX13_leaf_r2 := dw_Sn (w := cX13_leaf_w1) (r := cX13_leaf_r2) cX13_leaf_s1 (by decide +kernel)
theorem cX13_leaf_k1 : dw_ok cX13_leaf (ByteArray.mk cX13_leaf_w1.toArray) 24 := dw_Sw (r := cX13_leaf_r2) cX13_leaf_s1
theorem cX13_leaf_s3 : dw_S cX13_leaf 75 cX13_leaf_r3 := dw_Sn (w := cX13_leaf_w2) (r := cX13_leaf_r3) cX13_leaf_s2 (by decide +kernel)
theorem cX13_leaf_k2 : dw_ok cX13_leaf (ByteArray.mk cX13_leaf_w2.toArray) 50 := dw_Sw (r := cX13_leaf_r3) cX13_leaf_s2
theorem cX13_leaf_s4 : dw_S cX13_leaf 100 cX13_leaf_r4 := dw_Sn (w := cX13_leaf_w3) (r := cX13_leaf_r4) cX13_leaf_s3 (by decide +kernel)
theorem cX13_leaf_k3 : dw_ok cX13_leaf (ByteArray.mk cX13_leaf_w3.toArray) 75 := dw_Sw (r := cX13_leaf_r4) cX13_leaf_s3
theorem cX13_leaf_k4 : dw_ok cX13_leaf (ByteArray.mk cX13_leaf_w4.toArray) 100 := dw_Sw (r := []) cX13_leaf_s4
def cX13_leastOf_w3 : List UInt8 := [0x2a, 0xb4, 0x00, 0x36, 0x1d, 0x15, 0x06, 0x60, 0x2a, 0xb4, 0x00, 0x1d, 0x15, 0x06, 0x2e, 0x4f, 0x84, 0x06, 0x01, 0xa7, 0xff, 0xe4, 0x84, 0x05, 0x01, 0xa7, 0xff, 0xa2, 0x15, 0x04, 0xac]
def cX13_leastOf_r3 : List UInt8 := cX13_leastOf_w3 ++ []
def cX13_leastOf_w2 : List UInt8 := [0x03, 0x2a, 0xb4, 0x00, 0x36, 0x1d, 0xb8, 0x00, 0x39, 0x99, 0x00, 0x25, 0x03, 0x36, 0x06, 0x15, 0x06, 0x2a, 0xb4, 0x00, 0x0f, 0xa3, 0x00, 0x19]
def cX13_leastOf_r2 : List UInt8 := cX13_leastOf_w2 ++ cX13_leastOf_r3
def cX13_leastOf_w1 : List UInt8 := [0x2e, 0x2e, 0x1c, 0xa0, 0x00, 0x45, 0x84, 0x04, 0x01, 0x2a, 0x2b, 0x15, 0x05, 0xb6, 0x00, 0x32, 0x15, 0x04, 0x04, 0x9f, 0x00, 0x13, 0x2a, 0xb4, 0x00, 0x1d]
def cX13_leastOf_r1 : List UInt8 := cX13_leastOf_w1 ++ cX13_leastOf_r2
def cX13_leastOf_w0 : List UInt8 := [0x03, 0x36, 0x04, 0x03, 0x36, 0x05, 0x15, 0x05, 0x2b, 0xb4, 0x00, 0x2c, 0xa2, 0x00, 0x5b, 0x2b, 0xb4, 0x00, 0x2f, 0x2b, 0xb4, 0x00, 0x12, 0x15, 0x05]
def cX13_leastOf_r0 : List UInt8 := cX13_leastOf_w0 ++ cX13_leastOf_r1
theorem cX13_leastOf_s0 : dw_S cX13_leastOf 0 cX13_leastOf_r0 := dw_S0 (by decide +kernel)
theorem cX13_leastOf_s1 : dw_S cX13_leastOf 25 cX13_leastOf_r1 := dw_Sn (w := cX13_leastOf_w0) (r := cX13_leastOf_r1) cX13_leastOf_s0 (by decide +kernel)
theorem cX13_leastOf_k0 : dw_ok cX13_leastOf (ByteArray.mk cX13_leastOf_w0.toArray) 0 := dw_Sw (r := cX13_leastOf_r1) cX13_leastOf_s0
theorem cX13_leastOf_s2 : dw_S cX13_leastOf 51 cX13_leastOf_r2 := dw_Sn (w := cX13_leastOf_w1) (r := cX13_leastOf_r2) cX13_leastOf_s1 (by decide +kernel)
theorem cX13_leastOf_k1 : dw_ok cX13_leastOf (ByteArray.mk cX13_leastOf_w1.toArray) 25 := dw_Sw (r := cX13_leastOf_r2) cX13_leastOf_s1
theorem cX13_leastOf_s3 : dw_S cX13_leastOf 75 cX13_leastOf_r3 := dw_Sn (w := cX13_leastOf_w2) (r := cX13_leastOf_r3) cX13_leastOf_s2 (by decide +kernel)
theorem cX13_leastOf_k2 : dw_ok cX13_leastOf (ByteArray.mk cX13_leastOf_w2.toArray) 51 := dw_Sw (r := cX13_leastOf_r3) cX13_leastOf_s2
theorem cX13_leastOf_k3 : dw_ok cX13_leastOf (ByteArray.mk cX13_leastOf_w3.toArray) 75 := dw_Sw (r := []) cX13_leastOf_s3
def cX13_leave_w7 : List UInt8 := [0x60, 0xb5, 0x02, 0x8e, 0x84, 0x03, 0x01, 0xa7, 0xff, 0xaf, 0xb1]
def cX13_leave_r7 : List UInt8 := cX13_leave_w7 ++ []
def cX13_leave_w6 : List UInt8 := [0xa7, 0xff, 0xdc, 0x15, 0x04, 0x99, 0x00, 0x17, 0x2a, 0xb4, 0x01, 0x03, 0x2a, 0xb4, 0x02, 0x8e, 0x1d, 0x4f, 0x2a, 0x59, 0xb4, 0x02, 0x8e, 0x04]
def cX13_leave_r6 : List UInt8 := cX13_leave_w6 ++ cX13_leave_r7
def cX13_leave_w5 : List UInt8 := [0x10, 0x18, 0x15, 0x05, 0x68, 0x1d, 0x60, 0x2f, 0x09, 0x94, 0x99, 0x00, 0x07, 0x04, 0xa7, 0x00, 0x04, 0x03, 0x80, 0x36, 0x04, 0x84, 0x05, 0x01]
def cX13_leave_r5 : List UInt8 := cX13_leave_w5 ++ cX13_leave_r6
def cX13_leave_w4 : List UInt8 := [0x1d, 0x2a, 0xb4, 0x02, 0x72, 0xa2, 0x00, 0x4f, 0x03, 0x36, 0x04, 0x1b, 0x36, 0x05, 0x15, 0x05, 0x1c, 0xa2, 0x00, 0x24, 0x15, 0x04, 0x2a, 0xb4, 0x00, 0xf7]
def cX13_leave_r4 : List UInt8 := cX13_leave_w4 ++ cX13_leave_r5
def cX13_leave_w3 : List UInt8 := [0x4f, 0x2a, 0x59, 0xb4, 0x02, 0x8b, 0x04, 0x60, 0xb5, 0x02, 0x8b, 0x84, 0x03, 0x01, 0xa7, 0xff, 0xaf, 0x2a, 0x03, 0xb5, 0x02, 0x8e, 0x1b, 0x3e]
def cX13_leave_r3 : List UInt8 := cX13_leave_w3 ++ cX13_leave_r4
def cX13_leave_w2 : List UInt8 := [0x03, 0x80, 0x36, 0x04, 0x84, 0x05, 0x01, 0xa7, 0xff, 0xd9, 0x15, 0x04, 0x99, 0x00, 0x17, 0x2a, 0xb4, 0x01, 0x00, 0x2a, 0xb4, 0x02, 0x8b, 0x1d]
def cX13_leave_r2 : List UInt8 := cX13_leave_w2 ++ cX13_leave_r3
def cX13_leave_w1 : List UInt8 := [0xa2, 0x00, 0x24, 0x15, 0x04, 0x2a, 0xb4, 0x00, 0xf7, 0x10, 0x18, 0x1d, 0x68, 0x15, 0x05, 0x60, 0x2f, 0x09, 0x94, 0x99, 0x00, 0x07, 0x04, 0xa7, 0x00, 0x04]
def cX13_leave_r1 : List UInt8 := cX13_leave_w1 ++ cX13_leave_r2
def cX13_leave_w0 : List UInt8 := [0x2a, 0x03, 0xb5, 0x02, 0x8b, 0x1b, 0x3e, 0x1d, 0x1c, 0xa2, 0x00, 0x52, 0x03, 0x36, 0x04, 0x1b, 0x36, 0x05, 0x15, 0x05, 0x2a, 0xb4, 0x02, 0x72]
def cX13_leave_r0 : List UInt8 := cX13_leave_w0 ++ cX13_leave_r1
theorem cX13_leave_s0 : dw_S cX13_leave 0 cX13_leave_r0 := dw_S0 (by decide +kernel)
theorem cX13_leave_s1 : dw_S cX13_leave 24 cX13_leave_r1 := dw_Sn (w := cX13_leave_w0) (r := cX13_leave_r1) cX13_leave_s0 (by decide +kernel)
theorem cX13_leave_k0 : dw_ok cX13_leave (ByteArray.mk cX13_leave_w0.toArray) 0 := dw_Sw (r := cX13_leave_r1) cX13_leave_s0
theorem cX13_leave_s2 : dw_S cX13_leave 50 cX13_leave_r2 := dw_Sn (w := cX13_leave_w1) (r := cX13_leave_r2) cX13_leave_s1 (by decide +kernel)
theorem cX13_leave_k1 : dw_ok cX13_leave (ByteArray.mk cX13_leave_w1.toArray) 24 := dw_Sw (r := cX13_leave_r2) cX13_leave_s1
theorem cX13_leave_s3 : dw_S cX13_leave 74 cX13_leave_r3 := dw_Sn (w := cX13_leave_w2) (r := cX13_leave_r3) cX13_leave_s2 (by decide +kernel)
theorem cX13_leave_k2 : dw_ok cX13_leave (ByteArray.mk cX13_leave_w2.toArray) 50 := dw_Sw (r := cX13_leave_r3) cX13_leave_s2
theorem cX13_leave_s4 : dw_S cX13_leave 98 cX13_leave_r4 := dw_Sn (w := cX13_leave_w3) (r := cX13_leave_r4) cX13_leave_s3 (by decide +kernel)
theorem cX13_leave_k3 : dw_ok cX13_leave (ByteArray.mk cX13_leave_w3.toArray) 74 := dw_Sw (r := cX13_leave_r4) cX13_leave_s3
theorem cX13_leave_s5 : dw_S cX13_leave 124 cX13_leave_r5 := dw_Sn (w := cX13_leave_w4) (r := cX13_leave_r5) cX13_leave_s4 (by decide +kernel)
theorem cX13_leave_k4 : dw_ok cX13_leave (ByteArray.mk cX13_leave_w4.toArray) 98 := dw_Sw (r := cX13_leave_r5) cX13_leave_s4
theorem cX13_leave_s6 : dw_S cX13_leave 148 cX13_leave_r6 := dw_Sn (w := cX13_leave_w5) (r := cX13_leave_r6) cX13_leave_s5 (by decide +kernel)
theorem cX13_leave_k5 : dw_ok cX13_leave (ByteArray.mk cX13_leave_w5.toArray) 124 := dw_Sw (r := cX13_leave_r6) cX13_leave_s5
theorem cX13_leave_s7 : dw_S cX13_leave 172 cX13_leave_r7 := dw_Sn (w := cX13_leave_w6) (r := cX13_leave_r7) cX13_leave_s6 (by decide +kernel)
theorem cX13_leave_k6 : dw_ok cX13_leave (ByteArray.mk cX13_leave_w6.toArray) 148 := dw_Sw (r := cX13_leave_r7) cX13_leave_s6
theorem cX13_leave_k7 : dw_ok cX13_leave (ByteArray.mk cX13_leave_w7.toArray) 172 := dw_Sw (r := []) cX13_leave_s7
def cX13_linking_w6 : List UInt8 := [0x2e, 0x60, 0x36, 0x04, 0x84, 0x05, 0x01, 0xa7, 0xff, 0xb6, 0x15, 0x04, 0x05, 0x6c, 0xac]
def cX13_linking_r6 : List UInt8 := cX13_linking_w6 ++ []
def cX13_linking_w5 : List UInt8 := [0x2e, 0x1d, 0xa0, 0x00, 0x1a, 0x15, 0x04, 0x2a, 0xb4, 0x00, 0x72, 0xb4, 0x00, 0x23, 0x2a, 0xb4, 0x00, 0x72, 0xb4, 0x00, 0x17, 0x15, 0x05, 0x2e]
def cX13_linking_r5 : List UInt8 := cX13_linking_w5 ++ cX13_linking_r6
def cX13_linking_w4 : List UInt8 := [0x15, 0x05, 0x2e, 0x1c, 0xa0, 0x00, 0x30, 0x2a, 0xb4, 0x00, 0x72, 0xb4, 0x00, 0x12, 0x2a, 0xb4, 0x00, 0x72, 0xb4, 0x00, 0x29, 0x15, 0x05, 0x2e]
def cX13_linking_r4 : List UInt8 := cX13_linking_w4 ++ cX13_linking_r5
def cX13_linking_w3 : List UInt8 := [0xac, 0x03, 0x36, 0x04, 0x03, 0x36, 0x05, 0x15, 0x05, 0x2a, 0xb4, 0x00, 0x72, 0xb4, 0x00, 0x2c, 0xa2, 0x00, 0x44, 0x2a, 0xb4, 0x00, 0x72, 0xb4, 0x00, 0x12]
def cX13_linking_r3 : List UInt8 := cX13_linking_w3 ++ cX13_linking_r4
def cX13_linking_w2 : List UInt8 := [0xb4, 0x00, 0x72, 0xb4, 0x01, 0x97, 0xa1, 0x00, 0x09, 0x2a, 0x04, 0xb6, 0x01, 0x93, 0xac, 0x1c, 0x1d, 0xa0, 0x00, 0x09, 0x2a, 0x05, 0xb6, 0x01, 0x93]
def cX13_linking_r2 : List UInt8 := cX13_linking_w2 ++ cX13_linking_r3
def cX13_linking_w1 : List UInt8 := [0xb6, 0x01, 0xb2, 0x1c, 0x9b, 0x00, 0x1d, 0x1c, 0x2a, 0xb4, 0x00, 0x72, 0xb4, 0x01, 0x97, 0xa2, 0x00, 0x12, 0x1d, 0x9b, 0x00, 0x0e, 0x1d, 0x2a]
def cX13_linking_r1 : List UInt8 := cX13_linking_w1 ++ cX13_linking_r2
def cX13_linking_w0 : List UInt8 := [0x2a, 0x03, 0xb5, 0x00, 0x01, 0x2a, 0x1b, 0xb6, 0x01, 0xa7, 0x9a, 0x00, 0x09, 0x2a, 0x04, 0xb6, 0x01, 0x93, 0xac, 0x2a, 0x1b, 0x2a, 0xb4, 0x00, 0x72]
def cX13_linking_r0 : List UInt8 := cX13_linking_w0 ++ cX13_linking_r1
theorem cX13_linking_s0 : dw_S cX13_linking 0 cX13_linking_r0 := dw_S0 (by decide +kernel)
theorem cX13_linking_s1 : dw_S cX13_linking 25 cX13_linking_r1 := dw_Sn (w := cX13_linking_w0) (r := cX13_linking_r1) cX13_linking_s0 (by decide +kernel)
theorem cX13_linking_k0 : dw_ok cX13_linking (ByteArray.mk cX13_linking_w0.toArray) 0 := dw_Sw (r := cX13_linking_r1) cX13_linking_s0
theorem cX13_linking_s2 : dw_S cX13_linking 49 cX13_linking_r2 := dw_Sn (w := cX13_linking_w1) (r := cX13_linking_r2) cX13_linking_s1 (by decide +kernel)
theorem cX13_linking_k1 : dw_ok cX13_linking (ByteArray.mk cX13_linking_w1.toArray) 25 := dw_Sw (r := cX13_linking_r2) cX13_linking_s1
theorem cX13_linking_s3 : dw_S cX13_linking 74 cX13_linking_r3 := dw_Sn (w := cX13_linking_w2) (r := cX13_linking_r3) cX13_linking_s2 (by decide +kernel)
theorem cX13_linking_k2 : dw_ok cX13_linking (ByteArray.mk cX13_linking_w2.toArray) 49 := dw_Sw (r := cX13_linking_r3) cX13_linking_s2
theorem cX13_linking_s4 : dw_S cX13_linking 100 cX13_linking_r4 := dw_Sn (w := cX13_linking_w3) (r := cX13_linking_r4) cX13_linking_s3 (by decide +kernel)
theorem cX13_linking_k3 : dw_ok cX13_linking (ByteArray.mk cX13_linking_w3.toArray) 74 := dw_Sw (r := cX13_linking_r4) cX13_linking_s3
theorem cX13_linking_s5 : dw_S cX13_linking 124 cX13_linking_r5 := dw_Sn (w := cX13_linking_w4) (r := cX13_linking_r5) cX13_linking_s4 (by decide +kernel)
theorem cX13_linking_k4 : dw_ok cX13_linking (ByteArray.mk cX13_linking_w4.toArray) 100 := dw_Sw (r := cX13_linking_r5) cX13_linking_s4
theorem cX13_linking_s6 : dw_S cX13_linking 148 cX13_linking_r6 := dw_Sn (w := cX13_linking_w5) (r := cX13_linking_r6) cX13_linking_s5 (by decide +kernel)
theorem cX13_linking_k5 : dw_ok cX13_linking (ByteArray.mk cX13_linking_w5.toArray) 124 := dw_Sw (r := cX13_linking_r6) cX13_linking_s5
theorem cX13_linking_k6 : dw_ok cX13_linking (ByteArray.mk cX13_linking_w6.toArray) 148 := dw_Sw (r := []) cX13_linking_s6
def cX13_loops_w5 : List UInt8 := [0xb4, 0x02, 0x45, 0x1d, 0x2e, 0x2b, 0xb4, 0x02, 0x45, 0x15, 0x04, 0x2e, 0xb6, 0x02, 0x48, 0x2a, 0x1d, 0x15, 0x04, 0xb6, 0x02, 0x48, 0x84, 0x03, 0x01, 0xa7, 0xff, 0x84, 0xb1]
def cX13_loops_r5 : List UInt8 := cX13_loops_w5 ++ []
def cX13_loops_w4 : List UInt8 := [0x1d, 0x2e, 0x15, 0x04, 0xb6, 0x02, 0x48, 0x2a, 0x2b, 0xb4, 0x02, 0x45, 0x15, 0x04, 0x2e, 0x1d, 0xb6, 0x02, 0x48, 0xa7, 0x00, 0x1b, 0x2a, 0x2b]
def cX13_loops_r4 : List UInt8 := cX13_loops_w4 ++ cX13_loops_r5
def cX13_loops_w3 : List UInt8 := [0x2b, 0xb4, 0x00, 0x17, 0x1d, 0x2e, 0x2e, 0x9e, 0x00, 0x07, 0x04, 0xa7, 0x00, 0x04, 0x03, 0x15, 0x05, 0x9f, 0x00, 0x1e, 0x2a, 0x2b, 0xb4, 0x02, 0x45]
def cX13_loops_r3 : List UInt8 := cX13_loops_w3 ++ cX13_loops_r4
def cX13_loops_w2 : List UInt8 := [0x1c, 0x2b, 0xb4, 0x00, 0x17, 0x1d, 0x2e, 0x7a, 0x04, 0x7e, 0x04, 0xa0, 0x00, 0x07, 0x04, 0xa7, 0x00, 0x04, 0x03, 0x36, 0x05, 0x2b, 0xb4, 0x00, 0x23]
def cX13_loops_r2 : List UInt8 := cX13_loops_w2 ++ cX13_loops_r3
def cX13_loops_w1 : List UInt8 := [0x2b, 0xb4, 0x00, 0x2c, 0xa2, 0x00, 0x7a, 0x2b, 0xb4, 0x00, 0x29, 0x1d, 0x2e, 0x36, 0x04, 0x2b, 0xb4, 0x00, 0x20, 0x1d, 0x2e, 0x9a, 0x00, 0x63]
def cX13_loops_r1 : List UInt8 := cX13_loops_w1 ++ cX13_loops_r2
def cX13_loops_w0 : List UInt8 := [0x03, 0x3e, 0x1d, 0x10, 0x30, 0xa2, 0x00, 0x10, 0x2a, 0xb4, 0x00, 0xc7, 0x1d, 0x1d, 0x4f, 0x84, 0x03, 0x01, 0xa7, 0xff, 0xf0, 0x03, 0x3e, 0x1d]
def cX13_loops_r0 : List UInt8 := cX13_loops_w0 ++ cX13_loops_r1
theorem cX13_loops_s0 : dw_S cX13_loops 0 cX13_loops_r0 := dw_S0 (by decide +kernel)
theorem cX13_loops_s1 : dw_S cX13_loops 24 cX13_loops_r1 := dw_Sn (w := cX13_loops_w0) (r := cX13_loops_r1) cX13_loops_s0 (by decide +kernel)
theorem cX13_loops_k0 : dw_ok cX13_loops (ByteArray.mk cX13_loops_w0.toArray) 0 := dw_Sw (r := cX13_loops_r1) cX13_loops_s0
theorem cX13_loops_s2 : dw_S cX13_loops 48 cX13_loops_r2 := dw_Sn (w := cX13_loops_w1) (r := cX13_loops_r2) cX13_loops_s1 (by decide +kernel)
theorem cX13_loops_k1 : dw_ok cX13_loops (ByteArray.mk cX13_loops_w1.toArray) 24 := dw_Sw (r := cX13_loops_r2) cX13_loops_s1
theorem cX13_loops_s3 : dw_S cX13_loops 73 cX13_loops_r3 := dw_Sn (w := cX13_loops_w2) (r := cX13_loops_r3) cX13_loops_s2 (by decide +kernel)
theorem cX13_loops_k2 : dw_ok cX13_loops (ByteArray.mk cX13_loops_w2.toArray) 48 := dw_Sw (r := cX13_loops_r3) cX13_loops_s2
theorem cX13_loops_s4 : dw_S cX13_loops 98 cX13_loops_r4 := dw_Sn (w := cX13_loops_w3) (r := cX13_loops_r4) cX13_loops_s3 (by decide +kernel)
theorem cX13_loops_k3 : dw_ok cX13_loops (ByteArray.mk cX13_loops_w3.toArray) 73 := dw_Sw (r := cX13_loops_r4) cX13_loops_s3
theorem cX13_loops_s5 : dw_S cX13_loops 122 cX13_loops_r5 := dw_Sn (w := cX13_loops_w4) (r := cX13_loops_r5) cX13_loops_s4 (by decide +kernel)
theorem cX13_loops_k4 : dw_ok cX13_loops (ByteArray.mk cX13_loops_w4.toArray) 98 := dw_Sw (r := cX13_loops_r5) cX13_loops_s4
theorem cX13_loops_k5 : dw_ok cX13_loops (ByteArray.mk cX13_loops_w5.toArray) 122 := dw_Sw (r := []) cX13_loops_s5
def cX13_makeArcs_w11 : List UInt8 := [0x1c, 0x2e, 0x4f, 0x84, 0x02, 0x01, 0xa7, 0xff, 0xbe, 0xb1]
def cX13_makeArcs_r11 : List UInt8 := cX13_makeArcs_w11 ++ []
def cX13_makeArcs_w10 : List UInt8 := [0xa7, 0x00, 0x1b, 0x2a, 0xb4, 0x00, 0xf1, 0x1d, 0x2a, 0xb4, 0x00, 0xe8, 0x1c, 0x2e, 0x4f, 0x2a, 0xb4, 0x00, 0xf4, 0x1d, 0x2a, 0xb4, 0x00, 0xeb]
def cX13_makeArcs_r10 : List UInt8 := cX13_makeArcs_w10 ++ cX13_makeArcs_r11
def cX13_makeArcs_w9 : List UInt8 := [0x1c, 0x2e, 0x3e, 0x2b, 0xb4, 0x00, 0x20, 0x1c, 0x2e, 0x9a, 0x00, 0x12, 0x2a, 0xb4, 0x00, 0xee, 0x1d, 0x2a, 0xb4, 0x00, 0xe8, 0x1c, 0x2e, 0x4f]
def cX13_makeArcs_r9 : List UInt8 := cX13_makeArcs_w9 ++ cX13_makeArcs_r10
def cX13_makeArcs_w8 : List UInt8 := [0x15, 0x04, 0x1d, 0xa0, 0xff, 0xb3, 0x84, 0x02, 0x01, 0xa7, 0xff, 0x39, 0x03, 0x3d, 0x1c, 0x2b, 0xb4, 0x00, 0x2c, 0xa2, 0x00, 0x40, 0x2b, 0xb4, 0x00, 0x17]
def cX13_makeArcs_r8 : List UInt8 := cX13_makeArcs_w8 ++ cX13_makeArcs_r9
def cX13_makeArcs_w7 : List UInt8 := [0x36, 0x04, 0xa7, 0xff, 0xe2, 0x2a, 0xb4, 0x00, 0xe8, 0x15, 0x04, 0x2a, 0xb4, 0x02, 0x72, 0x4f, 0x2a, 0x59, 0xb4, 0x02, 0x72, 0x04, 0x60, 0xb5, 0x02, 0x72]
def cX13_makeArcs_r7 : List UInt8 := cX13_makeArcs_w7 ++ cX13_makeArcs_r8
def cX13_makeArcs_w6 : List UInt8 := [0x15, 0x04, 0x2e, 0x9a, 0x00, 0x1a, 0x2a, 0xb4, 0x00, 0xe8, 0x15, 0x04, 0x2a, 0xb4, 0x02, 0x72, 0x4f, 0x2b, 0xb4, 0x00, 0x26, 0x15, 0x04, 0x2e]
def cX13_makeArcs_r6 : List UInt8 := cX13_makeArcs_w6 ++ cX13_makeArcs_r7
def cX13_makeArcs_w5 : List UInt8 := [0x36, 0x04, 0x2a, 0xb4, 0x00, 0xeb, 0x15, 0x04, 0x2a, 0xb4, 0x02, 0x72, 0x4f, 0x2b, 0xb4, 0x00, 0x26, 0x15, 0x04, 0x2e, 0x36, 0x04, 0x2b, 0xb4, 0x00, 0x20]
def cX13_makeArcs_r5 : List UInt8 := cX13_makeArcs_w5 ++ cX13_makeArcs_r6
def cX13_makeArcs_w4 : List UInt8 := [0xb4, 0x02, 0x72, 0x4f, 0x84, 0x04, 0x01, 0xa7, 0xff, 0xe5, 0x2a, 0x59, 0xb4, 0x02, 0x72, 0x04, 0x60, 0xb5, 0x02, 0x72, 0xa7, 0x00, 0x56, 0x1d]
def cX13_makeArcs_r4 : List UInt8 := cX13_makeArcs_w4 ++ cX13_makeArcs_r5
def cX13_makeArcs_w3 : List UInt8 := [0x1c, 0x2e, 0x36, 0x04, 0x15, 0x04, 0x2b, 0xb4, 0x01, 0xc4, 0x1c, 0x04, 0x60, 0x2e, 0xa2, 0x00, 0x14, 0x2a, 0xb4, 0x00, 0xe8, 0x15, 0x04, 0x2a]
def cX13_makeArcs_r3 : List UInt8 := cX13_makeArcs_w3 ++ cX13_makeArcs_r4
def cX13_makeArcs_w2 : List UInt8 := [0xa0, 0x00, 0x08, 0x15, 0x04, 0xa7, 0x00, 0x04, 0x1d, 0x3e, 0x84, 0x04, 0xff, 0xa7, 0xff, 0xe0, 0x1d, 0x02, 0xa0, 0x00, 0x36, 0x2b, 0xb4, 0x01, 0xc4]
def cX13_makeArcs_r2 : List UInt8 := cX13_makeArcs_w2 ++ cX13_makeArcs_r3
def cX13_makeArcs_w1 : List UInt8 := [0x2e, 0x04, 0x64, 0x36, 0x04, 0x15, 0x04, 0x2b, 0xb4, 0x01, 0xc4, 0x1c, 0x2e, 0xa1, 0x00, 0x1b, 0x2b, 0xb4, 0x00, 0x20, 0x15, 0x04, 0x2e, 0x04]
def cX13_makeArcs_r1 : List UInt8 := cX13_makeArcs_w1 ++ cX13_makeArcs_r2
def cX13_makeArcs_w0 : List UInt8 := [0x2a, 0x03, 0xb5, 0x02, 0x72, 0x03, 0x3d, 0x1c, 0x2b, 0xb4, 0x01, 0x97, 0xa2, 0x00, 0xc5, 0x02, 0x3e, 0x2b, 0xb4, 0x01, 0xc4, 0x1c, 0x04, 0x60]
def cX13_makeArcs_r0 : List UInt8 := cX13_makeArcs_w0 ++ cX13_makeArcs_r1
theorem cX13_makeArcs_s0 : dw_S cX13_makeArcs 0 cX13_makeArcs_r0 := dw_S0 (by decide +kernel)
theorem cX13_makeArcs_s1 : dw_S cX13_makeArcs 24 cX13_makeArcs_r1 := dw_Sn (w := cX13_makeArcs_w0) (r := cX13_makeArcs_r1) cX13_makeArcs_s0 (by decide +kernel)
theorem cX13_makeArcs_k0 : dw_ok cX13_makeArcs (ByteArray.mk cX13_makeArcs_w0.toArray) 0 := dw_Sw (r := cX13_makeArcs_r1) cX13_makeArcs_s0
theorem cX13_makeArcs_s2 : dw_S cX13_makeArcs 48 cX13_makeArcs_r2 := dw_Sn (w := cX13_makeArcs_w1) (r := cX13_makeArcs_r2) cX13_makeArcs_s1 (by decide +kernel)
theorem cX13_makeArcs_k1 : dw_ok cX13_makeArcs (ByteArray.mk cX13_makeArcs_w1.toArray) 24 := dw_Sw (r := cX13_makeArcs_r2) cX13_makeArcs_s1
theorem cX13_makeArcs_s3 : dw_S cX13_makeArcs 73 cX13_makeArcs_r3 := dw_Sn (w := cX13_makeArcs_w2) (r := cX13_makeArcs_r3) cX13_makeArcs_s2 (by decide +kernel)
theorem cX13_makeArcs_k2 : dw_ok cX13_makeArcs (ByteArray.mk cX13_makeArcs_w2.toArray) 48 := dw_Sw (r := cX13_makeArcs_r3) cX13_makeArcs_s2
theorem cX13_makeArcs_s4 : dw_S cX13_makeArcs 97 cX13_makeArcs_r4 := dw_Sn (w := cX13_makeArcs_w3) (r := cX13_makeArcs_r4) cX13_makeArcs_s3 (by decide +kernel)
theorem cX13_makeArcs_k3 : dw_ok cX13_makeArcs (ByteArray.mk cX13_makeArcs_w3.toArray) 73 := dw_Sw (r := cX13_makeArcs_r4) cX13_makeArcs_s3
theorem cX13_makeArcs_s5 : dw_S cX13_makeArcs 121 cX13_makeArcs_r5 := dw_Sn (w := cX13_makeArcs_w4) (r := cX13_makeArcs_r5) cX13_makeArcs_s4 (by decide +kernel)
theorem cX13_makeArcs_k4 : dw_ok cX13_makeArcs (ByteArray.mk cX13_makeArcs_w4.toArray) 97 := dw_Sw (r := cX13_makeArcs_r5) cX13_makeArcs_s4
theorem cX13_makeArcs_s6 : dw_S cX13_makeArcs 147 cX13_makeArcs_r6 := dw_Sn (w := cX13_makeArcs_w5) (r := cX13_makeArcs_r6) cX13_makeArcs_s5 (by decide +kernel)
theorem cX13_makeArcs_k5 : dw_ok cX13_makeArcs (ByteArray.mk cX13_makeArcs_w5.toArray) 121 := dw_Sw (r := cX13_makeArcs_r6) cX13_makeArcs_s5
theorem cX13_makeArcs_s7 : dw_S cX13_makeArcs 171 cX13_makeArcs_r7 := dw_Sn (w := cX13_makeArcs_w6) (r := cX13_makeArcs_r7) cX13_makeArcs_s6 (by decide +kernel)
theorem cX13_makeArcs_k6 : dw_ok cX13_makeArcs (ByteArray.mk cX13_makeArcs_w6.toArray) 147 := dw_Sw (r := cX13_makeArcs_r7) cX13_makeArcs_s6
theorem cX13_makeArcs_s8 : dw_S cX13_makeArcs 197 cX13_makeArcs_r8 := dw_Sn (w := cX13_makeArcs_w7) (r := cX13_makeArcs_r8) cX13_makeArcs_s7 (by decide +kernel)
theorem cX13_makeArcs_k7 : dw_ok cX13_makeArcs (ByteArray.mk cX13_makeArcs_w7.toArray) 171 := dw_Sw (r := cX13_makeArcs_r8) cX13_makeArcs_s7
theorem cX13_makeArcs_s9 : dw_S cX13_makeArcs 223 cX13_makeArcs_r9 := dw_Sn (w := cX13_makeArcs_w8) (r := cX13_makeArcs_r9) cX13_makeArcs_s8 (by decide +kernel)
theorem cX13_makeArcs_k8 : dw_ok cX13_makeArcs (ByteArray.mk cX13_makeArcs_w8.toArray) 197 := dw_Sw (r := cX13_makeArcs_r9) cX13_makeArcs_s8
theorem cX13_makeArcs_s10 : dw_S cX13_makeArcs 247 cX13_makeArcs_r10 := dw_Sn (w := cX13_makeArcs_w9) (r := cX13_makeArcs_r10) cX13_makeArcs_s9 (by decide +kernel)
theorem cX13_makeArcs_k9 : dw_ok cX13_makeArcs (ByteArray.mk cX13_makeArcs_w9.toArray) 223 := dw_Sw (r := cX13_makeArcs_r10) cX13_makeArcs_s9
theorem cX13_makeArcs_s11 : dw_S cX13_makeArcs 271 cX13_makeArcs_r11 := dw_Sn (w := cX13_makeArcs_w10) (r := cX13_makeArcs_r11) cX13_makeArcs_s10 (by decide +kernel)
theorem cX13_makeArcs_k10 : dw_ok cX13_makeArcs (ByteArray.mk cX13_makeArcs_w10.toArray) 247 := dw_Sw (r := cX13_makeArcs_r11) cX13_makeArcs_s10
theorem cX13_makeArcs_k11 : dw_ok cX13_makeArcs (ByteArray.mk cX13_makeArcs_w11.toArray) 271 := dw_Sw (r := []) cX13_makeArcs_s11
def cX13_makeCover_w14 : List UInt8 := [0x09, 0x50, 0x2a, 0x59, 0xb4, 0x02, 0x80, 0x04, 0x60, 0xb5, 0x02, 0x80, 0x84, 0x09, 0x01, 0xa7, 0xff, 0xde, 0xb1]
def cX13_makeCover_r14 : List UInt8 := cX13_makeCover_w14 ++ []
def cX13_makeCover_w13 : List UInt8 := [0x1d, 0x15, 0x06, 0x60, 0x36, 0x09, 0x15, 0x09, 0x2a, 0xb4, 0x02, 0x72, 0x04, 0x64, 0xa2, 0x00, 0x1d, 0x2a, 0xb4, 0x00, 0xfd, 0x2a, 0xb4, 0x02, 0x80]
def cX13_makeCover_r13 : List UInt8 := cX13_makeCover_w13 ++ cX13_makeCover_r14
def cX13_makeCover_w12 : List UInt8 := [0x04, 0x60, 0xb5, 0x02, 0x80, 0x16, 0x07, 0x37, 0x04, 0x2a, 0x15, 0x06, 0x04, 0x60, 0x16, 0x04, 0xb6, 0x02, 0x83, 0x37, 0x07, 0xa7, 0xff, 0xc6]
def cX13_makeCover_r12 : List UInt8 := cX13_makeCover_w12 ++ cX13_makeCover_r13
def cX13_makeCover_w11 : List UInt8 := [0x16, 0x04, 0x94, 0x99, 0x00, 0x1b, 0x2a, 0xb4, 0x00, 0xfd, 0x2a, 0xb4, 0x02, 0x80, 0x16, 0x07, 0x16, 0x04, 0x6d, 0x50, 0x2a, 0x59, 0xb4, 0x02, 0x80]
def cX13_makeCover_r11 : List UInt8 := cX13_makeCover_w11 ++ cX13_makeCover_r12
def cX13_makeCover_w10 : List UInt8 := [0x37, 0x04, 0x03, 0x36, 0x06, 0x2a, 0x04, 0x0a, 0xb6, 0x02, 0x83, 0x37, 0x07, 0x16, 0x07, 0x09, 0x94, 0x99, 0x00, 0x39, 0x84, 0x06, 0x01, 0x16, 0x07]
def cX13_makeCover_r10 : List UInt8 := cX13_makeCover_w10 ++ cX13_makeCover_r11
def cX13_makeCover_w9 : List UInt8 := [0x84, 0x04, 0x01, 0xa7, 0xff, 0xac, 0x84, 0x03, 0x01, 0xa7, 0xff, 0x8b, 0x2a, 0x1d, 0x1c, 0xb6, 0x02, 0x7d, 0x2a, 0x03, 0xb5, 0x02, 0x80, 0x0a]
def cX13_makeCover_r9 : List UInt8 := cX13_makeCover_w9 ++ cX13_makeCover_r10
def cX13_makeCover_w8 : List UInt8 := [0x5c, 0x2f, 0x16, 0x05, 0x2a, 0xb4, 0x00, 0xf7, 0x10, 0x18, 0x1d, 0x68, 0x15, 0x07, 0x60, 0x2f, 0x69, 0x65, 0x50, 0x84, 0x07, 0x01, 0xa7, 0xff, 0xd5]
def cX13_makeCover_r8 : List UInt8 := cX13_makeCover_w8 ++ cX13_makeCover_r9
def cX13_makeCover_w7 : List UInt8 := [0x1d, 0x36, 0x07, 0x15, 0x07, 0x2a, 0xb4, 0x02, 0x72, 0xa2, 0x00, 0x28, 0x2a, 0xb4, 0x00, 0xf7, 0x10, 0x18, 0x15, 0x04, 0x68, 0x15, 0x07, 0x60]
def cX13_makeCover_r7 : List UInt8 := cX13_makeCover_w7 ++ cX13_makeCover_r8
def cX13_makeCover_w6 : List UInt8 := [0xb4, 0x00, 0xf7, 0x10, 0x18, 0x15, 0x04, 0x68, 0x1d, 0x60, 0x2f, 0x2a, 0xb4, 0x00, 0xf7, 0x10, 0x18, 0x1d, 0x68, 0x1d, 0x60, 0x2f, 0x69, 0x37, 0x05]
def cX13_makeCover_r6 : List UInt8 := cX13_makeCover_w6 ++ cX13_makeCover_r7
def cX13_makeCover_w5 : List UInt8 := [0xa2, 0x00, 0x6e, 0x2a, 0x1d, 0x1c, 0xb6, 0x02, 0x7a, 0x99, 0x00, 0x65, 0x1d, 0x04, 0x60, 0x36, 0x04, 0x15, 0x04, 0x1c, 0xa2, 0x00, 0x54, 0x2a]
def cX13_makeCover_r5 : List UInt8 := cX13_makeCover_w5 ++ cX13_makeCover_r6
def cX13_makeCover_w4 : List UInt8 := [0x1d, 0x2e, 0x60, 0x5c, 0x2f, 0x0a, 0x65, 0x50, 0x84, 0x03, 0x01, 0xa7, 0xff, 0xba, 0x03, 0x3e, 0x1d, 0x1c, 0xa2, 0x00, 0x76, 0x1d, 0x2a, 0xb4, 0x02, 0x72]
def cX13_makeCover_r4 : List UInt8 := cX13_makeCover_w4 ++ cX13_makeCover_r5
def cX13_makeCover_w3 : List UInt8 := [0x2a, 0xb4, 0x00, 0xf1, 0x1d, 0x2e, 0x60, 0x5c, 0x2f, 0x0a, 0x65, 0x50, 0x2a, 0xb4, 0x00, 0xf7, 0x10, 0x18, 0x1d, 0x68, 0x2a, 0xb4, 0x00, 0xf4]
def cX13_makeCover_r3 : List UInt8 := cX13_makeCover_w3 ++ cX13_makeCover_r4
def cX13_makeCover_w2 : List UInt8 := [0x1d, 0x68, 0x2a, 0xb4, 0x00, 0xee, 0x1d, 0x2e, 0x60, 0x5c, 0x2f, 0x14, 0x02, 0x78, 0x61, 0x50, 0x2a, 0xb4, 0x00, 0xf7, 0x10, 0x18, 0x1d, 0x68]
def cX13_makeCover_r2 : List UInt8 := cX13_makeCover_w2 ++ cX13_makeCover_r3
def cX13_makeCover_w1 : List UInt8 := [0xb4, 0x00, 0xf7, 0x1d, 0x09, 0x50, 0x84, 0x03, 0x01, 0xa7, 0xff, 0xed, 0x03, 0x3e, 0x1d, 0x1c, 0xa2, 0x00, 0x47, 0x2a, 0xb4, 0x00, 0xf7, 0x10, 0x18]
def cX13_makeCover_r1 : List UInt8 := cX13_makeCover_w1 ++ cX13_makeCover_r2
def cX13_makeCover_w0 : List UInt8 := [0x2a, 0x2b, 0xb6, 0x02, 0x75, 0x2b, 0xb4, 0x00, 0x2c, 0x05, 0x6c, 0x3d, 0x03, 0x3e, 0x1d, 0x2a, 0xb4, 0x00, 0xf7, 0xbe, 0xa2, 0x00, 0x10, 0x2a]
def cX13_makeCover_r0 : List UInt8 := cX13_makeCover_w0 ++ cX13_makeCover_r1
theorem cX13_makeCover_s0 : dw_S cX13_makeCover 0 cX13_makeCover_r0 := dw_S0 (by decide +kernel)
theorem cX13_makeCover_s1 : dw_S cX13_makeCover 24 cX13_makeCover_r1 := dw_Sn (w := cX13_makeCover_w0) (r := cX13_makeCover_r1) cX13_makeCover_s0 (by decide +kernel)
theorem cX13_makeCover_k0 : dw_ok cX13_makeCover (ByteArray.mk cX13_makeCover_w0.toArray) 0 := dw_Sw (r := cX13_makeCover_r1) cX13_makeCover_s0
theorem cX13_makeCover_s2 : dw_S cX13_makeCover 49 cX13_makeCover_r2 := dw_Sn (w := cX13_makeCover_w1) (r := cX13_makeCover_r2) cX13_makeCover_s1 (by decide +kernel)
theorem cX13_makeCover_k1 : dw_ok cX13_makeCover (ByteArray.mk cX13_makeCover_w1.toArray) 24 := dw_Sw (r := cX13_makeCover_r2) cX13_makeCover_s1
theorem cX13_makeCover_s3 : dw_S cX13_makeCover 73 cX13_makeCover_r3 := dw_Sn (w := cX13_makeCover_w2) (r := cX13_makeCover_r3) cX13_makeCover_s2 (by decide +kernel)
theorem cX13_makeCover_k2 : dw_ok cX13_makeCover (ByteArray.mk cX13_makeCover_w2.toArray) 49 := dw_Sw (r := cX13_makeCover_r3) cX13_makeCover_s2
theorem cX13_makeCover_s4 : dw_S cX13_makeCover 97 cX13_makeCover_r4 := dw_Sn (w := cX13_makeCover_w3) (r := cX13_makeCover_r4) cX13_makeCover_s3 (by decide +kernel)
theorem cX13_makeCover_k3 : dw_ok cX13_makeCover (ByteArray.mk cX13_makeCover_w3.toArray) 73 := dw_Sw (r := cX13_makeCover_r4) cX13_makeCover_s3
theorem cX13_makeCover_s5 : dw_S cX13_makeCover 123 cX13_makeCover_r5 := dw_Sn (w := cX13_makeCover_w4) (r := cX13_makeCover_r5) cX13_makeCover_s4 (by decide +kernel)
theorem cX13_makeCover_k4 : dw_ok cX13_makeCover (ByteArray.mk cX13_makeCover_w4.toArray) 97 := dw_Sw (r := cX13_makeCover_r5) cX13_makeCover_s4
theorem cX13_makeCover_s6 : dw_S cX13_makeCover 147 cX13_makeCover_r6 := dw_Sn (w := cX13_makeCover_w5) (r := cX13_makeCover_r6) cX13_makeCover_s5 (by decide +kernel)
theorem cX13_makeCover_k5 : dw_ok cX13_makeCover (ByteArray.mk cX13_makeCover_w5.toArray) 123 := dw_Sw (r := cX13_makeCover_r6) cX13_makeCover_s5
theorem cX13_makeCover_s7 : dw_S cX13_makeCover 172 cX13_makeCover_r7 := dw_Sn (w := cX13_makeCover_w6) (r := cX13_makeCover_r7) cX13_makeCover_s6 (by decide +kernel)
theorem cX13_makeCover_k6 : dw_ok cX13_makeCover (ByteArray.mk cX13_makeCover_w6.toArray) 147 := dw_Sw (r := cX13_makeCover_r7) cX13_makeCover_s6
theorem cX13_makeCover_s8 : dw_S cX13_makeCover 196 cX13_makeCover_r8 := dw_Sn (w := cX13_makeCover_w7) (r := cX13_makeCover_r8) cX13_makeCover_s7 (by decide +kernel)
theorem cX13_makeCover_k7 : dw_ok cX13_makeCover (ByteArray.mk cX13_makeCover_w7.toArray) 172 := dw_Sw (r := cX13_makeCover_r8) cX13_makeCover_s7
theorem cX13_makeCover_s9 : dw_S cX13_makeCover 221 cX13_makeCover_r9 := dw_Sn (w := cX13_makeCover_w8) (r := cX13_makeCover_r9) cX13_makeCover_s8 (by decide +kernel)
theorem cX13_makeCover_k8 : dw_ok cX13_makeCover (ByteArray.mk cX13_makeCover_w8.toArray) 196 := dw_Sw (r := cX13_makeCover_r9) cX13_makeCover_s8
theorem cX13_makeCover_s10 : dw_S cX13_makeCover 245 cX13_makeCover_r10 := dw_Sn (w := cX13_makeCover_w9) (r := cX13_makeCover_r10) cX13_makeCover_s9 (by decide +kernel)
theorem cX13_makeCover_k9 : dw_ok cX13_makeCover (ByteArray.mk cX13_makeCover_w9.toArray) 221 := dw_Sw (r := cX13_makeCover_r10) cX13_makeCover_s9
theorem cX13_makeCover_s11 : dw_S cX13_makeCover 270 cX13_makeCover_r11 := dw_Sn (w := cX13_makeCover_w10) (r := cX13_makeCover_r11) cX13_makeCover_s10 (by decide +kernel)
theorem cX13_makeCover_k10 : dw_ok cX13_makeCover (ByteArray.mk cX13_makeCover_w10.toArray) 245 := dw_Sw (r := cX13_makeCover_r11) cX13_makeCover_s10
theorem cX13_makeCover_s12 : dw_S cX13_makeCover 295 cX13_makeCover_r12 := dw_Sn (w := cX13_makeCover_w11) (r := cX13_makeCover_r12) cX13_makeCover_s11 (by decide +kernel)
theorem cX13_makeCover_k11 : dw_ok cX13_makeCover (ByteArray.mk cX13_makeCover_w11.toArray) 270 := dw_Sw (r := cX13_makeCover_r12) cX13_makeCover_s11
theorem cX13_makeCover_s13 : dw_S cX13_makeCover 319 cX13_makeCover_r13 := dw_Sn (w := cX13_makeCover_w12) (r := cX13_makeCover_r13) cX13_makeCover_s12 (by decide +kernel)
theorem cX13_makeCover_k12 : dw_ok cX13_makeCover (ByteArray.mk cX13_makeCover_w12.toArray) 295 := dw_Sw (r := cX13_makeCover_r13) cX13_makeCover_s12
theorem cX13_makeCover_s14 : dw_S cX13_makeCover 344 cX13_makeCover_r14 := dw_Sn (w := cX13_makeCover_w13) (r := cX13_makeCover_r14) cX13_makeCover_s13 (by decide +kernel)
theorem cX13_makeCover_k13 : dw_ok cX13_makeCover (ByteArray.mk cX13_makeCover_w13.toArray) 319 := dw_Sw (r := cX13_makeCover_r14) cX13_makeCover_s13
theorem cX13_makeCover_k14 : dw_ok cX13_makeCover (ByteArray.mk cX13_makeCover_w14.toArray) 344 := dw_Sw (r := []) cX13_makeCover_s14
def cX13_makeJones_w11 : List UInt8 := [0x85, 0x69, 0x15, 0x0a, 0x04, 0x60, 0x85, 0x6d, 0x37, 0x08, 0x84, 0x0a, 0x01, 0xa7, 0xff, 0x7d, 0x84, 0x05, 0x01, 0xa7, 0xff, 0x57, 0xb1]
def cX13_makeJones_r11 : List UInt8 := cX13_makeJones_w11 ++ []
def cX13_makeJones_w10 : List UInt8 := [0x09, 0x16, 0x0e, 0x16, 0x08, 0x69, 0x65, 0x61, 0x50, 0x84, 0x0c, 0x01, 0xa7, 0xff, 0xad, 0x16, 0x08, 0x15, 0x05, 0x04, 0x64, 0x15, 0x0a, 0x64]
def cX13_makeJones_r10 : List UInt8 := cX13_makeJones_w10 ++ cX13_makeJones_r11
def cX13_makeJones_w9 : List UInt8 := [0x2a, 0xb4, 0x00, 0xca, 0x15, 0x0d, 0x10, 0x64, 0x60, 0x5c, 0x2f, 0x15, 0x04, 0x04, 0x7e, 0x9a, 0x00, 0x0b, 0x16, 0x0e, 0x16, 0x08, 0x69, 0xa7, 0x00, 0x0a]
def cX13_makeJones_r9 : List UInt8 := cX13_makeJones_w9 ++ cX13_makeJones_r10
def cX13_makeJones_w8 : List UInt8 := [0x36, 0x0d, 0x2a, 0xb4, 0x00, 0xd3, 0x10, 0x18, 0x15, 0x0c, 0x68, 0x15, 0x05, 0x60, 0x2f, 0x37, 0x0e, 0x16, 0x0e, 0x09, 0x94, 0x99, 0x00, 0x26]
def cX13_makeJones_r8 : List UInt8 := cX13_makeJones_w8 ++ cX13_makeJones_r9
def cX13_makeJones_w7 : List UInt8 := [0x03, 0x36, 0x0c, 0x15, 0x0c, 0x1c, 0xa3, 0x00, 0x53, 0x15, 0x0b, 0x15, 0x0c, 0x60, 0x1c, 0x15, 0x0c, 0x64, 0x64, 0x06, 0x15, 0x04, 0x68, 0x64]
def cX13_makeJones_r7 : List UInt8 := cX13_makeJones_w7 ++ cX13_makeJones_r8
def cX13_makeJones_w6 : List UInt8 := [0x37, 0x08, 0x03, 0x36, 0x0a, 0x15, 0x0a, 0x15, 0x05, 0xa2, 0x00, 0x82, 0x05, 0x15, 0x05, 0x04, 0x64, 0x68, 0x07, 0x15, 0x0a, 0x68, 0x64, 0x36, 0x0b]
def cX13_makeJones_r6 : List UInt8 := cX13_makeJones_w6 ++ cX13_makeJones_r7
def cX13_makeJones_w5 : List UInt8 := [0x10, 0x18, 0xa2, 0x00, 0xa8, 0x15, 0x05, 0x04, 0x64, 0x04, 0x7e, 0x9a, 0x00, 0x07, 0x0a, 0xa7, 0x00, 0x06, 0x14, 0x02, 0x56, 0x37, 0x06, 0x16, 0x06]
def cX13_makeJones_r5 : List UInt8 := cX13_makeJones_w5 ++ cX13_makeJones_r6
def cX13_makeJones_w4 : List UInt8 := [0x2a, 0xb4, 0x00, 0xca, 0x15, 0x04, 0x09, 0x50, 0x84, 0x04, 0x01, 0xa7, 0xff, 0xed, 0x2b, 0xb8, 0x01, 0xba, 0x36, 0x04, 0x04, 0x36, 0x05, 0x15, 0x05]
def cX13_makeJones_r4 : List UInt8 := cX13_makeJones_w4 ++ cX13_makeJones_r5
def cX13_makeJones_w3 : List UInt8 := [0x60, 0x1d, 0x60, 0x5c, 0x2f, 0x0a, 0x61, 0x50, 0x84, 0x04, 0x01, 0xa7, 0xff, 0xd3, 0x03, 0x36, 0x04, 0x15, 0x04, 0x11, 0x00, 0xc8, 0xa3, 0x00, 0x11]
def cX13_makeJones_r3 : List UInt8 := cX13_makeJones_w3 ++ cX13_makeJones_r4
def cX13_makeJones_w2 : List UInt8 := [0x2a, 0x2b, 0x15, 0x04, 0xb6, 0x02, 0x4b, 0x2a, 0xb4, 0x00, 0xd3, 0x10, 0x18, 0x1c, 0x15, 0x04, 0xb8, 0x02, 0x4e, 0x64, 0x68, 0x2a, 0x2b, 0xb6, 0x02, 0x53]
def cX13_makeJones_r2 : List UInt8 := cX13_makeJones_w2 ++ cX13_makeJones_r3
def cX13_makeJones_w1 : List UInt8 := [0x2a, 0xb4, 0x00, 0xd3, 0x15, 0x04, 0x09, 0x50, 0x84, 0x04, 0x01, 0xa7, 0xff, 0xeb, 0x03, 0x36, 0x04, 0x15, 0x04, 0x04, 0x1c, 0x78, 0xa2, 0x00, 0x2b]
def cX13_makeJones_r1 : List UInt8 := cX13_makeJones_w1 ++ cX13_makeJones_r2
def cX13_makeJones_w0 : List UInt8 := [0x2b, 0xb4, 0x00, 0x2c, 0x05, 0x6c, 0x3d, 0x2a, 0x2b, 0xb6, 0x01, 0xb6, 0x3e, 0x03, 0x36, 0x04, 0x15, 0x04, 0x2a, 0xb4, 0x00, 0xd3, 0xbe, 0xa2, 0x00, 0x11]
def cX13_makeJones_r0 : List UInt8 := cX13_makeJones_w0 ++ cX13_makeJones_r1
theorem cX13_makeJones_s0 : dw_S cX13_makeJones 0 cX13_makeJones_r0 := dw_S0 (by decide +kernel)
theorem cX13_makeJones_s1 : dw_S cX13_makeJones 26 cX13_makeJones_r1 := dw_Sn (w := cX13_makeJones_w0) (r := cX13_makeJones_r1) cX13_makeJones_s0 (by decide +kernel)
theorem cX13_makeJones_k0 : dw_ok cX13_makeJones (ByteArray.mk cX13_makeJones_w0.toArray) 0 := dw_Sw (r := cX13_makeJones_r1) cX13_makeJones_s0
theorem cX13_makeJones_s2 : dw_S cX13_makeJones 51 cX13_makeJones_r2 := dw_Sn (w := cX13_makeJones_w1) (r := cX13_makeJones_r2) cX13_makeJones_s1 (by decide +kernel)
theorem cX13_makeJones_k1 : dw_ok cX13_makeJones (ByteArray.mk cX13_makeJones_w1.toArray) 26 := dw_Sw (r := cX13_makeJones_r2) cX13_makeJones_s1
theorem cX13_makeJones_s3 : dw_S cX13_makeJones 77 cX13_makeJones_r3 := dw_Sn (w := cX13_makeJones_w2) (r := cX13_makeJones_r3) cX13_makeJones_s2 (by decide +kernel)
theorem cX13_makeJones_k2 : dw_ok cX13_makeJones (ByteArray.mk cX13_makeJones_w2.toArray) 51 := dw_Sw (r := cX13_makeJones_r3) cX13_makeJones_s2
theorem cX13_makeJones_s4 : dw_S cX13_makeJones 102 cX13_makeJones_r4 := dw_Sn (w := cX13_makeJones_w3) (r := cX13_makeJones_r4) cX13_makeJones_s3 (by decide +kernel)
theorem cX13_makeJones_k3 : dw_ok cX13_makeJones (ByteArray.mk cX13_makeJones_w3.toArray) 77 := dw_Sw (r := cX13_makeJones_r4) cX13_makeJones_s3
theorem cX13_makeJones_s5 : dw_S cX13_makeJones 127 cX13_makeJones_r5 := dw_Sn (w := cX13_makeJones_w4) (r := cX13_makeJones_r5) cX13_makeJones_s4 (by decide +kernel)
theorem cX13_makeJones_k4 : dw_ok cX13_makeJones (ByteArray.mk cX13_makeJones_w4.toArray) 102 := dw_Sw (r := cX13_makeJones_r5) cX13_makeJones_s4
theorem cX13_makeJones_s6 : dw_S cX13_makeJones 152 cX13_makeJones_r6 := dw_Sn (w := cX13_makeJones_w5) (r := cX13_makeJones_r6) cX13_makeJones_s5 (by decide +kernel)
theorem cX13_makeJones_k5 : dw_ok cX13_makeJones (ByteArray.mk cX13_makeJones_w5.toArray) 127 := dw_Sw (r := cX13_makeJones_r6) cX13_makeJones_s5
theorem cX13_makeJones_s7 : dw_S cX13_makeJones 177 cX13_makeJones_r7 := dw_Sn (w := cX13_makeJones_w6) (r := cX13_makeJones_r7) cX13_makeJones_s6 (by decide +kernel)
theorem cX13_makeJones_k6 : dw_ok cX13_makeJones (ByteArray.mk cX13_makeJones_w6.toArray) 152 := dw_Sw (r := cX13_makeJones_r7) cX13_makeJones_s6
theorem cX13_makeJones_s8 : dw_S cX13_makeJones 201 cX13_makeJones_r8 := dw_Sn (w := cX13_makeJones_w7) (r := cX13_makeJones_r8) cX13_makeJones_s7 (by decide +kernel)
theorem cX13_makeJones_k7 : dw_ok cX13_makeJones (ByteArray.mk cX13_makeJones_w7.toArray) 177 := dw_Sw (r := cX13_makeJones_r8) cX13_makeJones_s7
theorem cX13_makeJones_s9 : dw_S cX13_makeJones 225 cX13_makeJones_r9 := dw_Sn (w := cX13_makeJones_w8) (r := cX13_makeJones_r9) cX13_makeJones_s8 (by decide +kernel)
theorem cX13_makeJones_k8 : dw_ok cX13_makeJones (ByteArray.mk cX13_makeJones_w8.toArray) 201 := dw_Sw (r := cX13_makeJones_r9) cX13_makeJones_s8
theorem cX13_makeJones_s10 : dw_S cX13_makeJones 251 cX13_makeJones_r10 := dw_Sn (w := cX13_makeJones_w9) (r := cX13_makeJones_r10) cX13_makeJones_s9 (by decide +kernel)
theorem cX13_makeJones_k9 : dw_ok cX13_makeJones (ByteArray.mk cX13_makeJones_w9.toArray) 225 := dw_Sw (r := cX13_makeJones_r10) cX13_makeJones_s9
theorem cX13_makeJones_s11 : dw_S cX13_makeJones 275 cX13_makeJones_r11 := dw_Sn (w := cX13_makeJones_w10) (r := cX13_makeJones_r11) cX13_makeJones_s10 (by decide +kernel)
theorem cX13_makeJones_k10 : dw_ok cX13_makeJones (ByteArray.mk cX13_makeJones_w10.toArray) 251 := dw_Sw (r := cX13_makeJones_r11) cX13_makeJones_s10
theorem cX13_makeJones_k11 : dw_ok cX13_makeJones (ByteArray.mk cX13_makeJones_w11.toArray) 275 := dw_Sw (r := []) cX13_makeJones_s11
def cX13_makePermutations_w15 : List UInt8 := [0x84, 0x03, 0x01, 0xa7, 0xff, 0x3d, 0x84, 0x01, 0x01, 0xa7, 0xfe, 0x88, 0xb1]
def cX13_makePermutations_r15 : List UInt8 := cX13_makePermutations_w15 ++ []
def cX13_makePermutations_w14 : List UInt8 := [0x68, 0x10, 0x18, 0x1d, 0x68, 0x60, 0x15, 0x04, 0x60, 0x15, 0x05, 0x4f, 0x84, 0x05, 0x01, 0xa7, 0xff, 0x5a, 0x84, 0x04, 0x01, 0xa7, 0xff, 0x4b]
def cX13_makePermutations_r14 : List UInt8 := cX13_makePermutations_w14 ++ cX13_makePermutations_r15
def cX13_makePermutations_w13 : List UInt8 := [0x10, 0x18, 0x1d, 0x68, 0x60, 0x15, 0x04, 0x60, 0x15, 0x05, 0x4f, 0x15, 0x07, 0x99, 0x00, 0x17, 0x2a, 0xb4, 0x01, 0x12, 0x11, 0x02, 0x40, 0x1b]
def cX13_makePermutations_r13 : List UInt8 := cX13_makePermutations_w13 ++ cX13_makePermutations_r14
def cX13_makePermutations_w12 : List UInt8 := [0x03, 0x7e, 0x36, 0x07, 0x84, 0x08, 0x01, 0xa7, 0xff, 0xa1, 0x15, 0x06, 0x99, 0x00, 0x17, 0x2a, 0xb4, 0x01, 0x0f, 0x11, 0x02, 0x40, 0x1b, 0x68]
def cX13_makePermutations_r12 : List UInt8 := cX13_makePermutations_w12 ++ cX13_makePermutations_r13
def cX13_makePermutations_w11 : List UInt8 := [0xb6, 0x02, 0x9f, 0x2a, 0x1b, 0x15, 0x04, 0x2a, 0x1b, 0x1d, 0x15, 0x08, 0xb6, 0x02, 0x9f, 0xb6, 0x02, 0x9f, 0xa0, 0x00, 0x07, 0x04, 0xa7, 0x00, 0x04]
def cX13_makePermutations_r11 : List UInt8 := cX13_makePermutations_w11 ++ cX13_makePermutations_r12
def cX13_makePermutations_w10 : List UInt8 := [0xa0, 0x00, 0x07, 0x04, 0xa7, 0x00, 0x04, 0x03, 0x7e, 0x36, 0x06, 0x15, 0x07, 0x2a, 0x1b, 0x1d, 0x2a, 0x1b, 0x15, 0x05, 0x15, 0x08, 0xb6, 0x02, 0x9f]
def cX13_makePermutations_r10 : List UInt8 := cX13_makePermutations_w10 ++ cX13_makePermutations_r11
def cX13_makePermutations_w9 : List UInt8 := [0x2a, 0x1b, 0x1d, 0x15, 0x08, 0xb6, 0x02, 0x9f, 0xb6, 0x02, 0x9f, 0x2a, 0x1b, 0x1d, 0x2a, 0x1b, 0x15, 0x04, 0x15, 0x08, 0xb6, 0x02, 0x9f, 0xb6, 0x02, 0x9f]
def cX13_makePermutations_r9 : List UInt8 := cX13_makePermutations_w9 ++ cX13_makePermutations_r10
def cX13_makePermutations_w8 : List UInt8 := [0x1c, 0xa2, 0x00, 0xa6, 0x04, 0x36, 0x06, 0x04, 0x36, 0x07, 0x03, 0x36, 0x08, 0x15, 0x08, 0x1b, 0xa2, 0x00, 0x5f, 0x15, 0x06, 0x2a, 0x1b, 0x15, 0x05]
def cX13_makePermutations_r8 : List UInt8 := cX13_makePermutations_w8 ++ cX13_makePermutations_r9
def cX13_makePermutations_w7 : List UInt8 := [0xa7, 0xff, 0x5f, 0x03, 0x3e, 0x1d, 0x1c, 0xa2, 0x00, 0xc4, 0x03, 0x36, 0x04, 0x15, 0x04, 0x1c, 0xa2, 0x00, 0xb5, 0x03, 0x36, 0x05, 0x15, 0x05]
def cX13_makePermutations_r7 : List UInt8 := cX13_makePermutations_w7 ++ cX13_makePermutations_r8
def cX13_makePermutations_w6 : List UInt8 := [0x68, 0x60, 0x15, 0x05, 0x60, 0x1d, 0x05, 0x15, 0x05, 0x68, 0x7a, 0x06, 0x7e, 0x4f, 0x84, 0x05, 0x01, 0xa7, 0xff, 0xdf, 0x84, 0x02, 0x01, 0x84, 0x03, 0x01]
def cX13_makePermutations_r6 : List UInt8 := cX13_makePermutations_w6 ++ cX13_makePermutations_r7
def cX13_makePermutations_w5 : List UInt8 := [0x15, 0x04, 0x99, 0x00, 0x2d, 0x03, 0x36, 0x05, 0x15, 0x05, 0x07, 0xa2, 0x00, 0x21, 0x2a, 0xb4, 0x01, 0x0c, 0x10, 0x60, 0x1b, 0x68, 0x07, 0x1c]
def cX13_makePermutations_r5 : List UInt8 := cX13_makePermutations_w5 ++ cX13_makePermutations_r6
def cX13_makePermutations_w4 : List UInt8 := [0x15, 0x06, 0x9f, 0x00, 0x07, 0x04, 0xa7, 0x00, 0x04, 0x03, 0x7e, 0x36, 0x04, 0x84, 0x07, 0x01, 0xa7, 0xff, 0xdf, 0x84, 0x05, 0x01, 0xa7, 0xff, 0xa1]
def cX13_makePermutations_r4 : List UInt8 := cX13_makePermutations_w4 ++ cX13_makePermutations_r5
def cX13_makePermutations_w3 : List UInt8 := [0x03, 0x7e, 0x36, 0x04, 0x03, 0x36, 0x07, 0x15, 0x07, 0x15, 0x05, 0xa2, 0x00, 0x20, 0x15, 0x04, 0x1d, 0x05, 0x15, 0x07, 0x68, 0x7a, 0x06, 0x7e]
def cX13_makePermutations_r3 : List UInt8 := cX13_makePermutations_w3 ++ cX13_makePermutations_r4
def cX13_makePermutations_w2 : List UInt8 := [0x15, 0x06, 0x1b, 0xa2, 0x00, 0x07, 0x04, 0xa7, 0x00, 0x13, 0x03, 0xa7, 0x00, 0x0f, 0x15, 0x06, 0x15, 0x05, 0xa0, 0x00, 0x07, 0x04, 0xa7, 0x00, 0x04]
def cX13_makePermutations_r2 : List UInt8 := cX13_makePermutations_w2 ++ cX13_makePermutations_r3
def cX13_makePermutations_w1 : List UInt8 := [0x15, 0x05, 0x07, 0xa2, 0x00, 0x5f, 0x1d, 0x05, 0x15, 0x05, 0x68, 0x7a, 0x06, 0x7e, 0x36, 0x06, 0x15, 0x04, 0x15, 0x05, 0x1b, 0xa2, 0x00, 0x11]
def cX13_makePermutations_r1 : List UInt8 := cX13_makePermutations_w1 ++ cX13_makePermutations_r2
def cX13_makePermutations_w0 : List UInt8 := [0x04, 0x3c, 0x1b, 0x07, 0xa3, 0x01, 0x79, 0x03, 0x3d, 0x03, 0x3e, 0x1d, 0x11, 0x01, 0x00, 0xa2, 0x00, 0xa0, 0x04, 0x36, 0x04, 0x03, 0x36, 0x05]
def cX13_makePermutations_r0 : List UInt8 := cX13_makePermutations_w0 ++ cX13_makePermutations_r1
theorem cX13_makePermutations_s0 : dw_S cX13_makePermutations 0 cX13_makePermutations_r0 := dw_S0 (by decide +kernel)
theorem cX13_makePermutations_s1 : dw_S cX13_makePermutations 24 cX13_makePermutations_r1 := dw_Sn (w := cX13_makePermutations_w0) (r := cX13_makePermutations_r1) cX13_makePermutations_s0 (by decide +kernel)
theorem cX13_makePermutations_k0 : dw_ok cX13_makePermutations (ByteArray.mk cX13_makePermutations_w0.toArray) 0 := dw_Sw (r := cX13_makePermutations_r1) cX13_makePermutations_s0
theorem cX13_makePermutations_s2 : dw_S cX13_makePermutations 48 cX13_makePermutations_r2 := dw_Sn (w := cX13_makePermutations_w1) (r := cX13_makePermutations_r2) cX13_makePermutations_s1 (by decide +kernel)
theorem cX13_makePermutations_k1 : dw_ok cX13_makePermutations (ByteArray.mk cX13_makePermutations_w1.toArray) 24 := dw_Sw (r := cX13_makePermutations_r2) cX13_makePermutations_s1
theorem cX13_makePermutations_s3 : dw_S cX13_makePermutations 73 cX13_makePermutations_r3 := dw_Sn (w := cX13_makePermutations_w2) (r := cX13_makePermutations_r3) cX13_makePermutations_s2 (by decide +kernel)
theorem cX13_makePermutations_k2 : dw_ok cX13_makePermutations (ByteArray.mk cX13_makePermutations_w2.toArray) 48 := dw_Sw (r := cX13_makePermutations_r3) cX13_makePermutations_s2
theorem cX13_makePermutations_s4 : dw_S cX13_makePermutations 97 cX13_makePermutations_r4 := dw_Sn (w := cX13_makePermutations_w3) (r := cX13_makePermutations_r4) cX13_makePermutations_s3 (by decide +kernel)
theorem cX13_makePermutations_k3 : dw_ok cX13_makePermutations (ByteArray.mk cX13_makePermutations_w3.toArray) 73 := dw_Sw (r := cX13_makePermutations_r4) cX13_makePermutations_s3
theorem cX13_makePermutations_s5 : dw_S cX13_makePermutations 122 cX13_makePermutations_r5 := dw_Sn (w := cX13_makePermutations_w4) (r := cX13_makePermutations_r5) cX13_makePermutations_s4 (by decide +kernel)
theorem cX13_makePermutations_k4 : dw_ok cX13_makePermutations (ByteArray.mk cX13_makePermutations_w4.toArray) 97 := dw_Sw (r := cX13_makePermutations_r5) cX13_makePermutations_s4
theorem cX13_makePermutations_s6 : dw_S cX13_makePermutations 146 cX13_makePermutations_r6 := dw_Sn (w := cX13_makePermutations_w5) (r := cX13_makePermutations_r6) cX13_makePermutations_s5 (by decide +kernel)
theorem cX13_makePermutations_k5 : dw_ok cX13_makePermutations (ByteArray.mk cX13_makePermutations_w5.toArray) 122 := dw_Sw (r := cX13_makePermutations_r6) cX13_makePermutations_s5
theorem cX13_makePermutations_s7 : dw_S cX13_makePermutations 172 cX13_makePermutations_r7 := dw_Sn (w := cX13_makePermutations_w6) (r := cX13_makePermutations_r7) cX13_makePermutations_s6 (by decide +kernel)
theorem cX13_makePermutations_k6 : dw_ok cX13_makePermutations (ByteArray.mk cX13_makePermutations_w6.toArray) 146 := dw_Sw (r := cX13_makePermutations_r7) cX13_makePermutations_s6
theorem cX13_makePermutations_s8 : dw_S cX13_makePermutations 196 cX13_makePermutations_r8 := dw_Sn (w := cX13_makePermutations_w7) (r := cX13_makePermutations_r8) cX13_makePermutations_s7 (by decide +kernel)
theorem cX13_makePermutations_k7 : dw_ok cX13_makePermutations (ByteArray.mk cX13_makePermutations_w7.toArray) 172 := dw_Sw (r := cX13_makePermutations_r8) cX13_makePermutations_s7
theorem cX13_makePermutations_s9 : dw_S cX13_makePermutations 221 cX13_makePermutations_r9 := dw_Sn (w := cX13_makePermutations_w8) (r := cX13_makePermutations_r9) cX13_makePermutations_s8 (by decide +kernel)
theorem cX13_makePermutations_k8 : dw_ok cX13_makePermutations (ByteArray.mk cX13_makePermutations_w8.toArray) 196 := dw_Sw (r := cX13_makePermutations_r9) cX13_makePermutations_s8
theorem cX13_makePermutations_s10 : dw_S cX13_makePermutations 247 cX13_makePermutations_r10 := dw_Sn (w := cX13_makePermutations_w9) (r := cX13_makePermutations_r10) cX13_makePermutations_s9 (by decide +kernel)
theorem cX13_makePermutations_k9 : dw_ok cX13_makePermutations (ByteArray.mk cX13_makePermutations_w9.toArray) 221 := dw_Sw (r := cX13_makePermutations_r10) cX13_makePermutations_s9
theorem cX13_makePermutations_s11 : dw_S cX13_makePermutations 272 cX13_makePermutations_r11 := dw_Sn (w := cX13_makePermutations_w10) (r := cX13_makePermutations_r11) cX13_makePermutations_s10 (by decide +kernel)
theorem cX13_makePermutations_k10 : dw_ok cX13_makePermutations (ByteArray.mk cX13_makePermutations_w10.toArray) 247 := dw_Sw (r := cX13_makePermutations_r11) cX13_makePermutations_s10
theorem cX13_makePermutations_s12 : dw_S cX13_makePermutations 297 cX13_makePermutations_r12 := dw_Sn (w := cX13_makePermutations_w11) (r := cX13_makePermutations_r12) cX13_makePermutations_s11 (by decide +kernel)
theorem cX13_makePermutations_k11 : dw_ok cX13_makePermutations (ByteArray.mk cX13_makePermutations_w11.toArray) 272 := dw_Sw (r := cX13_makePermutations_r12) cX13_makePermutations_s11
theorem cX13_makePermutations_s13 : dw_S cX13_makePermutations 321 cX13_makePermutations_r13 := dw_Sn (w := cX13_makePermutations_w12) (r := cX13_makePermutations_r13) cX13_makePermutations_s12 (by decide +kernel)
theorem cX13_makePermutations_k12 : dw_ok cX13_makePermutations (ByteArray.mk cX13_makePermutations_w12.toArray) 297 := dw_Sw (r := cX13_makePermutations_r13) cX13_makePermutations_s12
theorem cX13_makePermutations_s14 : dw_S cX13_makePermutations 345 cX13_makePermutations_r14 := dw_Sn (w := cX13_makePermutations_w13) (r := cX13_makePermutations_r14) cX13_makePermutations_s13 (by decide +kernel)
theorem cX13_makePermutations_k13 : dw_ok cX13_makePermutations (ByteArray.mk cX13_makePermutations_w13.toArray) 321 := dw_Sw (r := cX13_makePermutations_r14) cX13_makePermutations_s13
theorem cX13_makePermutations_s15 : dw_S cX13_makePermutations 369 cX13_makePermutations_r15 := dw_Sn (w := cX13_makePermutations_w14) (r := cX13_makePermutations_r15) cX13_makePermutations_s14 (by decide +kernel)
theorem cX13_makePermutations_k14 : dw_ok cX13_makePermutations (ByteArray.mk cX13_makePermutations_w14.toArray) 345 := dw_Sw (r := cX13_makePermutations_r15) cX13_makePermutations_s14
theorem cX13_makePermutations_k15 : dw_ok cX13_makePermutations (ByteArray.mk cX13_makePermutations_w15.toArray) 369 := dw_Sw (r := []) cX13_makePermutations_s15
def cX13_makeSimples_w17 : List UInt8 := [0xa7, 0xff, 0xdd, 0x84, 0x01, 0x01, 0xa7, 0xfe, 0x5c, 0xb1]
def cX13_makeSimples_r17 : List UInt8 := cX13_makeSimples_w17 ++ []
def cX13_makeSimples_w16 : List UInt8 := [0x3e, 0x1d, 0x1b, 0x04, 0x64, 0xa2, 0x00, 0x10, 0x2a, 0x1b, 0x1c, 0x1d, 0xb6, 0x02, 0xdb, 0x84, 0x03, 0x01, 0xa7, 0xff, 0xef, 0x84, 0x02, 0x01]
def cX13_makeSimples_r16 : List UInt8 := cX13_makeSimples_w16 ++ cX13_makeSimples_r17
def cX13_makeSimples_w15 : List UInt8 := [0x84, 0x02, 0x01, 0xa7, 0xfe, 0xb7, 0x2a, 0x1b, 0xb6, 0x02, 0xd8, 0x03, 0x3d, 0x1c, 0x2a, 0xb4, 0x01, 0x49, 0x1b, 0x2e, 0xa2, 0x00, 0x1f, 0x03]
def cX13_makeSimples_r15 : List UInt8 := cX13_makeSimples_w15 ++ cX13_makeSimples_r16
def cX13_makeSimples_w14 : List UInt8 := [0x5c, 0x2e, 0x04, 0x60, 0x4f, 0x2a, 0xb4, 0x01, 0x55, 0x07, 0x1d, 0x68, 0x15, 0x04, 0x60, 0x15, 0x07, 0x4f, 0x84, 0x04, 0x01, 0xa7, 0xfe, 0xd1]
def cX13_makeSimples_r14 : List UInt8 := cX13_makeSimples_w14 ++ cX13_makeSimples_r15
def cX13_makeSimples_w13 : List UInt8 := [0x2a, 0xb4, 0x01, 0x4f, 0x10, 0x0a, 0x15, 0x08, 0x68, 0x2a, 0xb4, 0x01, 0x52, 0x1d, 0x2e, 0x60, 0x15, 0x04, 0x4f, 0x2a, 0xb4, 0x01, 0x49, 0x1b]
def cX13_makeSimples_r13 : List UInt8 := cX13_makeSimples_w13 ++ cX13_makeSimples_r14
def cX13_makeSimples_w12 : List UInt8 := [0x15, 0x08, 0x68, 0x15, 0x09, 0x60, 0x2a, 0xb4, 0x01, 0x4f, 0x10, 0x0a, 0x1d, 0x68, 0x15, 0x09, 0x60, 0x2e, 0x4f, 0x84, 0x09, 0x01, 0xa7, 0xff, 0xd9]
def cX13_makeSimples_r12 : List UInt8 := cX13_makeSimples_w12 ++ cX13_makeSimples_r13
def cX13_makeSimples_w11 : List UInt8 := [0x2e, 0x04, 0x60, 0x4f, 0x03, 0x36, 0x09, 0x15, 0x09, 0x2a, 0xb4, 0x01, 0x52, 0x1d, 0x2e, 0xa2, 0x00, 0x22, 0x2a, 0xb4, 0x01, 0x4f, 0x10, 0x0a]
def cX13_makeSimples_r11 : List UInt8 := cX13_makeSimples_w11 ++ cX13_makeSimples_r12
def cX13_makeSimples_w10 : List UInt8 := [0xb4, 0x01, 0x64, 0x15, 0x09, 0x2e, 0x4f, 0x84, 0x09, 0x01, 0xa7, 0xff, 0xe4, 0x2a, 0xb4, 0x01, 0x52, 0x15, 0x08, 0x2a, 0xb4, 0x01, 0x52, 0x1d]
def cX13_makeSimples_r10 : List UInt8 := cX13_makeSimples_w10 ++ cX13_makeSimples_r11
def cX13_makeSimples_w9 : List UInt8 := [0x60, 0x36, 0x08, 0x03, 0x36, 0x09, 0x15, 0x09, 0x1b, 0xa2, 0x00, 0x1c, 0x2a, 0xb4, 0x01, 0x4c, 0x08, 0x15, 0x08, 0x68, 0x15, 0x09, 0x60, 0x2a]
def cX13_makeSimples_r9 : List UInt8 := cX13_makeSimples_w9 ++ cX13_makeSimples_r10
def cX13_makeSimples_w8 : List UInt8 := [0xb6, 0x02, 0xd4, 0x36, 0x07, 0x15, 0x07, 0x02, 0xa0, 0x00, 0x8f, 0x2a, 0xb4, 0x01, 0x49, 0x1b, 0x2e, 0x36, 0x07, 0x10, 0x78, 0x1b, 0x68, 0x15, 0x07]
def cX13_makeSimples_r8 : List UInt8 := cX13_makeSimples_w8 ++ cX13_makeSimples_r9
def cX13_makeSimples_w7 : List UInt8 := [0x2a, 0xb4, 0x01, 0x64, 0x15, 0x05, 0x15, 0x04, 0x04, 0x60, 0x4f, 0x2a, 0xb4, 0x01, 0x64, 0x15, 0x06, 0x15, 0x04, 0x4f, 0x2a, 0x1b, 0x2a, 0xb4, 0x01, 0x64]
def cX13_makeSimples_r7 : List UInt8 := cX13_makeSimples_w7 ++ cX13_makeSimples_r8
def cX13_makeSimples_w6 : List UInt8 := [0x84, 0x07, 0x01, 0xa7, 0xff, 0xb9, 0x2a, 0xb4, 0x01, 0x55, 0x07, 0x1d, 0x68, 0x15, 0x04, 0x60, 0x02, 0x4f, 0x15, 0x05, 0x15, 0x06, 0xa2, 0x00, 0xc1]
def cX13_makeSimples_r6 : List UInt8 := cX13_makeSimples_w6 ++ cX13_makeSimples_r7
def cX13_makeSimples_w5 : List UInt8 := [0x36, 0x05, 0x2a, 0xb4, 0x01, 0x64, 0x15, 0x07, 0x2e, 0x15, 0x04, 0x04, 0x60, 0xa0, 0x00, 0x08, 0x15, 0x07, 0xa7, 0x00, 0x05, 0x15, 0x06, 0x36, 0x06]
def cX13_makeSimples_r5 : List UInt8 := cX13_makeSimples_w5 ++ cX13_makeSimples_r6
def cX13_makeSimples_w4 : List UInt8 := [0x68, 0x15, 0x07, 0x60, 0x2e, 0x4f, 0x2a, 0xb4, 0x01, 0x64, 0x15, 0x07, 0x2e, 0x15, 0x04, 0xa0, 0x00, 0x08, 0x15, 0x07, 0xa7, 0x00, 0x05, 0x15, 0x05]
def cX13_makeSimples_r4 : List UInt8 := cX13_makeSimples_w4 ++ cX13_makeSimples_r5
def cX13_makeSimples_w3 : List UInt8 := [0x03, 0x36, 0x06, 0x03, 0x36, 0x07, 0x15, 0x07, 0x1b, 0xa2, 0x00, 0x47, 0x2a, 0xb4, 0x01, 0x64, 0x15, 0x07, 0x2a, 0xb4, 0x01, 0x4c, 0x08, 0x1d]
def cX13_makeSimples_r3 : List UInt8 := cX13_makeSimples_w3 ++ cX13_makeSimples_r4
def cX13_makeSimples_w2 : List UInt8 := [0x2e, 0xa2, 0x01, 0x45, 0x10, 0x78, 0x1b, 0x68, 0x1c, 0x60, 0x3e, 0x03, 0x36, 0x04, 0x15, 0x04, 0x1b, 0x04, 0x64, 0xa2, 0x01, 0x2d, 0x03, 0x36, 0x05]
def cX13_makeSimples_r2 : List UInt8 := cX13_makeSimples_w2 ++ cX13_makeSimples_r3
def cX13_makeSimples_w1 : List UInt8 := [0x60, 0x1c, 0x4f, 0x84, 0x02, 0x01, 0xa7, 0xff, 0xeb, 0x2a, 0xb4, 0x01, 0x49, 0x1b, 0x04, 0x4f, 0x03, 0x3d, 0x1c, 0x2a, 0xb4, 0x01, 0x49, 0x1b]
def cX13_makeSimples_r1 : List UInt8 := cX13_makeSimples_w1 ++ cX13_makeSimples_r2
def cX13_makeSimples_w0 : List UInt8 := [0x05, 0x3c, 0x1b, 0x08, 0xa3, 0x01, 0xa5, 0x03, 0x3d, 0x1c, 0x1b, 0xa2, 0x00, 0x16, 0x2a, 0xb4, 0x01, 0x4c, 0x11, 0x02, 0x58, 0x1b, 0x68, 0x1c]
def cX13_makeSimples_r0 : List UInt8 := cX13_makeSimples_w0 ++ cX13_makeSimples_r1
theorem cX13_makeSimples_s0 : dw_S cX13_makeSimples 0 cX13_makeSimples_r0 := dw_S0 (by decide +kernel)
theorem cX13_makeSimples_s1 : dw_S cX13_makeSimples 24 cX13_makeSimples_r1 := dw_Sn (w := cX13_makeSimples_w0) (r := cX13_makeSimples_r1) cX13_makeSimples_s0 (by decide +kernel)
theorem cX13_makeSimples_k0 : dw_ok cX13_makeSimples (ByteArray.mk cX13_makeSimples_w0.toArray) 0 := dw_Sw (r := cX13_makeSimples_r1) cX13_makeSimples_s0
theorem cX13_makeSimples_s2 : dw_S cX13_makeSimples 48 cX13_makeSimples_r2 := dw_Sn (w := cX13_makeSimples_w1) (r := cX13_makeSimples_r2) cX13_makeSimples_s1 (by decide +kernel)
theorem cX13_makeSimples_k1 : dw_ok cX13_makeSimples (ByteArray.mk cX13_makeSimples_w1.toArray) 24 := dw_Sw (r := cX13_makeSimples_r2) cX13_makeSimples_s1
theorem cX13_makeSimples_s3 : dw_S cX13_makeSimples 73 cX13_makeSimples_r3 := dw_Sn (w := cX13_makeSimples_w2) (r := cX13_makeSimples_r3) cX13_makeSimples_s2 (by decide +kernel)
theorem cX13_makeSimples_k2 : dw_ok cX13_makeSimples (ByteArray.mk cX13_makeSimples_w2.toArray) 48 := dw_Sw (r := cX13_makeSimples_r3) cX13_makeSimples_s2
theorem cX13_makeSimples_s4 : dw_S cX13_makeSimples 97 cX13_makeSimples_r4 := dw_Sn (w := cX13_makeSimples_w3) (r := cX13_makeSimples_r4) cX13_makeSimples_s3 (by decide +kernel)
theorem cX13_makeSimples_k3 : dw_ok cX13_makeSimples (ByteArray.mk cX13_makeSimples_w3.toArray) 73 := dw_Sw (r := cX13_makeSimples_r4) cX13_makeSimples_s3
theorem cX13_makeSimples_s5 : dw_S cX13_makeSimples 122 cX13_makeSimples_r5 := dw_Sn (w := cX13_makeSimples_w4) (r := cX13_makeSimples_r5) cX13_makeSimples_s4 (by decide +kernel)
theorem cX13_makeSimples_k4 : dw_ok cX13_makeSimples (ByteArray.mk cX13_makeSimples_w4.toArray) 97 := dw_Sw (r := cX13_makeSimples_r5) cX13_makeSimples_s4
theorem cX13_makeSimples_s6 : dw_S cX13_makeSimples 147 cX13_makeSimples_r6 := dw_Sn (w := cX13_makeSimples_w5) (r := cX13_makeSimples_r6) cX13_makeSimples_s5 (by decide +kernel)
theorem cX13_makeSimples_k5 : dw_ok cX13_makeSimples (ByteArray.mk cX13_makeSimples_w5.toArray) 122 := dw_Sw (r := cX13_makeSimples_r6) cX13_makeSimples_s5
theorem cX13_makeSimples_s7 : dw_S cX13_makeSimples 172 cX13_makeSimples_r7 := dw_Sn (w := cX13_makeSimples_w6) (r := cX13_makeSimples_r7) cX13_makeSimples_s6 (by decide +kernel)
theorem cX13_makeSimples_k6 : dw_ok cX13_makeSimples (ByteArray.mk cX13_makeSimples_w6.toArray) 147 := dw_Sw (r := cX13_makeSimples_r7) cX13_makeSimples_s6
theorem cX13_makeSimples_s8 : dw_S cX13_makeSimples 198 cX13_makeSimples_r8 := dw_Sn (w := cX13_makeSimples_w7) (r := cX13_makeSimples_r8) cX13_makeSimples_s7 (by decide +kernel)
theorem cX13_makeSimples_k7 : dw_ok cX13_makeSimples (ByteArray.mk cX13_makeSimples_w7.toArray) 172 := dw_Sw (r := cX13_makeSimples_r8) cX13_makeSimples_s7
theorem cX13_makeSimples_s9 : dw_S cX13_makeSimples 223 cX13_makeSimples_r9 := dw_Sn (w := cX13_makeSimples_w8) (r := cX13_makeSimples_r9) cX13_makeSimples_s8 (by decide +kernel)
theorem cX13_makeSimples_k8 : dw_ok cX13_makeSimples (ByteArray.mk cX13_makeSimples_w8.toArray) 198 := dw_Sw (r := cX13_makeSimples_r9) cX13_makeSimples_s8
theorem cX13_makeSimples_s10 : dw_S cX13_makeSimples 247 cX13_makeSimples_r10 := dw_Sn (w := cX13_makeSimples_w9) (r := cX13_makeSimples_r10) cX13_makeSimples_s9 (by decide +kernel)
theorem cX13_makeSimples_k9 : dw_ok cX13_makeSimples (ByteArray.mk cX13_makeSimples_w9.toArray) 223 := dw_Sw (r := cX13_makeSimples_r10) cX13_makeSimples_s9
theorem cX13_makeSimples_s11 : dw_S cX13_makeSimples 271 cX13_makeSimples_r11 := dw_Sn (w := cX13_makeSimples_w10) (r := cX13_makeSimples_r11) cX13_makeSimples_s10 (by decide +kernel)
theorem cX13_makeSimples_k10 : dw_ok cX13_makeSimples (ByteArray.mk cX13_makeSimples_w10.toArray) 247 := dw_Sw (r := cX13_makeSimples_r11) cX13_makeSimples_s10
theorem cX13_makeSimples_s12 : dw_S cX13_makeSimples 295 cX13_makeSimples_r12 := dw_Sn (w := cX13_makeSimples_w11) (r := cX13_makeSimples_r12) cX13_makeSimples_s11 (by decide +kernel)
theorem cX13_makeSimples_k11 : dw_ok cX13_makeSimples (ByteArray.mk cX13_makeSimples_w11.toArray) 271 := dw_Sw (r := cX13_makeSimples_r12) cX13_makeSimples_s11
theorem cX13_makeSimples_s13 : dw_S cX13_makeSimples 320 cX13_makeSimples_r13 := dw_Sn (w := cX13_makeSimples_w12) (r := cX13_makeSimples_r13) cX13_makeSimples_s12 (by decide +kernel)
theorem cX13_makeSimples_k12 : dw_ok cX13_makeSimples (ByteArray.mk cX13_makeSimples_w12.toArray) 295 := dw_Sw (r := cX13_makeSimples_r13) cX13_makeSimples_s12
theorem cX13_makeSimples_s14 : dw_S cX13_makeSimples 344 cX13_makeSimples_r14 := dw_Sn (w := cX13_makeSimples_w13) (r := cX13_makeSimples_r14) cX13_makeSimples_s13 (by decide +kernel)
theorem cX13_makeSimples_k13 : dw_ok cX13_makeSimples (ByteArray.mk cX13_makeSimples_w13.toArray) 320 := dw_Sw (r := cX13_makeSimples_r14) cX13_makeSimples_s13
theorem cX13_makeSimples_s15 : dw_S cX13_makeSimples 368 cX13_makeSimples_r15 := dw_Sn (w := cX13_makeSimples_w14) (r := cX13_makeSimples_r15) cX13_makeSimples_s14 (by decide +kernel)
theorem cX13_makeSimples_k14 : dw_ok cX13_makeSimples (ByteArray.mk cX13_makeSimples_w14.toArray) 344 := dw_Sw (r := cX13_makeSimples_r15) cX13_makeSimples_s14
theorem cX13_makeSimples_s16 : dw_S cX13_makeSimples 392 cX13_makeSimples_r16 := dw_Sn (w := cX13_makeSimples_w15) (r := cX13_makeSimples_r16) cX13_makeSimples_s15 (by decide +kernel)
theorem cX13_makeSimples_k15 : dw_ok cX13_makeSimples (ByteArray.mk cX13_makeSimples_w15.toArray) 368 := dw_Sw (r := cX13_makeSimples_r16) cX13_makeSimples_s15
theorem cX13_makeSimples_s17 : dw_S cX13_makeSimples 416 cX13_makeSimples_r17 := dw_Sn (w := cX13_makeSimples_w16) (r := cX13_makeSimples_r17) cX13_makeSimples_s16 (by decide +kernel)
theorem cX13_makeSimples_k16 : dw_ok cX13_makeSimples (ByteArray.mk cX13_makeSimples_w16.toArray) 392 := dw_Sw (r := cX13_makeSimples_r17) cX13_makeSimples_s16
theorem cX13_makeSimples_k17 : dw_ok cX13_makeSimples (ByteArray.mk cX13_makeSimples_w17.toArray) 416 := dw_Sw (r := []) cX13_makeSimples_s17
def cX13_makeStates_w7 : List UInt8 := [0x2a, 0xb4, 0x01, 0x24, 0x04, 0x1d, 0x78, 0x15, 0x04, 0x4f, 0xb1]
def cX13_makeStates_r7 : List UInt8 := cX13_makeStates_w7 ++ []
def cX13_makeStates_w6 : List UInt8 := [0xb4, 0x01, 0x24, 0x15, 0x05, 0x15, 0x04, 0x4f, 0x15, 0x04, 0x04, 0x15, 0x06, 0x1c, 0x60, 0x78, 0x60, 0x36, 0x04, 0x84, 0x05, 0x01, 0xa7, 0xff, 0x6b]
def cX13_makeStates_r6 : List UInt8 := cX13_makeStates_w6 ++ cX13_makeStates_r7
def cX13_makeStates_w5 : List UInt8 := [0xb6, 0x02, 0x42, 0x60, 0x33, 0x54, 0x84, 0x07, 0x01, 0xa7, 0xff, 0xd6, 0x2a, 0xb4, 0x01, 0x21, 0x15, 0x05, 0x15, 0x06, 0x1c, 0x60, 0x4f, 0x2a]
def cX13_makeStates_r5 : List UInt8 := cX13_makeStates_w5 ++ cX13_makeStates_r6
def cX13_makeStates_w4 : List UInt8 := [0x2a, 0xb4, 0x01, 0x1e, 0x10, 0x20, 0x15, 0x05, 0x68, 0x15, 0x07, 0x60, 0x2a, 0xb4, 0x01, 0x1e, 0x10, 0x20, 0x15, 0x05, 0x68, 0x2a, 0x15, 0x07]
def cX13_makeStates_r4 : List UInt8 := cX13_makeStates_w4 ++ cX13_makeStates_r5
def cX13_makeStates_w3 : List UInt8 := [0x15, 0x06, 0x91, 0x54, 0x84, 0x06, 0x01, 0x84, 0x07, 0x01, 0xa7, 0xff, 0xd5, 0x03, 0x36, 0x07, 0x15, 0x07, 0x2b, 0xb4, 0x00, 0x2c, 0xa2, 0x00, 0x27]
def cX13_makeStates_r3 : List UInt8 := cX13_makeStates_w3 ++ cX13_makeStates_r4
def cX13_makeStates_w2 : List UInt8 := [0x2a, 0xb4, 0x00, 0xc7, 0x15, 0x07, 0x2e, 0x15, 0x07, 0xa0, 0x00, 0x16, 0x2a, 0xb4, 0x01, 0x1e, 0x10, 0x20, 0x15, 0x05, 0x68, 0x15, 0x07, 0x60]
def cX13_makeStates_r2 : List UInt8 := cX13_makeStates_w2 ++ cX13_makeStates_r3
def cX13_makeStates_w1 : List UInt8 := [0xa2, 0x00, 0x93, 0x2a, 0x2b, 0x15, 0x05, 0xb6, 0x02, 0x4b, 0x03, 0x36, 0x06, 0x03, 0x36, 0x07, 0x15, 0x07, 0x2b, 0xb4, 0x00, 0x2c, 0xa2, 0x00, 0x28]
def cX13_makeStates_r1 : List UInt8 := cX13_makeStates_w1 ++ cX13_makeStates_r2
def cX13_makeStates_w0 : List UInt8 := [0x2a, 0x2b, 0xb6, 0x01, 0xb6, 0x3d, 0x2b, 0xb4, 0x00, 0x2c, 0x05, 0x6c, 0x3e, 0x03, 0x36, 0x04, 0x03, 0x36, 0x05, 0x15, 0x05, 0x04, 0x1d, 0x78]
def cX13_makeStates_r0 : List UInt8 := cX13_makeStates_w0 ++ cX13_makeStates_r1
theorem cX13_makeStates_s0 : dw_S cX13_makeStates 0 cX13_makeStates_r0 := dw_S0 (by decide +kernel)
theorem cX13_makeStates_s1 : dw_S cX13_makeStates 24 cX13_makeStates_r1 := dw_Sn (w := cX13_makeStates_w0) (r := cX13_makeStates_r1) cX13_makeStates_s0 (by decide +kernel)
theorem cX13_makeStates_k0 : dw_ok cX13_makeStates (ByteArray.mk cX13_makeStates_w0.toArray) 0 := dw_Sw (r := cX13_makeStates_r1) cX13_makeStates_s0
theorem cX13_makeStates_s2 : dw_S cX13_makeStates 49 cX13_makeStates_r2 := dw_Sn (w := cX13_makeStates_w1) (r := cX13_makeStates_r2) cX13_makeStates_s1 (by decide +kernel)
theorem cX13_makeStates_k1 : dw_ok cX13_makeStates (ByteArray.mk cX13_makeStates_w1.toArray) 24 := dw_Sw (r := cX13_makeStates_r2) cX13_makeStates_s1
theorem cX13_makeStates_s3 : dw_S cX13_makeStates 73 cX13_makeStates_r3 := dw_Sn (w := cX13_makeStates_w2) (r := cX13_makeStates_r3) cX13_makeStates_s2 (by decide +kernel)
theorem cX13_makeStates_k2 : dw_ok cX13_makeStates (ByteArray.mk cX13_makeStates_w2.toArray) 49 := dw_Sw (r := cX13_makeStates_r3) cX13_makeStates_s2
theorem cX13_makeStates_s4 : dw_S cX13_makeStates 98 cX13_makeStates_r4 := dw_Sn (w := cX13_makeStates_w3) (r := cX13_makeStates_r4) cX13_makeStates_s3 (by decide +kernel)
theorem cX13_makeStates_k3 : dw_ok cX13_makeStates (ByteArray.mk cX13_makeStates_w3.toArray) 73 := dw_Sw (r := cX13_makeStates_r4) cX13_makeStates_s3
theorem cX13_makeStates_s5 : dw_S cX13_makeStates 122 cX13_makeStates_r5 := dw_Sn (w := cX13_makeStates_w4) (r := cX13_makeStates_r5) cX13_makeStates_s4 (by decide +kernel)
theorem cX13_makeStates_k4 : dw_ok cX13_makeStates (ByteArray.mk cX13_makeStates_w4.toArray) 98 := dw_Sw (r := cX13_makeStates_r5) cX13_makeStates_s4
theorem cX13_makeStates_s6 : dw_S cX13_makeStates 146 cX13_makeStates_r6 := dw_Sn (w := cX13_makeStates_w5) (r := cX13_makeStates_r6) cX13_makeStates_s5 (by decide +kernel)
theorem cX13_makeStates_k5 : dw_ok cX13_makeStates (ByteArray.mk cX13_makeStates_w5.toArray) 122 := dw_Sw (r := cX13_makeStates_r6) cX13_makeStates_s5
theorem cX13_makeStates_s7 : dw_S cX13_makeStates 171 cX13_makeStates_r7 := dw_Sn (w := cX13_makeStates_w6) (r := cX13_makeStates_r7) cX13_makeStates_s6 (by decide +kernel)
theorem cX13_makeStates_k6 : dw_ok cX13_makeStates (ByteArray.mk cX13_makeStates_w6.toArray) 146 := dw_Sw (r := cX13_makeStates_r7) cX13_makeStates_s6
theorem cX13_makeStates_k7 : dw_ok cX13_makeStates (ByteArray.mk cX13_makeStates_w7.toArray) 171 := dw_Sw (r := []) cX13_makeStates_s7
def cX13_makeTurned_w6 : List UInt8 := [0xb6, 0x02, 0xd4, 0x4f, 0x84, 0x02, 0x01, 0xa7, 0xff, 0x6a, 0xb1]
def cX13_makeTurned_r6 : List UInt8 := cX13_makeTurned_w6 ++ []
def cX13_makeTurned_w5 : List UInt8 := [0x04, 0x64, 0x15, 0x04, 0x64, 0x2e, 0x64, 0x4f, 0x84, 0x04, 0x01, 0xa7, 0xff, 0xdd, 0x2a, 0xb4, 0x01, 0x5b, 0x1d, 0x2a, 0x1b, 0x2a, 0xb4, 0x01, 0x64]
def cX13_makeTurned_r5 : List UInt8 := cX13_makeTurned_w5 ++ cX13_makeTurned_r6
def cX13_makeTurned_w4 : List UInt8 := [0x15, 0x04, 0x1b, 0xa2, 0x00, 0x23, 0x2a, 0xb4, 0x01, 0x64, 0x15, 0x04, 0x1b, 0x04, 0x64, 0x2a, 0xb4, 0x01, 0x4c, 0x08, 0x1d, 0x68, 0x1b, 0x60]
def cX13_makeTurned_r4 : List UInt8 := cX13_makeTurned_w4 ++ cX13_makeTurned_r5
def cX13_makeTurned_w3 : List UInt8 := [0x84, 0x04, 0x01, 0xa7, 0xff, 0xcb, 0x2a, 0xb4, 0x01, 0x58, 0x1d, 0x2a, 0x1b, 0x2a, 0xb4, 0x01, 0x64, 0xb6, 0x02, 0xd4, 0x4f, 0x03, 0x36, 0x04]
def cX13_makeTurned_r3 : List UInt8 := cX13_makeTurned_w3 ++ cX13_makeTurned_r4
def cX13_makeTurned_w2 : List UInt8 := [0x1b, 0x04, 0x64, 0x15, 0x04, 0x64, 0xa0, 0x00, 0x0c, 0x2a, 0xb4, 0x01, 0x64, 0x15, 0x04, 0x15, 0x05, 0x4f, 0x84, 0x05, 0x01, 0xa7, 0xff, 0xda]
def cX13_makeTurned_r2 : List UInt8 := cX13_makeTurned_w2 ++ cX13_makeTurned_r3
def cX13_makeTurned_w1 : List UInt8 := [0x1b, 0xa2, 0x00, 0x35, 0x03, 0x36, 0x05, 0x15, 0x05, 0x1b, 0xa2, 0x00, 0x26, 0x2a, 0xb4, 0x01, 0x4c, 0x08, 0x1d, 0x68, 0x15, 0x05, 0x60, 0x2e]
def cX13_makeTurned_r1 : List UInt8 := cX13_makeTurned_w1 ++ cX13_makeTurned_r2
def cX13_makeTurned_w0 : List UInt8 := [0x03, 0x3d, 0x1c, 0x2a, 0xb4, 0x01, 0x49, 0x1b, 0x2e, 0xa2, 0x00, 0x92, 0x10, 0x78, 0x1b, 0x68, 0x1c, 0x60, 0x3e, 0x03, 0x36, 0x04, 0x15, 0x04]
def cX13_makeTurned_r0 : List UInt8 := cX13_makeTurned_w0 ++ cX13_makeTurned_r1
theorem cX13_makeTurned_s0 : dw_S cX13_makeTurned 0 cX13_makeTurned_r0 := dw_S0 (by decide +kernel)
theorem cX13_makeTurned_s1 : dw_S cX13_makeTurned 24 cX13_makeTurned_r1 := dw_Sn (w := cX13_makeTurned_w0) (r := cX13_makeTurned_r1) cX13_makeTurned_s0 (by decide +kernel)
theorem cX13_makeTurned_k0 : dw_ok cX13_makeTurned (ByteArray.mk cX13_makeTurned_w0.toArray) 0 := dw_Sw (r := cX13_makeTurned_r1) cX13_makeTurned_s0
theorem cX13_makeTurned_s2 : dw_S cX13_makeTurned 48 cX13_makeTurned_r2 := dw_Sn (w := cX13_makeTurned_w1) (r := cX13_makeTurned_r2) cX13_makeTurned_s1 (by decide +kernel)
theorem cX13_makeTurned_k1 : dw_ok cX13_makeTurned (ByteArray.mk cX13_makeTurned_w1.toArray) 24 := dw_Sw (r := cX13_makeTurned_r2) cX13_makeTurned_s1
theorem cX13_makeTurned_s3 : dw_S cX13_makeTurned 72 cX13_makeTurned_r3 := dw_Sn (w := cX13_makeTurned_w2) (r := cX13_makeTurned_r3) cX13_makeTurned_s2 (by decide +kernel)
theorem cX13_makeTurned_k2 : dw_ok cX13_makeTurned (ByteArray.mk cX13_makeTurned_w2.toArray) 48 := dw_Sw (r := cX13_makeTurned_r3) cX13_makeTurned_s2
theorem cX13_makeTurned_s4 : dw_S cX13_makeTurned 96 cX13_makeTurned_r4 := dw_Sn (w := cX13_makeTurned_w3) (r := cX13_makeTurned_r4) cX13_makeTurned_s3 (by decide +kernel)
theorem cX13_makeTurned_k3 : dw_ok cX13_makeTurned (ByteArray.mk cX13_makeTurned_w3.toArray) 72 := dw_Sw (r := cX13_makeTurned_r4) cX13_makeTurned_s3
theorem cX13_makeTurned_s5 : dw_S cX13_makeTurned 120 cX13_makeTurned_r5 := dw_Sn (w := cX13_makeTurned_w4) (r := cX13_makeTurned_r5) cX13_makeTurned_s4 (by decide +kernel)
theorem cX13_makeTurned_k4 : dw_ok cX13_makeTurned (ByteArray.mk cX13_makeTurned_w4.toArray) 96 := dw_Sw (r := cX13_makeTurned_r5) cX13_makeTurned_s4
theorem cX13_makeTurned_s6 : dw_S cX13_makeTurned 145 cX13_makeTurned_r6 := dw_Sn (w := cX13_makeTurned_w5) (r := cX13_makeTurned_r6) cX13_makeTurned_s5 (by decide +kernel)
theorem cX13_makeTurned_k5 : dw_ok cX13_makeTurned (ByteArray.mk cX13_makeTurned_w5.toArray) 120 := dw_Sw (r := cX13_makeTurned_r6) cX13_makeTurned_s5
theorem cX13_makeTurned_k6 : dw_ok cX13_makeTurned (ByteArray.mk cX13_makeTurned_w6.toArray) 145 := dw_Sw (r := []) cX13_makeTurned_s6
def cX13_maps_w9 : List UInt8 := [0xb4, 0x00, 0x72, 0x1c, 0xb6, 0x02, 0xac, 0xa7, 0x00, 0x09, 0x2a, 0xb4, 0x01, 0x09, 0x1c, 0x2e, 0x68, 0x3e, 0x84, 0x04, 0x01, 0xa7, 0xff, 0x6c, 0x1d, 0xac]
def cX13_maps_r9 : List UInt8 := cX13_maps_w9 ++ []
def cX13_maps_w8 : List UInt8 := [0x15, 0x07, 0x80, 0x36, 0x05, 0x84, 0x06, 0x01, 0xa7, 0xff, 0xbb, 0x2a, 0x03, 0xb5, 0x02, 0xa3, 0x1d, 0x15, 0x05, 0x99, 0x00, 0x0f, 0x2a, 0x2a]
def cX13_maps_r8 : List UInt8 := cX13_maps_w8 ++ cX13_maps_r9
def cX13_maps_w7 : List UInt8 := [0xa7, 0x00, 0x04, 0x03, 0x36, 0x07, 0x2a, 0xb4, 0x01, 0x1b, 0x2a, 0xb4, 0x00, 0x72, 0xb4, 0x00, 0x17, 0x15, 0x06, 0x2e, 0x15, 0x07, 0x54, 0x15, 0x05]
def cX13_maps_r7 : List UInt8 := cX13_maps_w7 ++ cX13_maps_r8
def cX13_maps_w6 : List UInt8 := [0x2a, 0xb4, 0x00, 0x72, 0xb4, 0x00, 0x2f, 0x2a, 0xb4, 0x00, 0x72, 0xb4, 0x00, 0x12, 0x15, 0x06, 0x2e, 0x2e, 0x15, 0x04, 0xa0, 0x00, 0x07, 0x04]
def cX13_maps_r6 : List UInt8 := cX13_maps_w6 ++ cX13_maps_r7
def cX13_maps_w5 : List UInt8 := [0x15, 0x06, 0x02, 0x4f, 0x84, 0x06, 0x01, 0xa7, 0xff, 0xee, 0x03, 0x36, 0x06, 0x15, 0x06, 0x2a, 0xb4, 0x00, 0x72, 0xb4, 0x00, 0x2c, 0xa2, 0x00, 0x3f]
def cX13_maps_r5 : List UInt8 := cX13_maps_w5 ++ cX13_maps_r6
def cX13_maps_w4 : List UInt8 := [0xb4, 0x00, 0x72, 0xb4, 0x00, 0x4e, 0xa2, 0x00, 0x8e, 0x03, 0x36, 0x05, 0x03, 0x36, 0x06, 0x15, 0x06, 0x10, 0x28, 0xa2, 0x00, 0x11, 0x2a, 0xb4, 0x01, 0x15]
def cX13_maps_r4 : List UInt8 := cX13_maps_w4 ++ cX13_maps_r5
def cX13_maps_w3 : List UInt8 := [0xac, 0x2a, 0xb4, 0x00, 0x72, 0xb6, 0x00, 0x4b, 0x2a, 0x2a, 0xb4, 0x00, 0x72, 0xb6, 0x02, 0x75, 0x04, 0x3e, 0x03, 0x36, 0x04, 0x15, 0x04, 0x2a]
def cX13_maps_r3 : List UInt8 := cX13_maps_w3 ++ cX13_maps_r4
def cX13_maps_w2 : List UInt8 := [0xb4, 0x00, 0x2c, 0x10, 0x0e, 0xa3, 0x00, 0x0e, 0x2a, 0xb4, 0x00, 0x72, 0xb4, 0x01, 0x97, 0x07, 0xa4, 0x00, 0x09, 0x2a, 0x06, 0xb6, 0x01, 0x93]
def cX13_maps_r2 : List UInt8 := cX13_maps_w2 ++ cX13_maps_r3
def cX13_maps_w1 : List UInt8 := [0x1c, 0x07, 0xa4, 0x00, 0x09, 0x2a, 0x05, 0xb6, 0x01, 0x93, 0xac, 0x2a, 0x1b, 0x2a, 0xb4, 0x00, 0x72, 0xb6, 0x01, 0xb2, 0x2a, 0xb4, 0x00, 0x72]
def cX13_maps_r1 : List UInt8 := cX13_maps_w1 ++ cX13_maps_r2
def cX13_maps_w0 : List UInt8 := [0x2a, 0x03, 0xb5, 0x00, 0x01, 0x2a, 0x1b, 0xb6, 0x01, 0xa7, 0x9a, 0x00, 0x09, 0x2a, 0x04, 0xb6, 0x01, 0x93, 0xac, 0x1c, 0x04, 0xa1, 0x00, 0x08]
def cX13_maps_r0 : List UInt8 := cX13_maps_w0 ++ cX13_maps_r1
theorem cX13_maps_s0 : dw_S cX13_maps 0 cX13_maps_r0 := dw_S0 (by decide +kernel)
theorem cX13_maps_s1 : dw_S cX13_maps 24 cX13_maps_r1 := dw_Sn (w := cX13_maps_w0) (r := cX13_maps_r1) cX13_maps_s0 (by decide +kernel)
theorem cX13_maps_k0 : dw_ok cX13_maps (ByteArray.mk cX13_maps_w0.toArray) 0 := dw_Sw (r := cX13_maps_r1) cX13_maps_s0
theorem cX13_maps_s2 : dw_S cX13_maps 48 cX13_maps_r2 := dw_Sn (w := cX13_maps_w1) (r := cX13_maps_r2) cX13_maps_s1 (by decide +kernel)
theorem cX13_maps_k1 : dw_ok cX13_maps (ByteArray.mk cX13_maps_w1.toArray) 24 := dw_Sw (r := cX13_maps_r2) cX13_maps_s1
theorem cX13_maps_s3 : dw_S cX13_maps 72 cX13_maps_r3 := dw_Sn (w := cX13_maps_w2) (r := cX13_maps_r3) cX13_maps_s2 (by decide +kernel)
theorem cX13_maps_k2 : dw_ok cX13_maps (ByteArray.mk cX13_maps_w2.toArray) 48 := dw_Sw (r := cX13_maps_r3) cX13_maps_s2
theorem cX13_maps_s4 : dw_S cX13_maps 96 cX13_maps_r4 := dw_Sn (w := cX13_maps_w3) (r := cX13_maps_r4) cX13_maps_s3 (by decide +kernel)
theorem cX13_maps_k3 : dw_ok cX13_maps (ByteArray.mk cX13_maps_w3.toArray) 72 := dw_Sw (r := cX13_maps_r4) cX13_maps_s3
theorem cX13_maps_s5 : dw_S cX13_maps 122 cX13_maps_r5 := dw_Sn (w := cX13_maps_w4) (r := cX13_maps_r5) cX13_maps_s4 (by decide +kernel)
theorem cX13_maps_k4 : dw_ok cX13_maps (ByteArray.mk cX13_maps_w4.toArray) 96 := dw_Sw (r := cX13_maps_r5) cX13_maps_s4
theorem cX13_maps_s6 : dw_S cX13_maps 147 cX13_maps_r6 := dw_Sn (w := cX13_maps_w5) (r := cX13_maps_r6) cX13_maps_s5 (by decide +kernel)
theorem cX13_maps_k5 : dw_ok cX13_maps (ByteArray.mk cX13_maps_w5.toArray) 122 := dw_Sw (r := cX13_maps_r6) cX13_maps_s5
theorem cX13_maps_s7 : dw_S cX13_maps 171 cX13_maps_r7 := dw_Sn (w := cX13_maps_w6) (r := cX13_maps_r7) cX13_maps_s6 (by decide +kernel)
theorem cX13_maps_k6 : dw_ok cX13_maps (ByteArray.mk cX13_maps_w6.toArray) 147 := dw_Sw (r := cX13_maps_r7) cX13_maps_s6
theorem cX13_maps_s8 : dw_S cX13_maps 196 cX13_maps_r8 := dw_Sn (w := cX13_maps_w7) (r := cX13_maps_r8) cX13_maps_s7 (by decide +kernel)
theorem cX13_maps_k7 : dw_ok cX13_maps (ByteArray.mk cX13_maps_w7.toArray) 171 := dw_Sw (r := cX13_maps_r8) cX13_maps_s7
theorem cX13_maps_s9 : dw_S cX13_maps 220 cX13_maps_r9 := dw_Sn (w := cX13_maps_w8) (r := cX13_maps_r9) cX13_maps_s8 (by decide +kernel)
theorem cX13_maps_k8 : dw_ok cX13_maps (ByteArray.mk cX13_maps_w8.toArray) 196 := dw_Sw (r := cX13_maps_r9) cX13_maps_s8
theorem cX13_maps_k9 : dw_ok cX13_maps (ByteArray.mk cX13_maps_w9.toArray) 220 := dw_Sw (r := []) cX13_maps_s9
def cX13_mapsOf_w7 : List UInt8 := [0x15, 0x04, 0x2a, 0x2b, 0x1c, 0xb6, 0x02, 0xac, 0x60, 0x36, 0x04, 0x2a, 0x15, 0x06, 0xb6, 0x02, 0xaf, 0x84, 0x07, 0x01, 0xa7, 0xff, 0xd9, 0x2a, 0x1d, 0xb6, 0x02, 0xaf, 0x15, 0x04, 0xac]
def cX13_mapsOf_r7 : List UInt8 := cX13_mapsOf_w7 ++ []
def cX13_mapsOf_w6 : List UInt8 := [0x36, 0x06, 0x03, 0x36, 0x07, 0x15, 0x07, 0x2a, 0xb4, 0x01, 0x09, 0x1c, 0x2e, 0xa2, 0x00, 0x22, 0x2a, 0x15, 0x05, 0x15, 0x07, 0xb6, 0x02, 0xa6]
def cX13_mapsOf_r6 : List UInt8 := cX13_mapsOf_w6 ++ cX13_mapsOf_r7
def cX13_mapsOf_w5 : List UInt8 := [0x02, 0x36, 0x05, 0x84, 0x06, 0x01, 0xa7, 0xff, 0x91, 0x15, 0x05, 0x02, 0xa0, 0x00, 0x09, 0x04, 0x36, 0x04, 0xa7, 0x00, 0x36, 0x2a, 0xb4, 0x02, 0xa3]
def cX13_mapsOf_r5 : List UInt8 := cX13_mapsOf_w5 ++ cX13_mapsOf_r6
def cX13_mapsOf_w4 : List UInt8 := [0x2a, 0xb4, 0x01, 0x15, 0x2a, 0xb4, 0x00, 0xf4, 0x15, 0x06, 0x2e, 0x2e, 0x02, 0xa0, 0x00, 0x0d, 0x2a, 0xb4, 0x00, 0xf4, 0x15, 0x06, 0x2e, 0xa7, 0x00, 0x04]
def cX13_mapsOf_r4 : List UInt8 := cX13_mapsOf_w4 ++ cX13_mapsOf_r5
def cX13_mapsOf_w3 : List UInt8 := [0x2a, 0xb4, 0x01, 0x15, 0x2a, 0xb4, 0x00, 0xf1, 0x15, 0x06, 0x2e, 0x2e, 0x02, 0xa0, 0x00, 0x0d, 0x2a, 0xb4, 0x00, 0xf1, 0x15, 0x06, 0x2e, 0xa7, 0x00, 0x1e]
def cX13_mapsOf_r3 : List UInt8 := cX13_mapsOf_w3 ++ cX13_mapsOf_r4
def cX13_mapsOf_w2 : List UInt8 := [0x2a, 0xb4, 0x01, 0x15, 0x2a, 0xb4, 0x00, 0xee, 0x15, 0x06, 0x2e, 0x2e, 0x02, 0xa0, 0x00, 0x0d, 0x2a, 0xb4, 0x00, 0xee, 0x15, 0x06, 0x2e, 0xa7, 0x00, 0x38]
def cX13_mapsOf_r2 : List UInt8 := cX13_mapsOf_w2 ++ cX13_mapsOf_r3
def cX13_mapsOf_w1 : List UInt8 := [0x2b, 0xb4, 0x00, 0x2c, 0x05, 0x6c, 0xa2, 0x00, 0x6a, 0x15, 0x05, 0x02, 0xa0, 0x00, 0x64, 0x2a, 0xb4, 0x01, 0x1b, 0x15, 0x06, 0x33, 0x99, 0x00, 0x54]
def cX13_mapsOf_r1 : List UInt8 := cX13_mapsOf_w1 ++ cX13_mapsOf_r2
def cX13_mapsOf_w0 : List UInt8 := [0x2a, 0xb4, 0x02, 0xa3, 0x3e, 0x03, 0x36, 0x04, 0x2a, 0x2b, 0x1c, 0xb6, 0x02, 0xa9, 0x99, 0x00, 0xba, 0x02, 0x36, 0x05, 0x03, 0x36, 0x06, 0x15, 0x06]
def cX13_mapsOf_r0 : List UInt8 := cX13_mapsOf_w0 ++ cX13_mapsOf_r1
theorem cX13_mapsOf_s0 : dw_S cX13_mapsOf 0 cX13_mapsOf_r0 := dw_S0 (by decide +kernel)
theorem cX13_mapsOf_s1 : dw_S cX13_mapsOf 25 cX13_mapsOf_r1 := dw_Sn (w := cX13_mapsOf_w0) (r := cX13_mapsOf_r1) cX13_mapsOf_s0 (by decide +kernel)
theorem cX13_mapsOf_k0 : dw_ok cX13_mapsOf (ByteArray.mk cX13_mapsOf_w0.toArray) 0 := dw_Sw (r := cX13_mapsOf_r1) cX13_mapsOf_s0
theorem cX13_mapsOf_s2 : dw_S cX13_mapsOf 50 cX13_mapsOf_r2 := dw_Sn (w := cX13_mapsOf_w1) (r := cX13_mapsOf_r2) cX13_mapsOf_s1 (by decide +kernel)
theorem cX13_mapsOf_k1 : dw_ok cX13_mapsOf (ByteArray.mk cX13_mapsOf_w1.toArray) 25 := dw_Sw (r := cX13_mapsOf_r2) cX13_mapsOf_s1
theorem cX13_mapsOf_s3 : dw_S cX13_mapsOf 76 cX13_mapsOf_r3 := dw_Sn (w := cX13_mapsOf_w2) (r := cX13_mapsOf_r3) cX13_mapsOf_s2 (by decide +kernel)
theorem cX13_mapsOf_k2 : dw_ok cX13_mapsOf (ByteArray.mk cX13_mapsOf_w2.toArray) 50 := dw_Sw (r := cX13_mapsOf_r3) cX13_mapsOf_s2
theorem cX13_mapsOf_s4 : dw_S cX13_mapsOf 102 cX13_mapsOf_r4 := dw_Sn (w := cX13_mapsOf_w3) (r := cX13_mapsOf_r4) cX13_mapsOf_s3 (by decide +kernel)
theorem cX13_mapsOf_k3 : dw_ok cX13_mapsOf (ByteArray.mk cX13_mapsOf_w3.toArray) 76 := dw_Sw (r := cX13_mapsOf_r4) cX13_mapsOf_s3
theorem cX13_mapsOf_s5 : dw_S cX13_mapsOf 128 cX13_mapsOf_r5 := dw_Sn (w := cX13_mapsOf_w4) (r := cX13_mapsOf_r5) cX13_mapsOf_s4 (by decide +kernel)
theorem cX13_mapsOf_k4 : dw_ok cX13_mapsOf (ByteArray.mk cX13_mapsOf_w4.toArray) 102 := dw_Sw (r := cX13_mapsOf_r5) cX13_mapsOf_s4
theorem cX13_mapsOf_s6 : dw_S cX13_mapsOf 153 cX13_mapsOf_r6 := dw_Sn (w := cX13_mapsOf_w5) (r := cX13_mapsOf_r6) cX13_mapsOf_s5 (by decide +kernel)
theorem cX13_mapsOf_k5 : dw_ok cX13_mapsOf (ByteArray.mk cX13_mapsOf_w5.toArray) 128 := dw_Sw (r := cX13_mapsOf_r6) cX13_mapsOf_s5
theorem cX13_mapsOf_s7 : dw_S cX13_mapsOf 177 cX13_mapsOf_r7 := dw_Sn (w := cX13_mapsOf_w6) (r := cX13_mapsOf_r7) cX13_mapsOf_s6 (by decide +kernel)
theorem cX13_mapsOf_k6 : dw_ok cX13_mapsOf (ByteArray.mk cX13_mapsOf_w6.toArray) 153 := dw_Sw (r := cX13_mapsOf_r7) cX13_mapsOf_s6
theorem cX13_mapsOf_k7 : dw_ok cX13_mapsOf (ByteArray.mk cX13_mapsOf_w7.toArray) 177 := dw_Sw (r := []) cX13_mapsOf_s7
def cX13_minor_w14 : List UInt8 := [0xb4, 0x01, 0x06, 0x10, 0x0e, 0x15, 0x07, 0x68, 0x2f, 0x37, 0x05, 0x84, 0x07, 0x01, 0xa7, 0xff, 0x0d, 0x2a, 0xb4, 0x01, 0x06, 0x10, 0x0e, 0x1d, 0x04, 0x64, 0x68, 0x2f, 0xad]
def cX13_minor_r14 : List UInt8 := cX13_minor_w14 ++ []
def cX13_minor_w13 : List UInt8 := [0x68, 0x15, 0x0a, 0x60, 0x2f, 0x69, 0x65, 0x16, 0x05, 0x6d, 0x50, 0x84, 0x0a, 0x01, 0xa7, 0xff, 0xb0, 0x84, 0x09, 0x01, 0xa7, 0xff, 0x9e, 0x2a]
def cX13_minor_r13 : List UInt8 := cX13_minor_w13 ++ cX13_minor_r14
def cX13_minor_w12 : List UInt8 := [0x60, 0x2f, 0x69, 0x2a, 0xb4, 0x01, 0x06, 0x10, 0x0d, 0x15, 0x09, 0x68, 0x15, 0x07, 0x60, 0x2f, 0x2a, 0xb4, 0x01, 0x06, 0x10, 0x0d, 0x15, 0x07]
def cX13_minor_r12 : List UInt8 := cX13_minor_w12 ++ cX13_minor_r13
def cX13_minor_w11 : List UInt8 := [0x2a, 0xb4, 0x01, 0x06, 0x10, 0x0d, 0x15, 0x09, 0x68, 0x15, 0x0a, 0x60, 0x2f, 0x2a, 0xb4, 0x01, 0x06, 0x10, 0x0d, 0x15, 0x07, 0x68, 0x15, 0x07]
def cX13_minor_r11 : List UInt8 := cX13_minor_w11 ++ cX13_minor_r12
def cX13_minor_w10 : List UInt8 := [0x15, 0x07, 0x04, 0x60, 0x36, 0x0a, 0x15, 0x0a, 0x1d, 0xa2, 0x00, 0x50, 0x2a, 0xb4, 0x01, 0x06, 0x10, 0x0d, 0x15, 0x09, 0x68, 0x15, 0x0a, 0x60]
def cX13_minor_r10 : List UInt8 := cX13_minor_w10 ++ cX13_minor_r11
def cX13_minor_w9 : List UInt8 := [0x15, 0x09, 0x60, 0x16, 0x0a, 0x50, 0x84, 0x09, 0x01, 0xa7, 0xff, 0xbf, 0x15, 0x07, 0x04, 0x60, 0x36, 0x09, 0x15, 0x09, 0x1d, 0xa2, 0x00, 0x62]
def cX13_minor_r9 : List UInt8 := cX13_minor_w9 ++ cX13_minor_r10
def cX13_minor_w8 : List UInt8 := [0x60, 0x2a, 0xb4, 0x01, 0x06, 0x10, 0x0d, 0x15, 0x07, 0x68, 0x15, 0x09, 0x60, 0x2f, 0x50, 0x2a, 0xb4, 0x01, 0x06, 0x10, 0x0d, 0x15, 0x07, 0x68]
def cX13_minor_r8 : List UInt8 := cX13_minor_w8 ++ cX13_minor_r9
def cX13_minor_w7 : List UInt8 := [0xb4, 0x01, 0x06, 0x10, 0x0d, 0x15, 0x08, 0x68, 0x15, 0x09, 0x60, 0x2f, 0x37, 0x0a, 0x2a, 0xb4, 0x01, 0x06, 0x10, 0x0d, 0x15, 0x08, 0x68, 0x15, 0x09]
def cX13_minor_r7 : List UInt8 := cX13_minor_w7 ++ cX13_minor_r8
def cX13_minor_w6 : List UInt8 := [0x84, 0x08, 0x01, 0xa7, 0xff, 0xe5, 0x15, 0x08, 0x1d, 0xa0, 0x00, 0x05, 0x09, 0xad, 0x03, 0x36, 0x09, 0x15, 0x09, 0x1d, 0xa2, 0x00, 0x41, 0x2a]
def cX13_minor_r6 : List UInt8 := cX13_minor_w6 ++ cX13_minor_r7
def cX13_minor_w5 : List UInt8 := [0x15, 0x08, 0x1d, 0xa2, 0x00, 0x1b, 0x2a, 0xb4, 0x01, 0x06, 0x10, 0x0d, 0x15, 0x08, 0x68, 0x15, 0x07, 0x60, 0x2f, 0x09, 0x94, 0x9a, 0x00, 0x09]
def cX13_minor_r5 : List UInt8 := cX13_minor_w5 ++ cX13_minor_r6
def cX13_minor_w4 : List UInt8 := [0x84, 0x05, 0x01, 0xa7, 0xff, 0xa1, 0x0a, 0x37, 0x05, 0x03, 0x36, 0x07, 0x15, 0x07, 0x04, 0x60, 0x1d, 0xa2, 0x00, 0xf1, 0x15, 0x07, 0x36, 0x08]
def cX13_minor_r4 : List UInt8 := cX13_minor_w4 ++ cX13_minor_r5
def cX13_minor_w3 : List UInt8 := [0x2e, 0x68, 0x2a, 0xb4, 0x01, 0x03, 0x15, 0x07, 0x2e, 0x60, 0x2f, 0x50, 0x84, 0x06, 0x01, 0x84, 0x07, 0x01, 0xa7, 0xff, 0xc3, 0x84, 0x04, 0x01]
def cX13_minor_r3 : List UInt8 := cX13_minor_w3 ++ cX13_minor_r4
def cX13_minor_w2 : List UInt8 := [0x2a, 0xb4, 0x01, 0x06, 0x10, 0x0d, 0x15, 0x04, 0x68, 0x15, 0x06, 0x60, 0x2a, 0xb4, 0x00, 0xf7, 0x10, 0x18, 0x2a, 0xb4, 0x01, 0x00, 0x15, 0x05]
def cX13_minor_r2 : List UInt8 := cX13_minor_w2 ++ cX13_minor_r3
def cX13_minor_w1 : List UInt8 := [0x03, 0x36, 0x06, 0x03, 0x36, 0x07, 0x15, 0x07, 0x2a, 0xb4, 0x02, 0x8e, 0xa2, 0x00, 0x3a, 0x1c, 0x15, 0x07, 0x7a, 0x04, 0x7e, 0x04, 0xa0, 0x00, 0x2a]
def cX13_minor_r1 : List UInt8 := cX13_minor_w1 ++ cX13_minor_r2
def cX13_minor_w0 : List UInt8 := [0x03, 0x36, 0x04, 0x03, 0x36, 0x05, 0x15, 0x05, 0x2a, 0xb4, 0x02, 0x8b, 0xa2, 0x00, 0x5c, 0x1b, 0x15, 0x05, 0x7a, 0x04, 0x7e, 0x04, 0xa0, 0x00, 0x4c]
def cX13_minor_r0 : List UInt8 := cX13_minor_w0 ++ cX13_minor_r1
theorem cX13_minor_s0 : dw_S cX13_minor 0 cX13_minor_r0 := dw_S0 (by decide +kernel)
theorem cX13_minor_s1 : dw_S cX13_minor 25 cX13_minor_r1 := dw_Sn (w := cX13_minor_w0) (r := cX13_minor_r1) cX13_minor_s0 (by decide +kernel)
theorem cX13_minor_k0 : dw_ok cX13_minor (ByteArray.mk cX13_minor_w0.toArray) 0 := dw_Sw (r := cX13_minor_r1) cX13_minor_s0
theorem cX13_minor_s2 : dw_S cX13_minor 50 cX13_minor_r2 := dw_Sn (w := cX13_minor_w1) (r := cX13_minor_r2) cX13_minor_s1 (by decide +kernel)
theorem cX13_minor_k1 : dw_ok cX13_minor (ByteArray.mk cX13_minor_w1.toArray) 25 := dw_Sw (r := cX13_minor_r2) cX13_minor_s1
theorem cX13_minor_s3 : dw_S cX13_minor 74 cX13_minor_r3 := dw_Sn (w := cX13_minor_w2) (r := cX13_minor_r3) cX13_minor_s2 (by decide +kernel)
theorem cX13_minor_k2 : dw_ok cX13_minor (ByteArray.mk cX13_minor_w2.toArray) 50 := dw_Sw (r := cX13_minor_r3) cX13_minor_s2
theorem cX13_minor_s4 : dw_S cX13_minor 98 cX13_minor_r4 := dw_Sn (w := cX13_minor_w3) (r := cX13_minor_r4) cX13_minor_s3 (by decide +kernel)
theorem cX13_minor_k3 : dw_ok cX13_minor (ByteArray.mk cX13_minor_w3.toArray) 74 := dw_Sw (r := cX13_minor_r4) cX13_minor_s3
theorem cX13_minor_s5 : dw_S cX13_minor 122 cX13_minor_r5 := dw_Sn (w := cX13_minor_w4) (r := cX13_minor_r5) cX13_minor_s4 (by decide +kernel)
theorem cX13_minor_k4 : dw_ok cX13_minor (ByteArray.mk cX13_minor_w4.toArray) 98 := dw_Sw (r := cX13_minor_r5) cX13_minor_s4
theorem cX13_minor_s6 : dw_S cX13_minor 146 cX13_minor_r6 := dw_Sn (w := cX13_minor_w5) (r := cX13_minor_r6) cX13_minor_s5 (by decide +kernel)
theorem cX13_minor_k5 : dw_ok cX13_minor (ByteArray.mk cX13_minor_w5.toArray) 122 := dw_Sw (r := cX13_minor_r6) cX13_minor_s5
theorem cX13_minor_s7 : dw_S cX13_minor 170 cX13_minor_r7 := dw_Sn (w := cX13_minor_w6) (r := cX13_minor_r7) cX13_minor_s6 (by decide +kernel)
theorem cX13_minor_k6 : dw_ok cX13_minor (ByteArray.mk cX13_minor_w6.toArray) 146 := dw_Sw (r := cX13_minor_r7) cX13_minor_s6
theorem cX13_minor_s8 : dw_S cX13_minor 195 cX13_minor_r8 := dw_Sn (w := cX13_minor_w7) (r := cX13_minor_r8) cX13_minor_s7 (by decide +kernel)
theorem cX13_minor_k7 : dw_ok cX13_minor (ByteArray.mk cX13_minor_w7.toArray) 170 := dw_Sw (r := cX13_minor_r8) cX13_minor_s7
theorem cX13_minor_s9 : dw_S cX13_minor 219 cX13_minor_r9 := dw_Sn (w := cX13_minor_w8) (r := cX13_minor_r9) cX13_minor_s8 (by decide +kernel)
theorem cX13_minor_k8 : dw_ok cX13_minor (ByteArray.mk cX13_minor_w8.toArray) 195 := dw_Sw (r := cX13_minor_r9) cX13_minor_s8
theorem cX13_minor_s10 : dw_S cX13_minor 243 cX13_minor_r10 := dw_Sn (w := cX13_minor_w9) (r := cX13_minor_r10) cX13_minor_s9 (by decide +kernel)
theorem cX13_minor_k9 : dw_ok cX13_minor (ByteArray.mk cX13_minor_w9.toArray) 219 := dw_Sw (r := cX13_minor_r10) cX13_minor_s9
theorem cX13_minor_s11 : dw_S cX13_minor 267 cX13_minor_r11 := dw_Sn (w := cX13_minor_w10) (r := cX13_minor_r11) cX13_minor_s10 (by decide +kernel)
theorem cX13_minor_k10 : dw_ok cX13_minor (ByteArray.mk cX13_minor_w10.toArray) 243 := dw_Sw (r := cX13_minor_r11) cX13_minor_s10
theorem cX13_minor_s12 : dw_S cX13_minor 291 cX13_minor_r12 := dw_Sn (w := cX13_minor_w11) (r := cX13_minor_r12) cX13_minor_s11 (by decide +kernel)
theorem cX13_minor_k11 : dw_ok cX13_minor (ByteArray.mk cX13_minor_w11.toArray) 267 := dw_Sw (r := cX13_minor_r12) cX13_minor_s11
theorem cX13_minor_s13 : dw_S cX13_minor 315 cX13_minor_r13 := dw_Sn (w := cX13_minor_w12) (r := cX13_minor_r13) cX13_minor_s12 (by decide +kernel)
theorem cX13_minor_k12 : dw_ok cX13_minor (ByteArray.mk cX13_minor_w12.toArray) 291 := dw_Sw (r := cX13_minor_r13) cX13_minor_s12
theorem cX13_minor_s14 : dw_S cX13_minor 339 cX13_minor_r14 := dw_Sn (w := cX13_minor_w13) (r := cX13_minor_r14) cX13_minor_s13 (by decide +kernel)
theorem cX13_minor_k13 : dw_ok cX13_minor (ByteArray.mk cX13_minor_w13.toArray) 315 := dw_Sw (r := cX13_minor_r14) cX13_minor_s13
theorem cX13_minor_k14 : dw_ok cX13_minor (ByteArray.mk cX13_minor_w14.toArray) 339 := dw_Sw (r := []) cX13_minor_s14
def cX13_mirror_w4 : List UInt8 := [0x03, 0x2a, 0xb4, 0x00, 0x79, 0xb4, 0x00, 0x23, 0x1c, 0x2e, 0x64, 0x4f, 0x84, 0x02, 0x01, 0xa7, 0xff, 0xe3, 0x2a, 0xb6, 0x01, 0xa4, 0xac]
def cX13_mirror_r4 : List UInt8 := cX13_mirror_w4 ++ []
def cX13_mirror_w3 : List UInt8 := [0x64, 0x4f, 0x84, 0x02, 0x01, 0xa7, 0xff, 0xde, 0x03, 0x3d, 0x1c, 0x10, 0x28, 0xa2, 0x00, 0x1d, 0x2a, 0xb4, 0x00, 0x79, 0xb4, 0x00, 0x23, 0x1c]
def cX13_mirror_r3 : List UInt8 := cX13_mirror_w3 ++ cX13_mirror_r4
def cX13_mirror_w2 : List UInt8 := [0xb4, 0x00, 0x2c, 0xa2, 0x00, 0x1d, 0x2a, 0xb4, 0x00, 0x79, 0xb4, 0x00, 0x20, 0x1c, 0x04, 0x2a, 0xb4, 0x00, 0x79, 0xb4, 0x00, 0x20, 0x1c, 0x2e]
def cX13_mirror_r2 : List UInt8 := cX13_mirror_w2 ++ cX13_mirror_r3
def cX13_mirror_w1 : List UInt8 := [0xa0, 0x00, 0x09, 0x2a, 0x05, 0xb6, 0x01, 0x93, 0xac, 0x2a, 0x1b, 0x2a, 0xb4, 0x00, 0x79, 0xb6, 0x01, 0xb2, 0x03, 0x3d, 0x1c, 0x2a, 0xb4, 0x00, 0x79]
def cX13_mirror_r1 : List UInt8 := cX13_mirror_w1 ++ cX13_mirror_r2
def cX13_mirror_w0 : List UInt8 := [0x2a, 0x03, 0xb5, 0x00, 0x01, 0x2a, 0x1b, 0xb6, 0x01, 0xa7, 0x9a, 0x00, 0x09, 0x2a, 0x04, 0xb6, 0x01, 0x93, 0xac, 0x2a, 0xb6, 0x01, 0x88, 0x02]
def cX13_mirror_r0 : List UInt8 := cX13_mirror_w0 ++ cX13_mirror_r1
theorem cX13_mirror_s0 : dw_S cX13_mirror 0 cX13_mirror_r0 := dw_S0 (by decide +kernel)
theorem cX13_mirror_s1 : dw_S cX13_mirror 24 cX13_mirror_r1 := dw_Sn (w := cX13_mirror_w0) (r := cX13_mirror_r1) cX13_mirror_s0 (by decide +kernel)
theorem cX13_mirror_k0 : dw_ok cX13_mirror (ByteArray.mk cX13_mirror_w0.toArray) 0 := dw_Sw (r := cX13_mirror_r1) cX13_mirror_s0
theorem cX13_mirror_s2 : dw_S cX13_mirror 49 cX13_mirror_r2 := dw_Sn (w := cX13_mirror_w1) (r := cX13_mirror_r2) cX13_mirror_s1 (by decide +kernel)
theorem cX13_mirror_k1 : dw_ok cX13_mirror (ByteArray.mk cX13_mirror_w1.toArray) 24 := dw_Sw (r := cX13_mirror_r2) cX13_mirror_s1
theorem cX13_mirror_s3 : dw_S cX13_mirror 73 cX13_mirror_r3 := dw_Sn (w := cX13_mirror_w2) (r := cX13_mirror_r3) cX13_mirror_s2 (by decide +kernel)
theorem cX13_mirror_k2 : dw_ok cX13_mirror (ByteArray.mk cX13_mirror_w2.toArray) 49 := dw_Sw (r := cX13_mirror_r3) cX13_mirror_s2
theorem cX13_mirror_s4 : dw_S cX13_mirror 97 cX13_mirror_r4 := dw_Sn (w := cX13_mirror_w3) (r := cX13_mirror_r4) cX13_mirror_s3 (by decide +kernel)
theorem cX13_mirror_k3 : dw_ok cX13_mirror (ByteArray.mk cX13_mirror_w3.toArray) 73 := dw_Sw (r := cX13_mirror_r4) cX13_mirror_s3
theorem cX13_mirror_k4 : dw_ok cX13_mirror (ByteArray.mk cX13_mirror_w4.toArray) 97 := dw_Sw (r := []) cX13_mirror_s4
def cX13_moved_w1 : List UInt8 := [0xb6, 0x01, 0x88, 0x02, 0xa0, 0x00, 0x09, 0x2a, 0x05, 0xb6, 0x01, 0x93, 0xac, 0x2a, 0x2a, 0xb4, 0x00, 0x89, 0x10, 0x20, 0x2a, 0xb4, 0x00, 0x8c, 0x1b, 0x2e, 0x68, 0xb6, 0x02, 0x22, 0xac]
def cX13_moved_r1 : List UInt8 := cX13_moved_w1 ++ []
def cX13_moved_w0 : List UInt8 := [0x2a, 0x03, 0xb5, 0x00, 0x01, 0x1b, 0x9b, 0x00, 0x0b, 0x1b, 0x2a, 0xb4, 0x01, 0xe5, 0xa1, 0x00, 0x09, 0x2a, 0x04, 0xb6, 0x01, 0x93, 0xac, 0x2a]
def cX13_moved_r0 : List UInt8 := cX13_moved_w0 ++ cX13_moved_r1
theorem cX13_moved_s0 : dw_S cX13_moved 0 cX13_moved_r0 := dw_S0 (by decide +kernel)
theorem cX13_moved_s1 : dw_S cX13_moved 24 cX13_moved_r1 := dw_Sn (w := cX13_moved_w0) (r := cX13_moved_r1) cX13_moved_s0 (by decide +kernel)
theorem cX13_moved_k0 : dw_ok cX13_moved (ByteArray.mk cX13_moved_w0.toArray) 0 := dw_Sw (r := cX13_moved_r1) cX13_moved_s0
theorem cX13_moved_k1 : dw_ok cX13_moved (ByteArray.mk cX13_moved_w1.toArray) 24 := dw_Sw (r := []) cX13_moved_s1
def cX13_moves_w2 : List UInt8 := [0x2a, 0x03, 0xb5, 0x01, 0xd1, 0x2a, 0x2a, 0xb4, 0x00, 0x72, 0x1c, 0xb6, 0x02, 0x1f, 0x2a, 0xb4, 0x01, 0xe5, 0xac]
def cX13_moves_r2 : List UInt8 := cX13_moves_w2 ++ []
def cX13_moves_w1 : List UInt8 := [0x07, 0xa4, 0x00, 0x09, 0x2a, 0x05, 0xb6, 0x01, 0x93, 0xac, 0x2a, 0x1b, 0x2a, 0xb4, 0x00, 0x72, 0xb6, 0x01, 0xb2, 0x2a, 0x03, 0xb5, 0x01, 0xe5]
def cX13_moves_r1 : List UInt8 := cX13_moves_w1 ++ cX13_moves_r2
def cX13_moves_w0 : List UInt8 := [0x2a, 0x03, 0xb5, 0x00, 0x01, 0x2a, 0x1b, 0xb6, 0x01, 0xa7, 0x9a, 0x00, 0x09, 0x2a, 0x04, 0xb6, 0x01, 0x93, 0xac, 0x1c, 0x9b, 0x00, 0x08, 0x1c]
def cX13_moves_r0 : List UInt8 := cX13_moves_w0 ++ cX13_moves_r1
theorem cX13_moves_s0 : dw_S cX13_moves 0 cX13_moves_r0 := dw_S0 (by decide +kernel)
theorem cX13_moves_s1 : dw_S cX13_moves 24 cX13_moves_r1 := dw_Sn (w := cX13_moves_w0) (r := cX13_moves_r1) cX13_moves_s0 (by decide +kernel)
theorem cX13_moves_k0 : dw_ok cX13_moves (ByteArray.mk cX13_moves_w0.toArray) 0 := dw_Sw (r := cX13_moves_r1) cX13_moves_s0
theorem cX13_moves_s2 : dw_S cX13_moves 48 cX13_moves_r2 := dw_Sn (w := cX13_moves_w1) (r := cX13_moves_r2) cX13_moves_s1 (by decide +kernel)
theorem cX13_moves_k1 : dw_ok cX13_moves (ByteArray.mk cX13_moves_w1.toArray) 24 := dw_Sw (r := cX13_moves_r2) cX13_moves_s1
theorem cX13_moves_k2 : dw_ok cX13_moves (ByteArray.mk cX13_moves_w2.toArray) 48 := dw_Sw (r := []) cX13_moves_s2
def cX13_normal_w2 : List UInt8 := [0xa0, 0x00, 0x0a, 0x2a, 0xb4, 0x01, 0x46, 0x1b, 0x2e, 0xac, 0x2a, 0x1b, 0xb6, 0x02, 0xfb, 0x1c, 0x9a, 0x00, 0x0a, 0x2a, 0xb4, 0x02, 0xec, 0xa7, 0x00, 0x07, 0x2a, 0xb4, 0x02, 0xef, 0xac]
def cX13_normal_r2 : List UInt8 := cX13_normal_w2 ++ []
def cX13_normal_w1 : List UInt8 := [0x06, 0xa4, 0x00, 0x09, 0x2a, 0x05, 0xb6, 0x01, 0x93, 0xac, 0x1c, 0x05, 0xa0, 0x00, 0x0a, 0x2a, 0xb4, 0x01, 0x43, 0x1b, 0x2e, 0xac, 0x1c, 0x06]
def cX13_normal_r1 : List UInt8 := cX13_normal_w1 ++ cX13_normal_r2
def cX13_normal_w0 : List UInt8 := [0x2a, 0x03, 0xb5, 0x00, 0x01, 0x2a, 0x1b, 0xb6, 0x02, 0xe3, 0x9a, 0x00, 0x09, 0x2a, 0x04, 0xb6, 0x01, 0x93, 0xac, 0x1c, 0x9b, 0x00, 0x08, 0x1c]
def cX13_normal_r0 : List UInt8 := cX13_normal_w0 ++ cX13_normal_r1
theorem cX13_normal_s0 : dw_S cX13_normal 0 cX13_normal_r0 := dw_S0 (by decide +kernel)
theorem cX13_normal_s1 : dw_S cX13_normal 24 cX13_normal_r1 := dw_Sn (w := cX13_normal_w0) (r := cX13_normal_r1) cX13_normal_s0 (by decide +kernel)
theorem cX13_normal_k0 : dw_ok cX13_normal (ByteArray.mk cX13_normal_w0.toArray) 0 := dw_Sw (r := cX13_normal_r1) cX13_normal_s0
theorem cX13_normal_s2 : dw_S cX13_normal 48 cX13_normal_r2 := dw_Sn (w := cX13_normal_w1) (r := cX13_normal_r2) cX13_normal_s1 (by decide +kernel)
theorem cX13_normal_k1 : dw_ok cX13_normal (ByteArray.mk cX13_normal_w1.toArray) 24 := dw_Sw (r := cX13_normal_r2) cX13_normal_s1
theorem cX13_normal_k2 : dw_ok cX13_normal (ByteArray.mk cX13_normal_w2.toArray) 48 := dw_Sw (r := []) cX13_normal_s2
def cX13_normalise_w7 : List UInt8 := [0x2a, 0xb4, 0x02, 0xef, 0x15, 0x04, 0x4f, 0x2a, 0x59, 0xb4, 0x02, 0xef, 0x04, 0x60, 0xb5, 0x02, 0xef, 0xa7, 0xff, 0x51, 0xb1]
def cX13_normalise_r7 : List UInt8 := cX13_normalise_w7 ++ []
def cX13_normalise_w6 : List UInt8 := [0xa7, 0xff, 0x89, 0x15, 0x04, 0x1d, 0xa0, 0x00, 0x10, 0x2a, 0x59, 0xb4, 0x02, 0xec, 0x04, 0x60, 0xb5, 0x02, 0xec, 0xa7, 0x00, 0x18, 0x2a, 0xb4, 0x01, 0x70]
def cX13_normalise_r6 : List UInt8 := cX13_normalise_w6 ++ cX13_normalise_r7
def cX13_normalise_w5 : List UInt8 := [0x15, 0x08, 0x2a, 0xb4, 0x01, 0x6d, 0x15, 0x08, 0x2e, 0x4f, 0x84, 0x08, 0x01, 0xa7, 0xff, 0xe6, 0x04, 0x36, 0x05, 0x84, 0x06, 0x01, 0xa7, 0xff, 0x97]
def cX13_normalise_r5 : List UInt8 := cX13_normalise_w5 ++ cX13_normalise_r6
def cX13_normalise_w4 : List UInt8 := [0x36, 0x04, 0x2a, 0x2a, 0xb4, 0x02, 0xe9, 0xb5, 0x02, 0xe6, 0x03, 0x36, 0x08, 0x15, 0x08, 0x2a, 0xb4, 0x02, 0xe6, 0xa2, 0x00, 0x17, 0x2a, 0xb4, 0x01, 0x6a]
def cX13_normalise_r4 : List UInt8 := cX13_normalise_w4 ++ cX13_normalise_r5
def cX13_normalise_w3 : List UInt8 := [0x15, 0x07, 0x02, 0x9f, 0x00, 0x43, 0x2a, 0xb4, 0x02, 0xe6, 0x9e, 0x00, 0x3c, 0x2a, 0x1b, 0x15, 0x06, 0xb6, 0x02, 0xf2, 0x99, 0x00, 0x32, 0x15, 0x07]
def cX13_normalise_r3 : List UInt8 := cX13_normalise_w3 ++ cX13_normalise_r4
def cX13_normalise_w2 : List UInt8 := [0x15, 0x05, 0x9a, 0x00, 0x62, 0x2a, 0xb4, 0x01, 0x55, 0x07, 0x10, 0x78, 0x1b, 0x68, 0x15, 0x04, 0x60, 0x68, 0x15, 0x06, 0x60, 0x2e, 0x36, 0x07]
def cX13_normalise_r2 : List UInt8 := cX13_normalise_w2 ++ cX13_normalise_r3
def cX13_normalise_w1 : List UInt8 := [0x03, 0x36, 0x04, 0x04, 0x36, 0x05, 0x15, 0x05, 0x99, 0x00, 0x78, 0x03, 0x36, 0x05, 0x03, 0x36, 0x06, 0x15, 0x06, 0x1b, 0x04, 0x64, 0xa2, 0x00, 0x67]
def cX13_normalise_r1 : List UInt8 := cX13_normalise_w1 ++ cX13_normalise_r2
def cX13_normalise_w0 : List UInt8 := [0x2a, 0x1c, 0xb5, 0x02, 0xec, 0x2a, 0x03, 0xb5, 0x02, 0xef, 0x2a, 0xb4, 0x01, 0x49, 0x1b, 0x2e, 0x04, 0x64, 0x3e, 0x2a, 0xb4, 0x02, 0xe6, 0x9e, 0x00, 0xae]
def cX13_normalise_r0 : List UInt8 := cX13_normalise_w0 ++ cX13_normalise_r1
theorem cX13_normalise_s0 : dw_S cX13_normalise 0 cX13_normalise_r0 := dw_S0 (by decide +kernel)
theorem cX13_normalise_s1 : dw_S cX13_normalise 26 cX13_normalise_r1 := dw_Sn (w := cX13_normalise_w0) (r := cX13_normalise_r1) cX13_normalise_s0 (by decide +kernel)
theorem cX13_normalise_k0 : dw_ok cX13_normalise (ByteArray.mk cX13_normalise_w0.toArray) 0 := dw_Sw (r := cX13_normalise_r1) cX13_normalise_s0
theorem cX13_normalise_s2 : dw_S cX13_normalise 51 cX13_normalise_r2 := dw_Sn (w := cX13_normalise_w1) (r := cX13_normalise_r2) cX13_normalise_s1 (by decide +kernel)
theorem cX13_normalise_k1 : dw_ok cX13_normalise (ByteArray.mk cX13_normalise_w1.toArray) 26 := dw_Sw (r := cX13_normalise_r2) cX13_normalise_s1
theorem cX13_normalise_s3 : dw_S cX13_normalise 75 cX13_normalise_r3 := dw_Sn (w := cX13_normalise_w2) (r := cX13_normalise_r3) cX13_normalise_s2 (by decide +kernel)
theorem cX13_normalise_k2 : dw_ok cX13_normalise (ByteArray.mk cX13_normalise_w2.toArray) 51 := dw_Sw (r := cX13_normalise_r3) cX13_normalise_s2
theorem cX13_normalise_s4 : dw_S cX13_normalise 100 cX13_normalise_r4 := dw_Sn (w := cX13_normalise_w3) (r := cX13_normalise_r4) cX13_normalise_s3 (by decide +kernel)
theorem cX13_normalise_k3 : dw_ok cX13_normalise (ByteArray.mk cX13_normalise_w3.toArray) 75 := dw_Sw (r := cX13_normalise_r4) cX13_normalise_s3
theorem cX13_normalise_s5 : dw_S cX13_normalise 126 cX13_normalise_r5 := dw_Sn (w := cX13_normalise_w4) (r := cX13_normalise_r5) cX13_normalise_s4 (by decide +kernel)
theorem cX13_normalise_k4 : dw_ok cX13_normalise (ByteArray.mk cX13_normalise_w4.toArray) 100 := dw_Sw (r := cX13_normalise_r5) cX13_normalise_s4
theorem cX13_normalise_s6 : dw_S cX13_normalise 151 cX13_normalise_r6 := dw_Sn (w := cX13_normalise_w5) (r := cX13_normalise_r6) cX13_normalise_s5 (by decide +kernel)
theorem cX13_normalise_k5 : dw_ok cX13_normalise (ByteArray.mk cX13_normalise_w5.toArray) 126 := dw_Sw (r := cX13_normalise_r6) cX13_normalise_s5
theorem cX13_normalise_s7 : dw_S cX13_normalise 177 cX13_normalise_r7 := dw_Sn (w := cX13_normalise_w6) (r := cX13_normalise_r7) cX13_normalise_s6 (by decide +kernel)
theorem cX13_normalise_k6 : dw_ok cX13_normalise (ByteArray.mk cX13_normalise_w6.toArray) 151 := dw_Sw (r := cX13_normalise_r7) cX13_normalise_s6
theorem cX13_normalise_k7 : dw_ok cX13_normalise (ByteArray.mk cX13_normalise_w7.toArray) 177 := dw_Sw (r := []) cX13_normalise_s7
def cX13_offer_w3 : List UInt8 := [0xa7, 0x00, 0x16, 0x2a, 0x2a, 0x2a, 0xb4, 0x00, 0x92, 0x2a, 0xb4, 0x01, 0xe2, 0x11, 0x01, 0x36, 0xb6, 0x01, 0xde, 0xb5, 0x01, 0xe2, 0xb1]
def cX13_offer_r3 : List UInt8 := cX13_offer_w3 ++ []
def cX13_offer_w2 : List UInt8 := [0x80, 0xb5, 0x01, 0xd7, 0xa7, 0x00, 0x2c, 0x2a, 0x2a, 0x2a, 0xb4, 0x00, 0x8f, 0x2a, 0xb4, 0x01, 0xdb, 0x11, 0x03, 0xe8, 0xb6, 0x01, 0xde, 0xb5, 0x01, 0xdb]
def cX13_offer_r2 : List UInt8 := cX13_offer_w2 ++ cX13_offer_r3
def cX13_offer_w1 : List UInt8 := [0x2a, 0xb6, 0x01, 0xd4, 0xa7, 0x00, 0x45, 0x2a, 0x59, 0xb4, 0x01, 0xd7, 0x2a, 0xb4, 0x00, 0x95, 0x03, 0x2a, 0xb4, 0x00, 0x98, 0x03, 0xb8, 0x01, 0xbd]
def cX13_offer_r1 : List UInt8 := cX13_offer_w1 ++ cX13_offer_r2
def cX13_offer_w0 : List UInt8 := [0x2a, 0x2a, 0xb4, 0x00, 0x79, 0x2a, 0xb4, 0x00, 0x95, 0x03, 0xb6, 0x01, 0x8c, 0x2a, 0xb4, 0x01, 0xd1, 0xaa, 0x00, 0x00, 0x00, 0x00, 0x00, 0x51, 0x00, 0x00, 0x00, 0x00, 0x00, 0x00, 0x00, 0x02, 0x00, 0x00, 0x00, 0x1b, 0x00, 0x00, 0x00, 0x22, 0x00, 0x00, 0x00, 0x3b]
def cX13_offer_r0 : List UInt8 := cX13_offer_w0 ++ cX13_offer_r1
theorem cX13_offer_s0 : dw_S cX13_offer 0 cX13_offer_r0 := dw_S0 (by decide +kernel)
theorem cX13_offer_s1 : dw_S cX13_offer 44 cX13_offer_r1 := dw_Sn (w := cX13_offer_w0) (r := cX13_offer_r1) cX13_offer_s0 (by decide +kernel)
theorem cX13_offer_k0 : dw_ok cX13_offer (ByteArray.mk cX13_offer_w0.toArray) 0 := dw_Sw (r := cX13_offer_r1) cX13_offer_s0
theorem cX13_offer_s2 : dw_S cX13_offer 69 cX13_offer_r2 := dw_Sn (w := cX13_offer_w1) (r := cX13_offer_r2) cX13_offer_s1 (by decide +kernel)
theorem cX13_offer_k1 : dw_ok cX13_offer (ByteArray.mk cX13_offer_w1.toArray) 44 := dw_Sw (r := cX13_offer_r2) cX13_offer_s1
theorem cX13_offer_s3 : dw_S cX13_offer 95 cX13_offer_r3 := dw_Sn (w := cX13_offer_w2) (r := cX13_offer_r3) cX13_offer_s2 (by decide +kernel)
theorem cX13_offer_k2 : dw_ok cX13_offer (ByteArray.mk cX13_offer_w2.toArray) 69 := dw_Sw (r := cX13_offer_r3) cX13_offer_s2
theorem cX13_offer_k3 : dw_ok cX13_offer (ByteArray.mk cX13_offer_w3.toArray) 95 := dw_Sw (r := []) cX13_offer_s3
def cX13_offerList_w6 : List UInt8 := [0x2a, 0xb4, 0x01, 0xe5, 0x68, 0x1d, 0x60, 0x2a, 0xb4, 0x00, 0x95, 0x1d, 0x2e, 0x4f, 0x84, 0x03, 0x01, 0xa7, 0xff, 0xdf, 0x2a, 0x59, 0xb4, 0x01, 0xe5, 0x04, 0x60, 0xb5, 0x01, 0xe5, 0xb1]
def cX13_offerList_r6 : List UInt8 := cX13_offerList_w6 ++ []
def cX13_offerList_w5 : List UInt8 := [0x1b, 0x2a, 0xb4, 0x01, 0xe5, 0x4f, 0x03, 0x3e, 0x1d, 0x2a, 0xb4, 0x00, 0x95, 0x03, 0x2e, 0xa3, 0x00, 0x1d, 0x2a, 0xb4, 0x00, 0x89, 0x10, 0x20]
def cX13_offerList_r5 : List UInt8 := cX13_offerList_w5 ++ cX13_offerList_r6
def cX13_offerList_w4 : List UInt8 := [0x2a, 0xb4, 0x00, 0x8c, 0x1d, 0x2a, 0xb4, 0x00, 0x8c, 0x1d, 0x04, 0x64, 0x2e, 0x4f, 0x84, 0x03, 0xff, 0xa7, 0xff, 0xea, 0x2a, 0xb4, 0x00, 0x8c]
def cX13_offerList_r4 : List UInt8 := cX13_offerList_w4 ++ cX13_offerList_r5
def cX13_offerList_w3 : List UInt8 := [0x2a, 0xb4, 0x00, 0x8c, 0x1b, 0x2e, 0x68, 0xb8, 0x01, 0xbd, 0x99, 0x00, 0x04, 0xb1, 0x2a, 0xb4, 0x01, 0xe5, 0x3e, 0x1d, 0x1b, 0xa4, 0x00, 0x17]
def cX13_offerList_r3 : List UInt8 := cX13_offerList_w3 ++ cX13_offerList_r4
def cX13_offerList_w2 : List UInt8 := [0x1d, 0x3d, 0xa7, 0xff, 0xd4, 0x1b, 0x2a, 0xb4, 0x01, 0xe5, 0xa2, 0x00, 0x1c, 0x2a, 0xb4, 0x00, 0x95, 0x03, 0x2a, 0xb4, 0x00, 0x89, 0x10, 0x20]
def cX13_offerList_r2 : List UInt8 := cX13_offerList_w2 ++ cX13_offerList_r3
def cX13_offerList_w1 : List UInt8 := [0x2a, 0xb4, 0x00, 0x8c, 0x1d, 0x2e, 0x68, 0x2a, 0xb4, 0x00, 0x95, 0x03, 0xb8, 0x01, 0xe8, 0x99, 0x00, 0x0a, 0x1d, 0x04, 0x60, 0x3c, 0xa7, 0x00, 0x05]
def cX13_offerList_r1 : List UInt8 := cX13_offerList_w1 ++ cX13_offerList_r2
def cX13_offerList_w0 : List UInt8 := [0x03, 0x3c, 0x2a, 0xb4, 0x01, 0xe5, 0x3d, 0x1b, 0x1c, 0xa2, 0x00, 0x2d, 0x1b, 0x1c, 0x60, 0x05, 0x6c, 0x3e, 0x2a, 0xb4, 0x00, 0x89, 0x10, 0x20]
def cX13_offerList_r0 : List UInt8 := cX13_offerList_w0 ++ cX13_offerList_r1
theorem cX13_offerList_s0 : dw_S cX13_offerList 0 cX13_offerList_r0 := dw_S0 (by decide +kernel)
theorem cX13_offerList_s1 : dw_S cX13_offerList 24 cX13_offerList_r1 := dw_Sn (w := cX13_offerList_w0) (r := cX13_offerList_r1) cX13_offerList_s0 (by decide +kernel)
theorem cX13_offerList_k0 : dw_ok cX13_offerList (ByteArray.mk cX13_offerList_w0.toArray) 0 := dw_Sw (r := cX13_offerList_r1) cX13_offerList_s0
theorem cX13_offerList_s2 : dw_S cX13_offerList 49 cX13_offerList_r2 := dw_Sn (w := cX13_offerList_w1) (r := cX13_offerList_r2) cX13_offerList_s1 (by decide +kernel)
theorem cX13_offerList_k1 : dw_ok cX13_offerList (ByteArray.mk cX13_offerList_w1.toArray) 24 := dw_Sw (r := cX13_offerList_r2) cX13_offerList_s1
theorem cX13_offerList_s3 : dw_S cX13_offerList 73 cX13_offerList_r3 := dw_Sn (w := cX13_offerList_w2) (r := cX13_offerList_r3) cX13_offerList_s2 (by decide +kernel)
theorem cX13_offerList_k2 : dw_ok cX13_offerList (ByteArray.mk cX13_offerList_w2.toArray) 49 := dw_Sw (r := cX13_offerList_r3) cX13_offerList_s2
theorem cX13_offerList_s4 : dw_S cX13_offerList 97 cX13_offerList_r4 := dw_Sn (w := cX13_offerList_w3) (r := cX13_offerList_r4) cX13_offerList_s3 (by decide +kernel)
theorem cX13_offerList_k3 : dw_ok cX13_offerList (ByteArray.mk cX13_offerList_w3.toArray) 73 := dw_Sw (r := cX13_offerList_r4) cX13_offerList_s3
theorem cX13_offerList_s5 : dw_S cX13_offerList 121 cX13_offerList_r5 := dw_Sn (w := cX13_offerList_w4) (r := cX13_offerList_r5) cX13_offerList_s4 (by decide +kernel)
theorem cX13_offerList_k4 : dw_ok cX13_offerList (ByteArray.mk cX13_offerList_w4.toArray) 97 := dw_Sw (r := cX13_offerList_r5) cX13_offerList_s4
theorem cX13_offerList_s6 : dw_S cX13_offerList 145 cX13_offerList_r6 := dw_Sn (w := cX13_offerList_w5) (r := cX13_offerList_r6) cX13_offerList_s5 (by decide +kernel)
theorem cX13_offerList_k5 : dw_ok cX13_offerList (ByteArray.mk cX13_offerList_w5.toArray) 121 := dw_Sw (r := cX13_offerList_r6) cX13_offerList_s5
theorem cX13_offerList_k6 : dw_ok cX13_offerList (ByteArray.mk cX13_offerList_w6.toArray) 145 := dw_Sw (r := []) cX13_offerList_s6
def cX13_offerRow_w2 : List UInt8 := [0x03, 0x2e, 0xa3, 0x00, 0x19, 0x2b, 0x10, 0x20, 0x1c, 0x68, 0x15, 0x04, 0x60, 0x2a, 0xb4, 0x00, 0x95, 0x15, 0x04, 0x2e, 0x4f, 0x84, 0x04, 0x01, 0xa7, 0xff, 0xe2, 0x1c, 0x04, 0x60, 0xac]
def cX13_offerRow_r2 : List UInt8 := cX13_offerRow_w2 ++ []
def cX13_offerRow_w1 : List UInt8 := [0x1c, 0xac, 0x84, 0x04, 0x01, 0xa7, 0xff, 0xe4, 0x1c, 0x1d, 0xa0, 0x00, 0x05, 0x1c, 0xac, 0x03, 0x36, 0x04, 0x15, 0x04, 0x2a, 0xb4, 0x00, 0x95]
def cX13_offerRow_r1 : List UInt8 := cX13_offerRow_w1 ++ cX13_offerRow_r2
def cX13_offerRow_w0 : List UInt8 := [0x03, 0x36, 0x04, 0x15, 0x04, 0x1c, 0xa2, 0x00, 0x1c, 0x2a, 0xb4, 0x00, 0x95, 0x03, 0x2b, 0x10, 0x20, 0x15, 0x04, 0x68, 0xb8, 0x01, 0xbd, 0x99, 0x00, 0x05]
def cX13_offerRow_r0 : List UInt8 := cX13_offerRow_w0 ++ cX13_offerRow_r1
theorem cX13_offerRow_s0 : dw_S cX13_offerRow 0 cX13_offerRow_r0 := dw_S0 (by decide +kernel)
theorem cX13_offerRow_s1 : dw_S cX13_offerRow 26 cX13_offerRow_r1 := dw_Sn (w := cX13_offerRow_w0) (r := cX13_offerRow_r1) cX13_offerRow_s0 (by decide +kernel)
theorem cX13_offerRow_k0 : dw_ok cX13_offerRow (ByteArray.mk cX13_offerRow_w0.toArray) 0 := dw_Sw (r := cX13_offerRow_r1) cX13_offerRow_s0
theorem cX13_offerRow_s2 : dw_S cX13_offerRow 50 cX13_offerRow_r2 := dw_Sn (w := cX13_offerRow_w1) (r := cX13_offerRow_r2) cX13_offerRow_s1 (by decide +kernel)
theorem cX13_offerRow_k1 : dw_ok cX13_offerRow (ByteArray.mk cX13_offerRow_w1.toArray) 26 := dw_Sw (r := cX13_offerRow_r2) cX13_offerRow_s1
theorem cX13_offerRow_k2 : dw_ok cX13_offerRow (ByteArray.mk cX13_offerRow_w2.toArray) 50 := dw_Sw (r := []) cX13_offerRow_s2
def cX13_oneComes_w3 : List UInt8 := [0x1c, 0x15, 0x04, 0x05, 0xa2, 0x00, 0x07, 0x04, 0xa7, 0x00, 0x04, 0x02, 0x4f, 0x2a, 0xb6, 0x01, 0xeb, 0x84, 0x04, 0x01, 0xa7, 0xff, 0xba, 0x84, 0x03, 0x01, 0xa7, 0xff, 0xa4, 0xb1]
def cX13_oneComes_r3 : List UInt8 := cX13_oneComes_w3 ++ []
def cX13_oneComes_w2 : List UInt8 := [0x2a, 0x04, 0x1c, 0x04, 0x15, 0x04, 0x04, 0x7e, 0x64, 0xb6, 0x01, 0xf6, 0x2a, 0x2b, 0x1d, 0x02, 0xb6, 0x01, 0xf9, 0x2a, 0xb4, 0x00, 0x79, 0xb4, 0x00, 0x23]
def cX13_oneComes_r2 : List UInt8 := cX13_oneComes_w2 ++ cX13_oneComes_r3
def cX13_oneComes_w1 : List UInt8 := [0x15, 0x04, 0x07, 0xa2, 0x00, 0x46, 0x2b, 0x1d, 0xb8, 0x01, 0xf2, 0x99, 0x00, 0x3e, 0x2a, 0x03, 0x1c, 0x15, 0x04, 0x04, 0x7e, 0xb6, 0x01, 0xf6]
def cX13_oneComes_r1 : List UInt8 := cX13_oneComes_w1 ++ cX13_oneComes_r2
def cX13_oneComes_w0 : List UInt8 := [0x2b, 0xb4, 0x00, 0x2c, 0x05, 0x6c, 0x3d, 0x03, 0x3e, 0x1d, 0x2b, 0xb4, 0x00, 0x2c, 0x2b, 0xb4, 0x01, 0x97, 0x60, 0xa2, 0x00, 0x55, 0x03, 0x36, 0x04]
def cX13_oneComes_r0 : List UInt8 := cX13_oneComes_w0 ++ cX13_oneComes_r1
theorem cX13_oneComes_s0 : dw_S cX13_oneComes 0 cX13_oneComes_r0 := dw_S0 (by decide +kernel)
theorem cX13_oneComes_s1 : dw_S cX13_oneComes 25 cX13_oneComes_r1 := dw_Sn (w := cX13_oneComes_w0) (r := cX13_oneComes_r1) cX13_oneComes_s0 (by decide +kernel)
theorem cX13_oneComes_k0 : dw_ok cX13_oneComes (ByteArray.mk cX13_oneComes_w0.toArray) 0 := dw_Sw (r := cX13_oneComes_r1) cX13_oneComes_s0
theorem cX13_oneComes_s2 : dw_S cX13_oneComes 49 cX13_oneComes_r2 := dw_Sn (w := cX13_oneComes_w1) (r := cX13_oneComes_r2) cX13_oneComes_s1 (by decide +kernel)
theorem cX13_oneComes_k1 : dw_ok cX13_oneComes (ByteArray.mk cX13_oneComes_w1.toArray) 25 := dw_Sw (r := cX13_oneComes_r2) cX13_oneComes_s1
theorem cX13_oneComes_s3 : dw_S cX13_oneComes 75 cX13_oneComes_r3 := dw_Sn (w := cX13_oneComes_w2) (r := cX13_oneComes_r3) cX13_oneComes_s2 (by decide +kernel)
theorem cX13_oneComes_k2 : dw_ok cX13_oneComes (ByteArray.mk cX13_oneComes_w2.toArray) 49 := dw_Sw (r := cX13_oneComes_r3) cX13_oneComes_s2
theorem cX13_oneComes_k3 : dw_ok cX13_oneComes (ByteArray.mk cX13_oneComes_w3.toArray) 75 := dw_Sw (r := []) cX13_oneComes_s3
def cX13_pack_w12 : List UInt8 := [0x1d, 0x15, 0x06, 0x60, 0x03, 0x4f, 0x84, 0x08, 0x01, 0xa7, 0xff, 0xec, 0x2c, 0x1d, 0x15, 0x06, 0x4f, 0xb1]
def cX13_pack_r12 : List UInt8 := cX13_pack_w12 ++ []
def cX13_pack_w11 : List UInt8 := [0x6c, 0x60, 0x36, 0x07, 0x84, 0x08, 0x01, 0xa7, 0xff, 0x3f, 0x03, 0x36, 0x08, 0x15, 0x08, 0x15, 0x05, 0xa2, 0x00, 0x13, 0x84, 0x06, 0x01, 0x2c]
def cX13_pack_r11 : List UInt8 := cX13_pack_w11 ++ cX13_pack_r12
def cX13_pack_w10 : List UInt8 := [0x15, 0x0b, 0x07, 0x15, 0x07, 0x68, 0x60, 0x4f, 0x84, 0x0a, 0x01, 0xa7, 0xff, 0xc6, 0x15, 0x07, 0x2a, 0xb4, 0x00, 0x55, 0x15, 0x09, 0x2e, 0x05]
def cX13_pack_r10 : List UInt8 := cX13_pack_w10 ++ cX13_pack_r11
def cX13_pack_w9 : List UInt8 := [0x15, 0x09, 0x68, 0x15, 0x0a, 0x60, 0x2e, 0x36, 0x0b, 0x84, 0x06, 0x01, 0x2c, 0x1d, 0x15, 0x06, 0x60, 0x15, 0x0b, 0x9a, 0x00, 0x07, 0x03, 0xa7, 0x00, 0x0a]
def cX13_pack_r9 : List UInt8 := cX13_pack_w9 ++ cX13_pack_r10
def cX13_pack_w8 : List UInt8 := [0x04, 0x36, 0x0a, 0x15, 0x0a, 0x2a, 0xb4, 0x00, 0x36, 0x10, 0x20, 0x15, 0x09, 0x68, 0x2e, 0xa3, 0x00, 0x31, 0x2a, 0xb4, 0x00, 0x36, 0x10, 0x20]
def cX13_pack_r8 : List UInt8 := cX13_pack_w8 ++ cX13_pack_r9
def cX13_pack_w7 : List UInt8 := [0xb8, 0x00, 0x39, 0x99, 0x00, 0x07, 0x15, 0x0a, 0x36, 0x09, 0x84, 0x0a, 0x01, 0xa7, 0xff, 0xa8, 0x2a, 0xb4, 0x00, 0x58, 0x15, 0x09, 0x04, 0x54]
def cX13_pack_r7 : List UInt8 := cX13_pack_w7 ++ cX13_pack_r8
def cX13_pack_w6 : List UInt8 := [0x15, 0x09, 0x2e, 0xa0, 0x00, 0x1f, 0x2a, 0xb4, 0x00, 0x36, 0x10, 0x20, 0x15, 0x0a, 0x68, 0x2a, 0xb4, 0x00, 0x36, 0x10, 0x20, 0x15, 0x09, 0x68]
def cX13_pack_r6 : List UInt8 := cX13_pack_w6 ++ cX13_pack_r7
def cX13_pack_w5 : List UInt8 := [0x15, 0x0a, 0x2e, 0x2a, 0xb4, 0x00, 0x55, 0x15, 0x09, 0x2e, 0xa1, 0x00, 0x2c, 0x2a, 0xb4, 0x00, 0x55, 0x15, 0x0a, 0x2e, 0x2a, 0xb4, 0x00, 0x55]
def cX13_pack_r5 : List UInt8 := cX13_pack_w5 ++ cX13_pack_r6
def cX13_pack_w4 : List UInt8 := [0x15, 0x04, 0xa2, 0x00, 0x57, 0x2a, 0xb4, 0x00, 0x58, 0x15, 0x0a, 0x33, 0x9a, 0x00, 0x47, 0x15, 0x09, 0x02, 0x9f, 0x00, 0x3d, 0x2a, 0xb4, 0x00, 0x55]
def cX13_pack_r4 : List UInt8 := cX13_pack_w4 ++ cX13_pack_r5
def cX13_pack_w3 : List UInt8 := [0x03, 0x36, 0x06, 0x03, 0x36, 0x07, 0x03, 0x36, 0x08, 0x15, 0x08, 0x15, 0x04, 0xa2, 0x00, 0xc0, 0x02, 0x36, 0x09, 0x03, 0x36, 0x0a, 0x15, 0x0a]
def cX13_pack_r3 : List UInt8 := cX13_pack_w3 ++ cX13_pack_r4
def cX13_pack_w2 : List UInt8 := [0x2a, 0xb4, 0x00, 0x55, 0x15, 0x04, 0x15, 0x07, 0x4f, 0x2a, 0xb4, 0x00, 0x58, 0x15, 0x04, 0x03, 0x54, 0x84, 0x04, 0x01, 0x84, 0x06, 0x01, 0xa7, 0xff, 0xc7]
def cX13_pack_r2 : List UInt8 := cX13_pack_w2 ++ cX13_pack_r3
def cX13_pack_w1 : List UInt8 := [0x2a, 0x2b, 0x15, 0x06, 0x10, 0x20, 0x15, 0x04, 0x68, 0xb6, 0x00, 0x51, 0x36, 0x07, 0x15, 0x07, 0x9a, 0x00, 0x09, 0x84, 0x05, 0x01, 0xa7, 0x00, 0x17]
def cX13_pack_r1 : List UInt8 := cX13_pack_w1 ++ cX13_pack_r2
def cX13_pack_w0 : List UInt8 := [0x2b, 0xb6, 0x00, 0x47, 0x2b, 0xb6, 0x00, 0x4b, 0x03, 0x36, 0x04, 0x03, 0x36, 0x05, 0x03, 0x36, 0x06, 0x15, 0x06, 0x2b, 0xb4, 0x00, 0x4e, 0xa2, 0x00, 0x36]
def cX13_pack_r0 : List UInt8 := cX13_pack_w0 ++ cX13_pack_r1
theorem cX13_pack_s0 : dw_S cX13_pack 0 cX13_pack_r0 := dw_S0 (by decide +kernel)
theorem cX13_pack_s1 : dw_S cX13_pack 26 cX13_pack_r1 := dw_Sn (w := cX13_pack_w0) (r := cX13_pack_r1) cX13_pack_s0 (by decide +kernel)
theorem cX13_pack_k0 : dw_ok cX13_pack (ByteArray.mk cX13_pack_w0.toArray) 0 := dw_Sw (r := cX13_pack_r1) cX13_pack_s0
theorem cX13_pack_s2 : dw_S cX13_pack 51 cX13_pack_r2 := dw_Sn (w := cX13_pack_w1) (r := cX13_pack_r2) cX13_pack_s1 (by decide +kernel)
theorem cX13_pack_k1 : dw_ok cX13_pack (ByteArray.mk cX13_pack_w1.toArray) 26 := dw_Sw (r := cX13_pack_r2) cX13_pack_s1
theorem cX13_pack_s3 : dw_S cX13_pack 77 cX13_pack_r3 := dw_Sn (w := cX13_pack_w2) (r := cX13_pack_r3) cX13_pack_s2 (by decide +kernel)
theorem cX13_pack_k2 : dw_ok cX13_pack (ByteArray.mk cX13_pack_w2.toArray) 51 := dw_Sw (r := cX13_pack_r3) cX13_pack_s2
theorem cX13_pack_s4 : dw_S cX13_pack 101 cX13_pack_r4 := dw_Sn (w := cX13_pack_w3) (r := cX13_pack_r4) cX13_pack_s3 (by decide +kernel)
theorem cX13_pack_k3 : dw_ok cX13_pack (ByteArray.mk cX13_pack_w3.toArray) 77 := dw_Sw (r := cX13_pack_r4) cX13_pack_s3
theorem cX13_pack_s5 : dw_S cX13_pack 126 cX13_pack_r5 := dw_Sn (w := cX13_pack_w4) (r := cX13_pack_r5) cX13_pack_s4 (by decide +kernel)
theorem cX13_pack_k4 : dw_ok cX13_pack (ByteArray.mk cX13_pack_w4.toArray) 101 := dw_Sw (r := cX13_pack_r5) cX13_pack_s4
theorem cX13_pack_s6 : dw_S cX13_pack 150 cX13_pack_r6 := dw_Sn (w := cX13_pack_w5) (r := cX13_pack_r6) cX13_pack_s5 (by decide +kernel)
theorem cX13_pack_k5 : dw_ok cX13_pack (ByteArray.mk cX13_pack_w5.toArray) 126 := dw_Sw (r := cX13_pack_r6) cX13_pack_s5
theorem cX13_pack_s7 : dw_S cX13_pack 174 cX13_pack_r7 := dw_Sn (w := cX13_pack_w6) (r := cX13_pack_r7) cX13_pack_s6 (by decide +kernel)
theorem cX13_pack_k6 : dw_ok cX13_pack (ByteArray.mk cX13_pack_w6.toArray) 150 := dw_Sw (r := cX13_pack_r7) cX13_pack_s6
theorem cX13_pack_s8 : dw_S cX13_pack 198 cX13_pack_r8 := dw_Sn (w := cX13_pack_w7) (r := cX13_pack_r8) cX13_pack_s7 (by decide +kernel)
theorem cX13_pack_k7 : dw_ok cX13_pack (ByteArray.mk cX13_pack_w7.toArray) 174 := dw_Sw (r := cX13_pack_r8) cX13_pack_s7
theorem cX13_pack_s9 : dw_S cX13_pack 222 cX13_pack_r9 := dw_Sn (w := cX13_pack_w8) (r := cX13_pack_r9) cX13_pack_s8 (by decide +kernel)
theorem cX13_pack_k8 : dw_ok cX13_pack (ByteArray.mk cX13_pack_w8.toArray) 198 := dw_Sw (r := cX13_pack_r9) cX13_pack_s8
theorem cX13_pack_s10 : dw_S cX13_pack 248 cX13_pack_r10 := dw_Sn (w := cX13_pack_w9) (r := cX13_pack_r10) cX13_pack_s9 (by decide +kernel)
theorem cX13_pack_k9 : dw_ok cX13_pack (ByteArray.mk cX13_pack_w9.toArray) 222 := dw_Sw (r := cX13_pack_r10) cX13_pack_s9
theorem cX13_pack_s11 : dw_S cX13_pack 272 cX13_pack_r11 := dw_Sn (w := cX13_pack_w10) (r := cX13_pack_r11) cX13_pack_s10 (by decide +kernel)
theorem cX13_pack_k10 : dw_ok cX13_pack (ByteArray.mk cX13_pack_w10.toArray) 248 := dw_Sw (r := cX13_pack_r11) cX13_pack_s10
theorem cX13_pack_s12 : dw_S cX13_pack 296 cX13_pack_r12 := dw_Sn (w := cX13_pack_w11) (r := cX13_pack_r12) cX13_pack_s11 (by decide +kernel)
theorem cX13_pack_k11 : dw_ok cX13_pack (ByteArray.mk cX13_pack_w11.toArray) 272 := dw_Sw (r := cX13_pack_r12) cX13_pack_s11
theorem cX13_pack_k12 : dw_ok cX13_pack (ByteArray.mk cX13_pack_w12.toArray) 296 := dw_Sw (r := []) cX13_pack_s12
def cX13_placeAll_w4 : List UInt8 := [0xb4, 0x01, 0x2a, 0x15, 0x04, 0x2e, 0x4f, 0x2a, 0xb4, 0x01, 0x2a, 0x15, 0x04, 0x5c, 0x2e, 0x04, 0x60, 0x4f, 0x84, 0x03, 0x01, 0xa7, 0xff, 0xbc, 0x84, 0x02, 0x01, 0xa7, 0xff, 0xad, 0xb1]
def cX13_placeAll_r4 : List UInt8 := cX13_placeAll_w4 ++ []
def cX13_placeAll_w3 : List UInt8 := [0x2a, 0xb4, 0x02, 0xb2, 0x64, 0xb6, 0x02, 0xb5, 0x60, 0x36, 0x04, 0x2a, 0xb4, 0x01, 0x27, 0x2a, 0xb4, 0x01, 0x24, 0x1c, 0x2e, 0x1d, 0x60, 0x2a]
def cX13_placeAll_r3 : List UInt8 := cX13_placeAll_w3 ++ cX13_placeAll_r4
def cX13_placeAll_w2 : List UInt8 := [0x3e, 0x1d, 0x04, 0x2a, 0xb4, 0x01, 0x21, 0x1c, 0x2e, 0x78, 0xa2, 0x00, 0x3e, 0x10, 0x50, 0x1c, 0xb8, 0x02, 0x4e, 0x68, 0x2a, 0x1c, 0x1d, 0x1b]
def cX13_placeAll_r2 : List UInt8 := cX13_placeAll_w2 ++ cX13_placeAll_r3
def cX13_placeAll_w1 : List UInt8 := [0x4f, 0x2a, 0xb4, 0x01, 0x30, 0x1c, 0x03, 0x4f, 0x84, 0x02, 0x01, 0xa7, 0xff, 0xdf, 0x03, 0x3d, 0x1c, 0x04, 0x1b, 0x78, 0xa2, 0x00, 0x52, 0x03]
def cX13_placeAll_r1 : List UInt8 := cX13_placeAll_w1 ++ cX13_placeAll_r2
def cX13_placeAll_w0 : List UInt8 := [0x03, 0x3d, 0x1c, 0x2a, 0xb4, 0x01, 0x2a, 0xbe, 0xa2, 0x00, 0x1e, 0x2a, 0xb4, 0x01, 0x2a, 0x1c, 0x03, 0x4f, 0x2a, 0xb4, 0x01, 0x2d, 0x1c, 0x03]
def cX13_placeAll_r0 : List UInt8 := cX13_placeAll_w0 ++ cX13_placeAll_r1
theorem cX13_placeAll_s0 : dw_S cX13_placeAll 0 cX13_placeAll_r0 := dw_S0 (by decide +kernel)
theorem cX13_placeAll_s1 : dw_S cX13_placeAll 24 cX13_placeAll_r1 := dw_Sn (w := cX13_placeAll_w0) (r := cX13_placeAll_r1) cX13_placeAll_s0 (by decide +kernel)
theorem cX13_placeAll_k0 : dw_ok cX13_placeAll (ByteArray.mk cX13_placeAll_w0.toArray) 0 := dw_Sw (r := cX13_placeAll_r1) cX13_placeAll_s0
theorem cX13_placeAll_s2 : dw_S cX13_placeAll 48 cX13_placeAll_r2 := dw_Sn (w := cX13_placeAll_w1) (r := cX13_placeAll_r2) cX13_placeAll_s1 (by decide +kernel)
theorem cX13_placeAll_k1 : dw_ok cX13_placeAll (ByteArray.mk cX13_placeAll_w1.toArray) 24 := dw_Sw (r := cX13_placeAll_r2) cX13_placeAll_s1
theorem cX13_placeAll_s3 : dw_S cX13_placeAll 72 cX13_placeAll_r3 := dw_Sn (w := cX13_placeAll_w2) (r := cX13_placeAll_r3) cX13_placeAll_s2 (by decide +kernel)
theorem cX13_placeAll_k2 : dw_ok cX13_placeAll (ByteArray.mk cX13_placeAll_w2.toArray) 48 := dw_Sw (r := cX13_placeAll_r3) cX13_placeAll_s2
theorem cX13_placeAll_s4 : dw_S cX13_placeAll 96 cX13_placeAll_r4 := dw_Sn (w := cX13_placeAll_w3) (r := cX13_placeAll_r4) cX13_placeAll_s3 (by decide +kernel)
theorem cX13_placeAll_k3 : dw_ok cX13_placeAll (ByteArray.mk cX13_placeAll_w3.toArray) 72 := dw_Sw (r := cX13_placeAll_r4) cX13_placeAll_s3
theorem cX13_placeAll_k4 : dw_ok cX13_placeAll (ByteArray.mk cX13_placeAll_w4.toArray) 96 := dw_Sw (r := []) cX13_placeAll_s4
def cX13_product_w7 : List UInt8 := [0x1d, 0x2a, 0xb4, 0x01, 0x43, 0x1b, 0x2e, 0x2a, 0xb4, 0x01, 0x43, 0x1c, 0x2e, 0x60, 0x4f, 0x2a, 0xb4, 0x01, 0x46, 0x1d, 0x2a, 0xb4, 0x01, 0x46, 0x1b, 0x2e, 0x4f, 0x1d, 0xac]
def cX13_product_r7 : List UInt8 := cX13_product_w7 ++ []
def cX13_product_w6 : List UInt8 := [0x10, 0x10, 0x1c, 0x68, 0x15, 0x04, 0x60, 0x2a, 0xb4, 0x01, 0x43, 0x1b, 0x2e, 0x64, 0x2e, 0x4f, 0x84, 0x04, 0x01, 0xa7, 0xff, 0xb2, 0x2a, 0xb4, 0x01, 0x43]
def cX13_product_r6 : List UInt8 := cX13_product_w6 ++ cX13_product_r7
def cX13_product_w5 : List UInt8 := [0x1b, 0x2e, 0xa2, 0x00, 0x12, 0x2a, 0xb4, 0x01, 0x40, 0x10, 0x10, 0x1b, 0x68, 0x15, 0x04, 0x60, 0x2e, 0xa7, 0x00, 0x16, 0x2a, 0xb4, 0x01, 0x40]
def cX13_product_r5 : List UInt8 := cX13_product_w5 ++ cX13_product_r6
def cX13_product_w4 : List UInt8 := [0xb4, 0x01, 0x43, 0x1c, 0x2e, 0x60, 0xa2, 0x00, 0x42, 0x2a, 0xb4, 0x01, 0x40, 0x10, 0x10, 0x1d, 0x68, 0x15, 0x04, 0x60, 0x15, 0x04, 0x2a, 0xb4, 0x01, 0x43]
def cX13_product_r4 : List UInt8 := cX13_product_w4 ++ cX13_product_r5
def cX13_product_w3 : List UInt8 := [0x3e, 0x1d, 0x02, 0xa0, 0x00, 0x09, 0x2a, 0x07, 0xb6, 0x01, 0x93, 0xac, 0x03, 0x36, 0x04, 0x15, 0x04, 0x2a, 0xb4, 0x01, 0x43, 0x1b, 0x2e, 0x2a]
def cX13_product_r3 : List UInt8 := cX13_product_w3 ++ cX13_product_r4
def cX13_product_w2 : List UInt8 := [0x1b, 0x2e, 0x2a, 0xb4, 0x01, 0x43, 0x1c, 0x2e, 0x60, 0x10, 0x10, 0xa4, 0x00, 0x09, 0x2a, 0x06, 0xb6, 0x01, 0x93, 0xac, 0x2a, 0xb6, 0x02, 0xe0]
def cX13_product_r2 : List UInt8 := cX13_product_w2 ++ cX13_product_r3
def cX13_product_w1 : List UInt8 := [0xac, 0x2a, 0xb4, 0x01, 0x46, 0x1b, 0x2e, 0x2a, 0xb4, 0x01, 0x46, 0x1c, 0x2e, 0x9f, 0x00, 0x09, 0x2a, 0x05, 0xb6, 0x01, 0x93, 0xac, 0x2a, 0xb4, 0x01, 0x43]
def cX13_product_r1 : List UInt8 := cX13_product_w1 ++ cX13_product_r2
def cX13_product_w0 : List UInt8 := [0x2a, 0x03, 0xb5, 0x00, 0x01, 0x2a, 0x1b, 0xb6, 0x02, 0xe3, 0x99, 0x00, 0x0b, 0x2a, 0x1c, 0xb6, 0x02, 0xe3, 0x9a, 0x00, 0x09, 0x2a, 0x04, 0xb6, 0x01, 0x93]
def cX13_product_r0 : List UInt8 := cX13_product_w0 ++ cX13_product_r1
theorem cX13_product_s0 : dw_S cX13_product 0 cX13_product_r0 := dw_S0 (by decide +kernel)
theorem cX13_product_s1 : dw_S cX13_product 26 cX13_product_r1 := dw_Sn (w := cX13_product_w0) (r := cX13_product_r1) cX13_product_s0 (by decide +kernel)
theorem cX13_product_k0 : dw_ok cX13_product (ByteArray.mk cX13_product_w0.toArray) 0 := dw_Sw (r := cX13_product_r1) cX13_product_s0
theorem cX13_product_s2 : dw_S cX13_product 52 cX13_product_r2 := dw_Sn (w := cX13_product_w1) (r := cX13_product_r2) cX13_product_s1 (by decide +kernel)
theorem cX13_product_k1 : dw_ok cX13_product (ByteArray.mk cX13_product_w1.toArray) 26 := dw_Sw (r := cX13_product_r2) cX13_product_s1
theorem cX13_product_s3 : dw_S cX13_product 76 cX13_product_r3 := dw_Sn (w := cX13_product_w2) (r := cX13_product_r3) cX13_product_s2 (by decide +kernel)
theorem cX13_product_k2 : dw_ok cX13_product (ByteArray.mk cX13_product_w2.toArray) 52 := dw_Sw (r := cX13_product_r3) cX13_product_s2
theorem cX13_product_s4 : dw_S cX13_product 100 cX13_product_r4 := dw_Sn (w := cX13_product_w3) (r := cX13_product_r4) cX13_product_s3 (by decide +kernel)
theorem cX13_product_k3 : dw_ok cX13_product (ByteArray.mk cX13_product_w3.toArray) 76 := dw_Sw (r := cX13_product_r4) cX13_product_s3
theorem cX13_product_s5 : dw_S cX13_product 126 cX13_product_r5 := dw_Sn (w := cX13_product_w4) (r := cX13_product_r5) cX13_product_s4 (by decide +kernel)
theorem cX13_product_k4 : dw_ok cX13_product (ByteArray.mk cX13_product_w4.toArray) 100 := dw_Sw (r := cX13_product_r5) cX13_product_s4
theorem cX13_product_s6 : dw_S cX13_product 150 cX13_product_r6 := dw_Sn (w := cX13_product_w5) (r := cX13_product_r6) cX13_product_s5 (by decide +kernel)
theorem cX13_product_k5 : dw_ok cX13_product (ByteArray.mk cX13_product_w5.toArray) 126 := dw_Sw (r := cX13_product_r6) cX13_product_s5
theorem cX13_product_s7 : dw_S cX13_product 176 cX13_product_r7 := dw_Sn (w := cX13_product_w6) (r := cX13_product_r7) cX13_product_s6 (by decide +kernel)
theorem cX13_product_k6 : dw_ok cX13_product (ByteArray.mk cX13_product_w6.toArray) 150 := dw_Sw (r := cX13_product_r7) cX13_product_s6
theorem cX13_product_k7 : dw_ok cX13_product (ByteArray.mk cX13_product_w7.toArray) 176 := dw_Sw (r := []) cX13_product_s7
def cX13_putAt_w3 : List UInt8 := [0xb4, 0x00, 0x9b, 0x06, 0x2e, 0x2a, 0xb4, 0x00, 0x9e, 0x06, 0x2e, 0xb6, 0x00, 0x61, 0xb1]
def cX13_putAt_r3 : List UInt8 := cX13_putAt_w3 ++ []
def cX13_putAt_w2 : List UInt8 := [0x2a, 0xb4, 0x00, 0x79, 0x2a, 0xb4, 0x00, 0x9b, 0x05, 0x2e, 0x2a, 0xb4, 0x00, 0x9e, 0x05, 0x2e, 0xb6, 0x00, 0x61, 0x2a, 0xb4, 0x00, 0x79, 0x2a]
def cX13_putAt_r2 : List UInt8 := cX13_putAt_w2 ++ cX13_putAt_r3
def cX13_putAt_w1 : List UInt8 := [0x2a, 0xb4, 0x00, 0x79, 0x2a, 0xb4, 0x00, 0x9b, 0x04, 0x2e, 0x2a, 0xb4, 0x00, 0x9e, 0x04, 0x2e, 0xb6, 0x00, 0x61, 0x1b, 0x1d, 0xa0, 0x00, 0x29]
def cX13_putAt_r1 : List UInt8 := cX13_putAt_w1 ++ cX13_putAt_r2
def cX13_putAt_w0 : List UInt8 := [0x1b, 0x1c, 0xa0, 0x00, 0x29, 0x2a, 0xb4, 0x00, 0x79, 0x2a, 0xb4, 0x00, 0x9b, 0x03, 0x2e, 0x2a, 0xb4, 0x00, 0x9e, 0x03, 0x2e, 0xb6, 0x00, 0x61]
def cX13_putAt_r0 : List UInt8 := cX13_putAt_w0 ++ cX13_putAt_r1
theorem cX13_putAt_s0 : dw_S cX13_putAt 0 cX13_putAt_r0 := dw_S0 (by decide +kernel)
theorem cX13_putAt_s1 : dw_S cX13_putAt 24 cX13_putAt_r1 := dw_Sn (w := cX13_putAt_w0) (r := cX13_putAt_r1) cX13_putAt_s0 (by decide +kernel)
theorem cX13_putAt_k0 : dw_ok cX13_putAt (ByteArray.mk cX13_putAt_w0.toArray) 0 := dw_Sw (r := cX13_putAt_r1) cX13_putAt_s0
theorem cX13_putAt_s2 : dw_S cX13_putAt 48 cX13_putAt_r2 := dw_Sn (w := cX13_putAt_w1) (r := cX13_putAt_r2) cX13_putAt_s1 (by decide +kernel)
theorem cX13_putAt_k1 : dw_ok cX13_putAt (ByteArray.mk cX13_putAt_w1.toArray) 24 := dw_Sw (r := cX13_putAt_r2) cX13_putAt_s1
theorem cX13_putAt_s3 : dw_S cX13_putAt 72 cX13_putAt_r3 := dw_Sn (w := cX13_putAt_w2) (r := cX13_putAt_r3) cX13_putAt_s2 (by decide +kernel)
theorem cX13_putAt_k2 : dw_ok cX13_putAt (ByteArray.mk cX13_putAt_w2.toArray) 48 := dw_Sw (r := cX13_putAt_r3) cX13_putAt_s2
theorem cX13_putAt_k3 : dw_ok cX13_putAt (ByteArray.mk cX13_putAt_w3.toArray) 72 := dw_Sw (r := []) cX13_putAt_s3
def cX13_rank_w2 : List UInt8 := [0x10, 0x50, 0x21, 0x88, 0x68, 0x1c, 0x60, 0x10, 0x28, 0x60, 0x2e, 0xac]
def cX13_rank_r2 : List UInt8 := cX13_rank_w2 ++ []
def cX13_rank_w1 : List UInt8 := [0x94, 0x9d, 0x00, 0x0f, 0x1c, 0x10, 0xd8, 0xa1, 0x00, 0x09, 0x1c, 0x10, 0x28, 0xa1, 0x00, 0x07, 0x03, 0xa7, 0x00, 0x12, 0x2a, 0xb4, 0x01, 0x30]
def cX13_rank_r1 : List UInt8 := cX13_rank_w1 ++ cX13_rank_r2
def cX13_rank_w0 : List UInt8 := [0x2a, 0x03, 0xb5, 0x00, 0x01, 0x1b, 0x85, 0x2a, 0xb4, 0x02, 0xb2, 0x85, 0x61, 0x42, 0x21, 0x09, 0x94, 0x9b, 0x00, 0x17, 0x21, 0x14, 0x02, 0xd2]
def cX13_rank_r0 : List UInt8 := cX13_rank_w0 ++ cX13_rank_r1
theorem cX13_rank_s0 : dw_S cX13_rank 0 cX13_rank_r0 := dw_S0 (by decide +kernel)
theorem cX13_rank_s1 : dw_S cX13_rank 24 cX13_rank_r1 := dw_Sn (w := cX13_rank_w0) (r := cX13_rank_r1) cX13_rank_s0 (by decide +kernel)
theorem cX13_rank_k0 : dw_ok cX13_rank (ByteArray.mk cX13_rank_w0.toArray) 0 := dw_Sw (r := cX13_rank_r1) cX13_rank_s0
theorem cX13_rank_s2 : dw_S cX13_rank 48 cX13_rank_r2 := dw_Sn (w := cX13_rank_w1) (r := cX13_rank_r2) cX13_rank_s1 (by decide +kernel)
theorem cX13_rank_k1 : dw_ok cX13_rank (ByteArray.mk cX13_rank_w1.toArray) 24 := dw_Sw (r := cX13_rank_r2) cX13_rank_s1
theorem cX13_rank_k2 : dw_ok cX13_rank (ByteArray.mk cX13_rank_w2.toArray) 48 := dw_Sw (r := []) cX13_rank_s2
def cX13_rankOf_w9 : List UInt8 := [0xa7, 0xff, 0x7f, 0x84, 0x08, 0x01, 0xa7, 0xff, 0x6d, 0x15, 0x07, 0xac]
def cX13_rankOf_r9 : List UInt8 := cX13_rankOf_w9 ++ []
def cX13_rankOf_w8 : List UInt8 := [0x15, 0x07, 0x2a, 0x15, 0x05, 0x15, 0x04, 0xb6, 0x02, 0xbf, 0x99, 0x00, 0x07, 0x04, 0xa7, 0x00, 0x04, 0x03, 0x60, 0x36, 0x07, 0x84, 0x09, 0x01]
def cX13_rankOf_r8 : List UInt8 := cX13_rankOf_w8 ++ cX13_rankOf_r9
def cX13_rankOf_w7 : List UInt8 := [0x7a, 0x04, 0x7e, 0x9a, 0x00, 0x10, 0x2a, 0x2b, 0x15, 0x08, 0x15, 0x09, 0x15, 0x0a, 0x15, 0x04, 0xb6, 0x02, 0xbb, 0x84, 0x0a, 0x01, 0xa7, 0xff, 0xdf]
def cX13_rankOf_r7 : List UInt8 := cX13_rankOf_w7 ++ cX13_rankOf_r8
def cX13_rankOf_w6 : List UInt8 := [0x15, 0x0a, 0x03, 0x4f, 0x84, 0x0a, 0x01, 0xa7, 0xff, 0xee, 0x03, 0x36, 0x0a, 0x15, 0x0a, 0x15, 0x06, 0xa2, 0x00, 0x20, 0x15, 0x08, 0x15, 0x0a]
def cX13_rankOf_r6 : List UInt8 := cX13_rankOf_w6 ++ cX13_rankOf_r7
def cX13_rankOf_w5 : List UInt8 := [0x2a, 0xb4, 0x02, 0xb2, 0x64, 0xb6, 0x02, 0xb5, 0x1d, 0xa0, 0x00, 0x57, 0x03, 0x36, 0x0a, 0x15, 0x0a, 0x15, 0x05, 0xa2, 0x00, 0x11, 0x2a, 0xb4, 0x01, 0x33]
def cX13_rankOf_r5 : List UInt8 := cX13_rankOf_w5 ++ cX13_rankOf_r6
def cX13_rankOf_w4 : List UInt8 := [0xa0, 0x00, 0x7e, 0x15, 0x09, 0x04, 0x2a, 0xb4, 0x01, 0x21, 0x15, 0x08, 0x2e, 0x78, 0xa2, 0x00, 0x70, 0x2a, 0x15, 0x08, 0x15, 0x09, 0x15, 0x06]
def cX13_rankOf_r4 : List UInt8 := cX13_rankOf_w4 ++ cX13_rankOf_r5
def cX13_rankOf_w3 : List UInt8 := [0x03, 0x36, 0x07, 0x03, 0x36, 0x08, 0x15, 0x08, 0x04, 0x15, 0x06, 0x78, 0xa2, 0x00, 0x90, 0x03, 0x36, 0x09, 0x15, 0x08, 0xb8, 0x02, 0x4e, 0x1c]
def cX13_rankOf_r3 : List UInt8 := cX13_rankOf_w3 ++ cX13_rankOf_r4
def cX13_rankOf_w2 : List UInt8 := [0x15, 0x05, 0xa2, 0x00, 0x11, 0x2a, 0xb4, 0x01, 0x36, 0x15, 0x07, 0x02, 0x4f, 0x84, 0x07, 0x01, 0xa7, 0xff, 0xee, 0x2a, 0x03, 0xb5, 0x02, 0xb8]
def cX13_rankOf_r2 : List UInt8 := cX13_rankOf_w2 ++ cX13_rankOf_r3
def cX13_rankOf_w1 : List UInt8 := [0x10, 0x50, 0x1c, 0x68, 0x1d, 0x60, 0x2e, 0x9a, 0x00, 0x05, 0x03, 0xac, 0x2b, 0xb4, 0x00, 0x2c, 0x05, 0x6c, 0x36, 0x06, 0x03, 0x36, 0x07, 0x15, 0x07]
def cX13_rankOf_r1 : List UInt8 := cX13_rankOf_w1 ++ cX13_rankOf_r2
def cX13_rankOf_w0 : List UInt8 := [0x2a, 0xb4, 0x01, 0x2a, 0x10, 0x50, 0x1c, 0x04, 0x60, 0x68, 0x1d, 0x60, 0x2e, 0x36, 0x05, 0x15, 0x05, 0x99, 0x00, 0x11, 0x2a, 0xb4, 0x01, 0x2a]
def cX13_rankOf_r0 : List UInt8 := cX13_rankOf_w0 ++ cX13_rankOf_r1
theorem cX13_rankOf_s0 : dw_S cX13_rankOf 0 cX13_rankOf_r0 := dw_S0 (by decide +kernel)
theorem cX13_rankOf_s1 : dw_S cX13_rankOf 24 cX13_rankOf_r1 := dw_Sn (w := cX13_rankOf_w0) (r := cX13_rankOf_r1) cX13_rankOf_s0 (by decide +kernel)
theorem cX13_rankOf_k0 : dw_ok cX13_rankOf (ByteArray.mk cX13_rankOf_w0.toArray) 0 := dw_Sw (r := cX13_rankOf_r1) cX13_rankOf_s0
theorem cX13_rankOf_s2 : dw_S cX13_rankOf 49 cX13_rankOf_r2 := dw_Sn (w := cX13_rankOf_w1) (r := cX13_rankOf_r2) cX13_rankOf_s1 (by decide +kernel)
theorem cX13_rankOf_k1 : dw_ok cX13_rankOf (ByteArray.mk cX13_rankOf_w1.toArray) 24 := dw_Sw (r := cX13_rankOf_r2) cX13_rankOf_s1
theorem cX13_rankOf_s3 : dw_S cX13_rankOf 73 cX13_rankOf_r3 := dw_Sn (w := cX13_rankOf_w2) (r := cX13_rankOf_r3) cX13_rankOf_s2 (by decide +kernel)
theorem cX13_rankOf_k2 : dw_ok cX13_rankOf (ByteArray.mk cX13_rankOf_w2.toArray) 49 := dw_Sw (r := cX13_rankOf_r3) cX13_rankOf_s2
theorem cX13_rankOf_s4 : dw_S cX13_rankOf 97 cX13_rankOf_r4 := dw_Sn (w := cX13_rankOf_w3) (r := cX13_rankOf_r4) cX13_rankOf_s3 (by decide +kernel)
theorem cX13_rankOf_k3 : dw_ok cX13_rankOf (ByteArray.mk cX13_rankOf_w3.toArray) 73 := dw_Sw (r := cX13_rankOf_r4) cX13_rankOf_s3
theorem cX13_rankOf_s5 : dw_S cX13_rankOf 121 cX13_rankOf_r5 := dw_Sn (w := cX13_rankOf_w4) (r := cX13_rankOf_r5) cX13_rankOf_s4 (by decide +kernel)
theorem cX13_rankOf_k4 : dw_ok cX13_rankOf (ByteArray.mk cX13_rankOf_w4.toArray) 97 := dw_Sw (r := cX13_rankOf_r5) cX13_rankOf_s4
theorem cX13_rankOf_s6 : dw_S cX13_rankOf 147 cX13_rankOf_r6 := dw_Sn (w := cX13_rankOf_w5) (r := cX13_rankOf_r6) cX13_rankOf_s5 (by decide +kernel)
theorem cX13_rankOf_k5 : dw_ok cX13_rankOf (ByteArray.mk cX13_rankOf_w5.toArray) 121 := dw_Sw (r := cX13_rankOf_r6) cX13_rankOf_s5
theorem cX13_rankOf_s7 : dw_S cX13_rankOf 171 cX13_rankOf_r7 := dw_Sn (w := cX13_rankOf_w6) (r := cX13_rankOf_r7) cX13_rankOf_s6 (by decide +kernel)
theorem cX13_rankOf_k6 : dw_ok cX13_rankOf (ByteArray.mk cX13_rankOf_w6.toArray) 147 := dw_Sw (r := cX13_rankOf_r7) cX13_rankOf_s6
theorem cX13_rankOf_s8 : dw_S cX13_rankOf 196 cX13_rankOf_r8 := dw_Sn (w := cX13_rankOf_w7) (r := cX13_rankOf_r8) cX13_rankOf_s7 (by decide +kernel)
theorem cX13_rankOf_k7 : dw_ok cX13_rankOf (ByteArray.mk cX13_rankOf_w7.toArray) 171 := dw_Sw (r := cX13_rankOf_r8) cX13_rankOf_s7
theorem cX13_rankOf_s9 : dw_S cX13_rankOf 220 cX13_rankOf_r9 := dw_Sn (w := cX13_rankOf_w8) (r := cX13_rankOf_r9) cX13_rankOf_s8 (by decide +kernel)
theorem cX13_rankOf_k8 : dw_ok cX13_rankOf (ByteArray.mk cX13_rankOf_w8.toArray) 196 := dw_Sw (r := cX13_rankOf_r9) cX13_rankOf_s8
theorem cX13_rankOf_k9 : dw_ok cX13_rankOf (ByteArray.mk cX13_rankOf_w9.toArray) 220 := dw_Sw (r := []) cX13_rankOf_s9
def cX13_read_w18 : List UInt8 := [0xb4, 0x00, 0x79, 0xb6, 0x00, 0x47, 0x2a, 0xb4, 0x00, 0x79, 0xb6, 0x01, 0x9d, 0x99, 0x00, 0x07, 0x02, 0xa7, 0x00, 0x07, 0x2a, 0xb4, 0x01, 0x90, 0xac]
def cX13_read_r18 : List UInt8 := cX13_read_w18 ++ []
def cX13_read_w17 : List UInt8 := [0x15, 0x04, 0x2e, 0xb8, 0x00, 0x3d, 0x3e, 0x84, 0x04, 0x01, 0xa7, 0xff, 0xe0, 0x1d, 0x2a, 0xb4, 0x01, 0x90, 0xa3, 0x00, 0x05, 0x1d, 0xac, 0x2a]
def cX13_read_r17 : List UInt8 := cX13_read_w17 ++ cX13_read_r18
def cX13_read_w16 : List UInt8 := [0x03, 0x36, 0x04, 0x15, 0x04, 0x1b, 0xa2, 0x00, 0x20, 0x2a, 0xb4, 0x00, 0x85, 0x15, 0x04, 0x2e, 0x06, 0x9f, 0x00, 0x0f, 0x1d, 0x2a, 0xb4, 0x00, 0x82]
def cX13_read_r16 : List UInt8 := cX13_read_w16 ++ cX13_read_r17
def cX13_read_w15 : List UInt8 := [0x15, 0x08, 0x15, 0x07, 0xb6, 0x00, 0x61, 0xa7, 0xfe, 0x8e, 0x2a, 0xb4, 0x00, 0x79, 0xb6, 0x00, 0x5e, 0x2a, 0xb4, 0x01, 0x90, 0x04, 0x60, 0x3e]
def cX13_read_r15 : List UInt8 := cX13_read_w15 ++ cX13_read_r16
def cX13_read_w14 : List UInt8 := [0x15, 0x08, 0x5c, 0x2e, 0x04, 0x15, 0x07, 0x60, 0x80, 0x4f, 0x2a, 0xb4, 0x00, 0x79, 0xb4, 0x00, 0x23, 0x15, 0x08, 0x15, 0x06, 0x4f, 0x2a, 0xb4, 0x00, 0x79]
def cX13_read_r14 : List UInt8 := cX13_read_w14 ++ cX13_read_r15
def cX13_read_w13 : List UInt8 := [0x15, 0x07, 0x60, 0x7e, 0x9a, 0x00, 0x0f, 0x2a, 0xb4, 0x00, 0x7f, 0x15, 0x08, 0x2e, 0x15, 0x06, 0x9f, 0x00, 0x06, 0x15, 0x04, 0xac, 0x2a, 0xb4, 0x00, 0x85]
def cX13_read_r13 : List UInt8 := cX13_read_w13 ++ cX13_read_r14
def cX13_read_w12 : List UInt8 := [0x15, 0x08, 0x15, 0x04, 0x4f, 0x2a, 0xb4, 0x00, 0x85, 0x15, 0x08, 0x03, 0x4f, 0x84, 0x01, 0x01, 0x2a, 0xb4, 0x00, 0x85, 0x15, 0x08, 0x2e, 0x04]
def cX13_read_r12 : List UInt8 := cX13_read_w12 ++ cX13_read_r13
def cX13_read_w11 : List UInt8 := [0x15, 0x04, 0xac, 0x2a, 0xb4, 0x00, 0x7c, 0x15, 0x08, 0x15, 0x05, 0x4f, 0x2a, 0xb4, 0x00, 0x7f, 0x15, 0x08, 0x15, 0x06, 0x4f, 0x2a, 0xb4, 0x00, 0x82]
def cX13_read_r11 : List UInt8 := cX13_read_w11 ++ cX13_read_r12
def cX13_read_w10 : List UInt8 := [0x15, 0x08, 0x2e, 0x15, 0x05, 0x9f, 0x00, 0x09, 0x84, 0x08, 0x01, 0xa7, 0xff, 0xeb, 0x15, 0x08, 0x1b, 0xa0, 0x00, 0x32, 0x1b, 0x10, 0x0c, 0xa0, 0x00, 0x06]
def cX13_read_r10 : List UInt8 := cX13_read_w10 ++ cX13_read_r11
def cX13_read_w9 : List UInt8 := [0x1d, 0x10, 0x75, 0xa0, 0x00, 0x07, 0x04, 0xa7, 0x00, 0x04, 0x03, 0x36, 0x07, 0x03, 0x36, 0x08, 0x15, 0x08, 0x1b, 0xa2, 0x00, 0x15, 0x2a, 0xb4, 0x00, 0x7c]
def cX13_read_r9 : List UInt8 := cX13_read_w9 ++ cX13_read_r10
def cX13_read_w8 : List UInt8 := [0x9f, 0x00, 0x05, 0x1c, 0xac, 0x2a, 0x1c, 0xb6, 0x01, 0x9a, 0x10, 0x2b, 0xa0, 0x00, 0x07, 0x04, 0xa7, 0x00, 0x04, 0x02, 0x36, 0x06, 0x84, 0x02, 0x01]
def cX13_read_r8 : List UInt8 := cX13_read_w8 ++ cX13_read_r9
def cX13_read_w7 : List UInt8 := [0xa0, 0x00, 0x08, 0x2a, 0xb4, 0x01, 0x90, 0xac, 0x2a, 0x1c, 0xb6, 0x01, 0x9a, 0x10, 0x2b, 0x9f, 0x00, 0x0f, 0x2a, 0x1c, 0xb6, 0x01, 0x9a, 0x10, 0x2d]
def cX13_read_r7 : List UInt8 := cX13_read_w7 ++ cX13_read_r8
def cX13_read_w6 : List UInt8 := [0x10, 0x0a, 0x15, 0x05, 0x68, 0x2a, 0x1c, 0xb6, 0x01, 0x9a, 0x60, 0x10, 0x30, 0x64, 0x36, 0x05, 0x84, 0x02, 0x01, 0x1c, 0x2a, 0xb4, 0x01, 0x90]
def cX13_read_r6 : List UInt8 := cX13_read_w6 ++ cX13_read_r7
def cX13_read_w5 : List UInt8 := [0x64, 0x36, 0x05, 0x84, 0x02, 0x01, 0x2a, 0x1c, 0xb6, 0x01, 0x9a, 0x10, 0x30, 0xa1, 0x00, 0x20, 0x2a, 0x1c, 0xb6, 0x01, 0x9a, 0x10, 0x39, 0xa3, 0x00, 0x16]
def cX13_read_r5 : List UInt8 := cX13_read_w5 ++ cX13_read_r6
def cX13_read_w4 : List UInt8 := [0x10, 0x31, 0xa1, 0x00, 0x0d, 0x2a, 0x1c, 0xb6, 0x01, 0x9a, 0x10, 0x39, 0xa4, 0x00, 0x05, 0x1c, 0xac, 0x2a, 0x1c, 0xb6, 0x01, 0x9a, 0x10, 0x30]
def cX13_read_r4 : List UInt8 := cX13_read_w4 ++ cX13_read_r5
def cX13_read_w3 : List UInt8 := [0xac, 0x1c, 0x36, 0x04, 0x84, 0x02, 0x01, 0x1c, 0x2a, 0xb4, 0x01, 0x90, 0xa0, 0x00, 0x08, 0x2a, 0xb4, 0x01, 0x90, 0xac, 0x2a, 0x1c, 0xb6, 0x01, 0x9a]
def cX13_read_r3 : List UInt8 := cX13_read_w3 ++ cX13_read_r4
def cX13_read_w2 : List UInt8 := [0xa0, 0x00, 0x05, 0x1c, 0xac, 0x84, 0x02, 0x01, 0xa7, 0xff, 0xd3, 0x1d, 0x10, 0x6f, 0x9f, 0x00, 0x0b, 0x1d, 0x10, 0x75, 0x9f, 0x00, 0x05, 0x1c]
def cX13_read_r2 : List UInt8 := cX13_read_w2 ++ cX13_read_r3
def cX13_read_w1 : List UInt8 := [0x33, 0x3e, 0x1d, 0x10, 0x3b, 0xa0, 0x00, 0x1e, 0x2a, 0xb4, 0x00, 0x79, 0xb6, 0x00, 0x5e, 0x2a, 0xb4, 0x00, 0x79, 0xb4, 0x01, 0x97, 0x10, 0x06]
def cX13_read_r1 : List UInt8 := cX13_read_w1 ++ cX13_read_r2
def cX13_read_w0 : List UInt8 := [0x2a, 0xb4, 0x00, 0x79, 0xb6, 0x00, 0x5b, 0x03, 0x3c, 0x03, 0x3d, 0x1c, 0x2a, 0xb4, 0x01, 0x90, 0xa2, 0x01, 0x70, 0x2a, 0xb4, 0x00, 0x6a, 0x1c]
def cX13_read_r0 : List UInt8 := cX13_read_w0 ++ cX13_read_r1
theorem cX13_read_s0 : dw_S cX13_read 0 cX13_read_r0 := dw_S0 (by decide +kernel)
theorem cX13_read_s1 : dw_S cX13_read 24 cX13_read_r1 := dw_Sn (w := cX13_read_w0) (r := cX13_read_r1) cX13_read_s0 (by decide +kernel)
theorem cX13_read_k0 : dw_ok cX13_read (ByteArray.mk cX13_read_w0.toArray) 0 := dw_Sw (r := cX13_read_r1) cX13_read_s0
theorem cX13_read_s2 : dw_S cX13_read 48 cX13_read_r2 := dw_Sn (w := cX13_read_w1) (r := cX13_read_r2) cX13_read_s1 (by decide +kernel)
theorem cX13_read_k1 : dw_ok cX13_read (ByteArray.mk cX13_read_w1.toArray) 24 := dw_Sw (r := cX13_read_r2) cX13_read_s1
theorem cX13_read_s3 : dw_S cX13_read 72 cX13_read_r3 := dw_Sn (w := cX13_read_w2) (r := cX13_read_r3) cX13_read_s2 (by decide +kernel)
theorem cX13_read_k2 : dw_ok cX13_read (ByteArray.mk cX13_read_w2.toArray) 48 := dw_Sw (r := cX13_read_r3) cX13_read_s2
theorem cX13_read_s4 : dw_S cX13_read 97 cX13_read_r4 := dw_Sn (w := cX13_read_w3) (r := cX13_read_r4) cX13_read_s3 (by decide +kernel)
theorem cX13_read_k3 : dw_ok cX13_read (ByteArray.mk cX13_read_w3.toArray) 72 := dw_Sw (r := cX13_read_r4) cX13_read_s3
theorem cX13_read_s5 : dw_S cX13_read 121 cX13_read_r5 := dw_Sn (w := cX13_read_w4) (r := cX13_read_r5) cX13_read_s4 (by decide +kernel)
theorem cX13_read_k4 : dw_ok cX13_read (ByteArray.mk cX13_read_w4.toArray) 97 := dw_Sw (r := cX13_read_r5) cX13_read_s4
theorem cX13_read_s6 : dw_S cX13_read 147 cX13_read_r6 := dw_Sn (w := cX13_read_w5) (r := cX13_read_r6) cX13_read_s5 (by decide +kernel)
theorem cX13_read_k5 : dw_ok cX13_read (ByteArray.mk cX13_read_w5.toArray) 121 := dw_Sw (r := cX13_read_r6) cX13_read_s5
theorem cX13_read_s7 : dw_S cX13_read 171 cX13_read_r7 := dw_Sn (w := cX13_read_w6) (r := cX13_read_r7) cX13_read_s6 (by decide +kernel)
theorem cX13_read_k6 : dw_ok cX13_read (ByteArray.mk cX13_read_w6.toArray) 147 := dw_Sw (r := cX13_read_r7) cX13_read_s6
theorem cX13_read_s8 : dw_S cX13_read 196 cX13_read_r8 := dw_Sn (w := cX13_read_w7) (r := cX13_read_r8) cX13_read_s7 (by decide +kernel)
theorem cX13_read_k7 : dw_ok cX13_read (ByteArray.mk cX13_read_w7.toArray) 171 := dw_Sw (r := cX13_read_r8) cX13_read_s7
theorem cX13_read_s9 : dw_S cX13_read 221 cX13_read_r9 := dw_Sn (w := cX13_read_w8) (r := cX13_read_r9) cX13_read_s8 (by decide +kernel)
theorem cX13_read_k8 : dw_ok cX13_read (ByteArray.mk cX13_read_w8.toArray) 196 := dw_Sw (r := cX13_read_r9) cX13_read_s8
theorem cX13_read_s10 : dw_S cX13_read 247 cX13_read_r10 := dw_Sn (w := cX13_read_w9) (r := cX13_read_r10) cX13_read_s9 (by decide +kernel)
theorem cX13_read_k9 : dw_ok cX13_read (ByteArray.mk cX13_read_w9.toArray) 221 := dw_Sw (r := cX13_read_r10) cX13_read_s9
theorem cX13_read_s11 : dw_S cX13_read 273 cX13_read_r11 := dw_Sn (w := cX13_read_w10) (r := cX13_read_r11) cX13_read_s10 (by decide +kernel)
theorem cX13_read_k10 : dw_ok cX13_read (ByteArray.mk cX13_read_w10.toArray) 247 := dw_Sw (r := cX13_read_r11) cX13_read_s10
theorem cX13_read_s12 : dw_S cX13_read 298 cX13_read_r12 := dw_Sn (w := cX13_read_w11) (r := cX13_read_r12) cX13_read_s11 (by decide +kernel)
theorem cX13_read_k11 : dw_ok cX13_read (ByteArray.mk cX13_read_w11.toArray) 273 := dw_Sw (r := cX13_read_r12) cX13_read_s11
theorem cX13_read_s13 : dw_S cX13_read 322 cX13_read_r13 := dw_Sn (w := cX13_read_w12) (r := cX13_read_r13) cX13_read_s12 (by decide +kernel)
theorem cX13_read_k12 : dw_ok cX13_read (ByteArray.mk cX13_read_w12.toArray) 298 := dw_Sw (r := cX13_read_r13) cX13_read_s12
theorem cX13_read_s14 : dw_S cX13_read 348 cX13_read_r14 := dw_Sn (w := cX13_read_w13) (r := cX13_read_r14) cX13_read_s13 (by decide +kernel)
theorem cX13_read_k13 : dw_ok cX13_read (ByteArray.mk cX13_read_w13.toArray) 322 := dw_Sw (r := cX13_read_r14) cX13_read_s13
theorem cX13_read_s15 : dw_S cX13_read 374 cX13_read_r15 := dw_Sn (w := cX13_read_w14) (r := cX13_read_r15) cX13_read_s14 (by decide +kernel)
theorem cX13_read_k14 : dw_ok cX13_read (ByteArray.mk cX13_read_w14.toArray) 348 := dw_Sw (r := cX13_read_r15) cX13_read_s14
theorem cX13_read_s16 : dw_S cX13_read 398 cX13_read_r16 := dw_Sn (w := cX13_read_w15) (r := cX13_read_r16) cX13_read_s15 (by decide +kernel)
theorem cX13_read_k15 : dw_ok cX13_read (ByteArray.mk cX13_read_w15.toArray) 374 := dw_Sw (r := cX13_read_r16) cX13_read_s15
theorem cX13_read_s17 : dw_S cX13_read 423 cX13_read_r17 := dw_Sn (w := cX13_read_w16) (r := cX13_read_r17) cX13_read_s16 (by decide +kernel)
theorem cX13_read_k16 : dw_ok cX13_read (ByteArray.mk cX13_read_w16.toArray) 398 := dw_Sw (r := cX13_read_r17) cX13_read_s16
theorem cX13_read_s18 : dw_S cX13_read 447 cX13_read_r18 := dw_Sn (w := cX13_read_w17) (r := cX13_read_r18) cX13_read_s17 (by decide +kernel)
theorem cX13_read_k17 : dw_ok cX13_read (ByteArray.mk cX13_read_w17.toArray) 423 := dw_Sw (r := cX13_read_r18) cX13_read_s17
theorem cX13_read_k18 : dw_ok cX13_read (ByteArray.mk cX13_read_w18.toArray) 447 := dw_Sw (r := []) cX13_read_s18
def cX13_reduced_w8 : List UInt8 := [0x70, 0x4f, 0x84, 0x05, 0x01, 0xa7, 0xff, 0xc5, 0x84, 0x03, 0x01, 0xa7, 0xff, 0x33, 0x03, 0xac]
def cX13_reduced_r8 : List UInt8 := cX13_reduced_w8 ++ []
def cX13_reduced_w7 : List UInt8 := [0xb4, 0x01, 0x33, 0x15, 0x06, 0x2e, 0x1c, 0x15, 0x04, 0x64, 0x2a, 0xb4, 0x01, 0x3d, 0x15, 0x05, 0x2e, 0x11, 0x03, 0xff, 0x7e, 0x68, 0x60, 0x1c]
def cX13_reduced_r7 : List UInt8 := cX13_reduced_w7 ++ cX13_reduced_r8
def cX13_reduced_w6 : List UInt8 := [0x1d, 0x2e, 0xa2, 0x00, 0x36, 0x2a, 0xb4, 0x01, 0x3d, 0x15, 0x05, 0x2e, 0x10, 0x0a, 0x7a, 0x36, 0x06, 0x2a, 0xb4, 0x01, 0x33, 0x15, 0x06, 0x2a]
def cX13_reduced_r6 : List UInt8 := cX13_reduced_w6 ++ cX13_reduced_r7
def cX13_reduced_w5 : List UInt8 := [0xb4, 0x01, 0x39, 0x1d, 0x2a, 0xb4, 0x02, 0xb8, 0x4f, 0x04, 0xac, 0x2a, 0xb4, 0x01, 0x36, 0x1d, 0x2e, 0x36, 0x05, 0x15, 0x05, 0x2a, 0xb4, 0x01, 0x39]
def cX13_reduced_r5 : List UInt8 := cX13_reduced_w5 ++ cX13_reduced_r6
def cX13_reduced_w4 : List UInt8 := [0x15, 0x06, 0x68, 0x15, 0x07, 0x60, 0x4f, 0x2a, 0x59, 0xb4, 0x02, 0xb8, 0x04, 0x60, 0xb5, 0x02, 0xb8, 0x84, 0x06, 0x01, 0xa7, 0xff, 0xc6, 0x2a]
def cX13_reduced_r4 : List UInt8 := cX13_reduced_w4 ++ cX13_reduced_r5
def cX13_reduced_w3 : List UInt8 := [0x2e, 0x1c, 0x70, 0x15, 0x05, 0x68, 0x1c, 0x70, 0x36, 0x07, 0x15, 0x07, 0x99, 0x00, 0x1f, 0x2a, 0xb4, 0x01, 0x3d, 0x2a, 0xb4, 0x02, 0xb8, 0x11, 0x04, 0x00]
def cX13_reduced_r3 : List UInt8 := cX13_reduced_w3 ++ cX13_reduced_r4
def cX13_reduced_w2 : List UInt8 := [0x2a, 0xb4, 0x01, 0x36, 0x1d, 0x2a, 0xb4, 0x02, 0xb8, 0x4f, 0x1d, 0x36, 0x06, 0x15, 0x06, 0x1b, 0xa2, 0x00, 0x3a, 0x2a, 0xb4, 0x01, 0x33, 0x15, 0x06]
def cX13_reduced_r2 : List UInt8 := cX13_reduced_w2 ++ cX13_reduced_r3
def cX13_reduced_w1 : List UInt8 := [0x4f, 0x15, 0x04, 0x99, 0x00, 0xb1, 0x2a, 0xb4, 0x01, 0x36, 0x1d, 0x2e, 0x02, 0xa0, 0x00, 0x61, 0x15, 0x04, 0x1c, 0xb8, 0x02, 0xc2, 0x36, 0x05]
def cX13_reduced_r1 : List UInt8 := cX13_reduced_w1 ++ cX13_reduced_r2
def cX13_reduced_w0 : List UInt8 := [0x03, 0x3e, 0x1d, 0x1b, 0xa2, 0x00, 0xce, 0x2a, 0xb4, 0x01, 0x33, 0x1d, 0x2e, 0x1c, 0x70, 0x36, 0x04, 0x2a, 0xb4, 0x01, 0x33, 0x1d, 0x15, 0x04]
def cX13_reduced_r0 : List UInt8 := cX13_reduced_w0 ++ cX13_reduced_r1
theorem cX13_reduced_s0 : dw_S cX13_reduced 0 cX13_reduced_r0 := dw_S0 (by decide +kernel)
theorem cX13_reduced_s1 : dw_S cX13_reduced 24 cX13_reduced_r1 := dw_Sn (w := cX13_reduced_w0) (r := cX13_reduced_r1) cX13_reduced_s0 (by decide +kernel)
theorem cX13_reduced_k0 : dw_ok cX13_reduced (ByteArray.mk cX13_reduced_w0.toArray) 0 := dw_Sw (r := cX13_reduced_r1) cX13_reduced_s0
theorem cX13_reduced_s2 : dw_S cX13_reduced 48 cX13_reduced_r2 := dw_Sn (w := cX13_reduced_w1) (r := cX13_reduced_r2) cX13_reduced_s1 (by decide +kernel)
theorem cX13_reduced_k1 : dw_ok cX13_reduced (ByteArray.mk cX13_reduced_w1.toArray) 24 := dw_Sw (r := cX13_reduced_r2) cX13_reduced_s1
theorem cX13_reduced_s3 : dw_S cX13_reduced 73 cX13_reduced_r3 := dw_Sn (w := cX13_reduced_w2) (r := cX13_reduced_r3) cX13_reduced_s2 (by decide +kernel)
theorem cX13_reduced_k2 : dw_ok cX13_reduced (ByteArray.mk cX13_reduced_w2.toArray) 48 := dw_Sw (r := cX13_reduced_r3) cX13_reduced_s2
theorem cX13_reduced_s4 : dw_S cX13_reduced 99 cX13_reduced_r4 := dw_Sn (w := cX13_reduced_w3) (r := cX13_reduced_r4) cX13_reduced_s3 (by decide +kernel)
theorem cX13_reduced_k3 : dw_ok cX13_reduced (ByteArray.mk cX13_reduced_w3.toArray) 73 := dw_Sw (r := cX13_reduced_r4) cX13_reduced_s3
theorem cX13_reduced_s5 : dw_S cX13_reduced 123 cX13_reduced_r5 := dw_Sn (w := cX13_reduced_w4) (r := cX13_reduced_r5) cX13_reduced_s4 (by decide +kernel)
theorem cX13_reduced_k4 : dw_ok cX13_reduced (ByteArray.mk cX13_reduced_w4.toArray) 99 := dw_Sw (r := cX13_reduced_r5) cX13_reduced_s4
theorem cX13_reduced_s6 : dw_S cX13_reduced 148 cX13_reduced_r6 := dw_Sn (w := cX13_reduced_w5) (r := cX13_reduced_r6) cX13_reduced_s5 (by decide +kernel)
theorem cX13_reduced_k5 : dw_ok cX13_reduced (ByteArray.mk cX13_reduced_w5.toArray) 123 := dw_Sw (r := cX13_reduced_r6) cX13_reduced_s5
theorem cX13_reduced_s7 : dw_S cX13_reduced 172 cX13_reduced_r7 := dw_Sn (w := cX13_reduced_w6) (r := cX13_reduced_r7) cX13_reduced_s6 (by decide +kernel)
theorem cX13_reduced_k6 : dw_ok cX13_reduced (ByteArray.mk cX13_reduced_w6.toArray) 148 := dw_Sw (r := cX13_reduced_r7) cX13_reduced_s6
theorem cX13_reduced_s8 : dw_S cX13_reduced 196 cX13_reduced_r8 := dw_Sn (w := cX13_reduced_w7) (r := cX13_reduced_r8) cX13_reduced_s7 (by decide +kernel)
theorem cX13_reduced_k7 : dw_ok cX13_reduced (ByteArray.mk cX13_reduced_w7.toArray) 172 := dw_Sw (r := cX13_reduced_r8) cX13_reduced_s7
theorem cX13_reduced_k8 : dw_ok cX13_reduced (ByteArray.mk cX13_reduced_w8.toArray) 196 := dw_Sw (r := []) cX13_reduced_s8
def cX13_reverse_w11 : List UInt8 := [0x2e, 0x64, 0x4f, 0x84, 0x05, 0x01, 0xa7, 0xff, 0x5c, 0x2a, 0xb4, 0x00, 0x79, 0xb6, 0x00, 0x5e, 0x84, 0x03, 0x01, 0xa7, 0xff, 0x30, 0x2a, 0xb6, 0x01, 0xa4, 0xac]
def cX13_reverse_r11 : List UInt8 := cX13_reverse_w11 ++ []
def cX13_reverse_w10 : List UInt8 := [0xb4, 0x00, 0x17, 0x15, 0x06, 0x2e, 0x03, 0x2a, 0xb4, 0x00, 0x72, 0xb4, 0x00, 0x23, 0x2a, 0xb4, 0x00, 0x72, 0xb4, 0x00, 0x17, 0x15, 0x06, 0x2e]
def cX13_reverse_r10 : List UInt8 := cX13_reverse_w10 ++ cX13_reverse_r11
def cX13_reverse_w9 : List UInt8 := [0xb4, 0x00, 0x72, 0xb4, 0x00, 0x29, 0x15, 0x06, 0x2e, 0x2e, 0x1d, 0x9f, 0x00, 0x29, 0x2a, 0xb4, 0x00, 0x79, 0xb4, 0x00, 0x23, 0x2a, 0xb4, 0x00, 0x72]
def cX13_reverse_r9 : List UInt8 := cX13_reverse_w9 ++ cX13_reverse_r10
def cX13_reverse_w8 : List UInt8 := [0x15, 0x06, 0x2e, 0xb6, 0x00, 0x61, 0x15, 0x04, 0x99, 0x00, 0x44, 0x1c, 0x02, 0x9f, 0x00, 0x3f, 0x2a, 0xb4, 0x00, 0x72, 0xb4, 0x00, 0x12, 0x2a]
def cX13_reverse_r8 : List UInt8 := cX13_reverse_w8 ++ cX13_reverse_r9
def cX13_reverse_w7 : List UInt8 := [0x15, 0x05, 0x60, 0x36, 0x06, 0x2a, 0xb4, 0x00, 0x79, 0x2a, 0xb4, 0x00, 0x72, 0xb4, 0x00, 0x17, 0x15, 0x06, 0x2e, 0x2a, 0xb4, 0x00, 0x72, 0xb4, 0x00, 0x20]
def cX13_reverse_r7 : List UInt8 := cX13_reverse_w7 ++ cX13_reverse_r8
def cX13_reverse_w6 : List UInt8 := [0xb4, 0x01, 0xc4, 0x1d, 0x04, 0x60, 0x2e, 0x04, 0x64, 0x15, 0x05, 0x64, 0xa7, 0x00, 0x0f, 0x2a, 0xb4, 0x00, 0x72, 0xb4, 0x01, 0xc4, 0x1d, 0x2e]
def cX13_reverse_r6 : List UInt8 := cX13_reverse_w6 ++ cX13_reverse_r7
def cX13_reverse_w5 : List UInt8 := [0x1d, 0x04, 0x60, 0x2e, 0x2a, 0xb4, 0x00, 0x72, 0xb4, 0x01, 0xc4, 0x1d, 0x2e, 0x64, 0xa2, 0x00, 0x90, 0x15, 0x04, 0x99, 0x00, 0x16, 0x2a, 0xb4, 0x00, 0x72]
def cX13_reverse_r5 : List UInt8 := cX13_reverse_w5 ++ cX13_reverse_r6
def cX13_reverse_w4 : List UInt8 := [0x1c, 0x1d, 0xa0, 0x00, 0x07, 0x04, 0xa7, 0x00, 0x04, 0x03, 0x36, 0x04, 0x03, 0x36, 0x05, 0x15, 0x05, 0x2a, 0xb4, 0x00, 0x72, 0xb4, 0x01, 0xc4]
def cX13_reverse_r4 : List UInt8 := cX13_reverse_w4 ++ cX13_reverse_r5
def cX13_reverse_w3 : List UInt8 := [0x2a, 0xb4, 0x00, 0x72, 0xb6, 0x01, 0xc0, 0x03, 0x3e, 0x1d, 0x2a, 0xb4, 0x00, 0x72, 0xb4, 0x01, 0x97, 0xa2, 0x00, 0xcb, 0x1c, 0x02, 0x9f, 0x00, 0x08]
def cX13_reverse_r3 : List UInt8 := cX13_reverse_w3 ++ cX13_reverse_r4
def cX13_reverse_w2 : List UInt8 := [0xac, 0x2a, 0xb6, 0x01, 0x88, 0x02, 0xa0, 0x00, 0x09, 0x2a, 0x05, 0xb6, 0x01, 0x93, 0xac, 0x2a, 0xb4, 0x00, 0x79, 0xb6, 0x00, 0x5b, 0x2a, 0xb4, 0x00, 0x79]
def cX13_reverse_r2 : List UInt8 := cX13_reverse_w2 ++ cX13_reverse_r3
def cX13_reverse_w1 : List UInt8 := [0xb6, 0x01, 0xb2, 0x1c, 0x02, 0xa1, 0x00, 0x0e, 0x1c, 0x2a, 0xb4, 0x00, 0x72, 0xb4, 0x01, 0x97, 0xa1, 0x00, 0x09, 0x2a, 0x04, 0xb6, 0x01, 0x93]
def cX13_reverse_r1 : List UInt8 := cX13_reverse_w1 ++ cX13_reverse_r2
def cX13_reverse_w0 : List UInt8 := [0x2a, 0x03, 0xb5, 0x00, 0x01, 0x2a, 0x1b, 0xb6, 0x01, 0xa7, 0x9a, 0x00, 0x09, 0x2a, 0x04, 0xb6, 0x01, 0x93, 0xac, 0x2a, 0x1b, 0x2a, 0xb4, 0x00, 0x72]
def cX13_reverse_r0 : List UInt8 := cX13_reverse_w0 ++ cX13_reverse_r1
theorem cX13_reverse_s0 : dw_S cX13_reverse 0 cX13_reverse_r0 := dw_S0 (by decide +kernel)
theorem cX13_reverse_s1 : dw_S cX13_reverse 25 cX13_reverse_r1 := dw_Sn (w := cX13_reverse_w0) (r := cX13_reverse_r1) cX13_reverse_s0 (by decide +kernel)
theorem cX13_reverse_k0 : dw_ok cX13_reverse (ByteArray.mk cX13_reverse_w0.toArray) 0 := dw_Sw (r := cX13_reverse_r1) cX13_reverse_s0
theorem cX13_reverse_s2 : dw_S cX13_reverse 49 cX13_reverse_r2 := dw_Sn (w := cX13_reverse_w1) (r := cX13_reverse_r2) cX13_reverse_s1 (by decide +kernel)
theorem cX13_reverse_k1 : dw_ok cX13_reverse (ByteArray.mk cX13_reverse_w1.toArray) 25 := dw_Sw (r := cX13_reverse_r2) cX13_reverse_s1
theorem cX13_reverse_s3 : dw_S cX13_reverse 75 cX13_reverse_r3 := dw_Sn (w := cX13_reverse_w2) (r := cX13_reverse_r3) cX13_reverse_s2 (by decide +kernel)
theorem cX13_reverse_k2 : dw_ok cX13_reverse (ByteArray.mk cX13_reverse_w2.toArray) 49 := dw_Sw (r := cX13_reverse_r3) cX13_reverse_s2
theorem cX13_reverse_s4 : dw_S cX13_reverse 100 cX13_reverse_r4 := dw_Sn (w := cX13_reverse_w3) (r := cX13_reverse_r4) cX13_reverse_s3 (by decide +kernel)
theorem cX13_reverse_k3 : dw_ok cX13_reverse (ByteArray.mk cX13_reverse_w3.toArray) 75 := dw_Sw (r := cX13_reverse_r4) cX13_reverse_s3
theorem cX13_reverse_s5 : dw_S cX13_reverse 124 cX13_reverse_r5 := dw_Sn (w := cX13_reverse_w4) (r := cX13_reverse_r5) cX13_reverse_s4 (by decide +kernel)
theorem cX13_reverse_k4 : dw_ok cX13_reverse (ByteArray.mk cX13_reverse_w4.toArray) 100 := dw_Sw (r := cX13_reverse_r5) cX13_reverse_s4
theorem cX13_reverse_s6 : dw_S cX13_reverse 150 cX13_reverse_r6 := dw_Sn (w := cX13_reverse_w5) (r := cX13_reverse_r6) cX13_reverse_s5 (by decide +kernel)
theorem cX13_reverse_k5 : dw_ok cX13_reverse (ByteArray.mk cX13_reverse_w5.toArray) 124 := dw_Sw (r := cX13_reverse_r6) cX13_reverse_s5
theorem cX13_reverse_s7 : dw_S cX13_reverse 174 cX13_reverse_r7 := dw_Sn (w := cX13_reverse_w6) (r := cX13_reverse_r7) cX13_reverse_s6 (by decide +kernel)
theorem cX13_reverse_k6 : dw_ok cX13_reverse (ByteArray.mk cX13_reverse_w6.toArray) 150 := dw_Sw (r := cX13_reverse_r7) cX13_reverse_s6
theorem cX13_reverse_s8 : dw_S cX13_reverse 200 cX13_reverse_r8 := dw_Sn (w := cX13_reverse_w7) (r := cX13_reverse_r8) cX13_reverse_s7 (by decide +kernel)
theorem cX13_reverse_k7 : dw_ok cX13_reverse (ByteArray.mk cX13_reverse_w7.toArray) 174 := dw_Sw (r := cX13_reverse_r8) cX13_reverse_s7
theorem cX13_reverse_s9 : dw_S cX13_reverse 224 cX13_reverse_r9 := dw_Sn (w := cX13_reverse_w8) (r := cX13_reverse_r9) cX13_reverse_s8 (by decide +kernel)
theorem cX13_reverse_k8 : dw_ok cX13_reverse (ByteArray.mk cX13_reverse_w8.toArray) 200 := dw_Sw (r := cX13_reverse_r9) cX13_reverse_s8
theorem cX13_reverse_s10 : dw_S cX13_reverse 249 cX13_reverse_r10 := dw_Sn (w := cX13_reverse_w9) (r := cX13_reverse_r10) cX13_reverse_s9 (by decide +kernel)
theorem cX13_reverse_k9 : dw_ok cX13_reverse (ByteArray.mk cX13_reverse_w9.toArray) 224 := dw_Sw (r := cX13_reverse_r10) cX13_reverse_s9
theorem cX13_reverse_s11 : dw_S cX13_reverse 273 cX13_reverse_r11 := dw_Sn (w := cX13_reverse_w10) (r := cX13_reverse_r11) cX13_reverse_s10 (by decide +kernel)
theorem cX13_reverse_k10 : dw_ok cX13_reverse (ByteArray.mk cX13_reverse_w10.toArray) 249 := dw_Sw (r := cX13_reverse_r11) cX13_reverse_s10
theorem cX13_reverse_k11 : dw_ok cX13_reverse (ByteArray.mk cX13_reverse_w11.toArray) 273 := dw_Sw (r := []) cX13_reverse_s11
def cX13_rootsOf_w7 : List UInt8 := [0x2a, 0x1b, 0x04, 0xb6, 0x02, 0x65, 0x64, 0xac]
def cX13_rootsOf_r7 : List UInt8 := cX13_rootsOf_w7 ++ []
def cX13_rootsOf_w6 : List UInt8 := [0x2a, 0xb4, 0x00, 0xe5, 0x1b, 0x1c, 0x64, 0x09, 0x21, 0x1c, 0x85, 0x6d, 0x65, 0x50, 0x84, 0x02, 0x01, 0xa7, 0xff, 0x79, 0x2a, 0x1b, 0x03, 0xb6, 0x02, 0x65]
def cX13_rootsOf_r6 : List UInt8 := cX13_rootsOf_w6 ++ cX13_rootsOf_r7
def cX13_rootsOf_w5 : List UInt8 := [0x15, 0x05, 0x1b, 0xa2, 0x00, 0x16, 0x21, 0x2a, 0xb4, 0x00, 0xdf, 0x10, 0x11, 0x15, 0x05, 0x68, 0x2f, 0x61, 0x42, 0x84, 0x05, 0x01, 0xa7, 0xff, 0xea]
def cX13_rootsOf_r5 : List UInt8 := cX13_rootsOf_w5 ++ cX13_rootsOf_r6
def cX13_rootsOf_w4 : List UInt8 := [0x09, 0x61, 0x50, 0x84, 0x04, 0x01, 0xa7, 0xff, 0xca, 0x84, 0x03, 0x01, 0xa7, 0xff, 0xbc, 0x2a, 0x1b, 0xb6, 0x02, 0x62, 0x09, 0x42, 0x03, 0x36, 0x05]
def cX13_rootsOf_r4 : List UInt8 := cX13_rootsOf_w4 ++ cX13_rootsOf_r5
def cX13_rootsOf_w3 : List UInt8 := [0x68, 0x15, 0x04, 0x60, 0x2f, 0x1d, 0x15, 0x04, 0xa0, 0x00, 0x10, 0x2a, 0xb4, 0x00, 0xe5, 0x1b, 0x1c, 0x64, 0x04, 0x60, 0x2f, 0xa7, 0x00, 0x04]
def cX13_rootsOf_r3 : List UInt8 := cX13_rootsOf_w3 ++ cX13_rootsOf_r4
def cX13_rootsOf_w2 : List UInt8 := [0x15, 0x04, 0x1b, 0xa2, 0x00, 0x36, 0x2a, 0xb4, 0x00, 0xe2, 0x10, 0x10, 0x1d, 0x68, 0x15, 0x04, 0x60, 0x2a, 0xb4, 0x00, 0xdf, 0x10, 0x10, 0x1d]
def cX13_rootsOf_r2 : List UInt8 := cX13_rootsOf_w2 ++ cX13_rootsOf_r3
def cX13_rootsOf_w1 : List UInt8 := [0x1b, 0x0a, 0x50, 0x04, 0x3d, 0x1c, 0x1b, 0xa3, 0x00, 0x88, 0x2a, 0x1b, 0xb6, 0x02, 0x62, 0x03, 0x3e, 0x1d, 0x1b, 0xa2, 0x00, 0x45, 0x03, 0x36, 0x04]
def cX13_rootsOf_r1 : List UInt8 := cX13_rootsOf_w1 ++ cX13_rootsOf_r2
def cX13_rootsOf_w0 : List UInt8 := [0x03, 0x3d, 0x1c, 0x11, 0x01, 0x00, 0xa2, 0x00, 0x10, 0x2a, 0xb4, 0x00, 0xe2, 0x1c, 0x09, 0x50, 0x84, 0x02, 0x01, 0xa7, 0xff, 0xef, 0x2a, 0xb4, 0x00, 0xe5]
def cX13_rootsOf_r0 : List UInt8 := cX13_rootsOf_w0 ++ cX13_rootsOf_r1
theorem cX13_rootsOf_s0 : dw_S cX13_rootsOf 0 cX13_rootsOf_r0 := dw_S0 (by decide +kernel)
theorem cX13_rootsOf_s1 : dw_S cX13_rootsOf 26 cX13_rootsOf_r1 := dw_Sn (w := cX13_rootsOf_w0) (r := cX13_rootsOf_r1) cX13_rootsOf_s0 (by decide +kernel)
theorem cX13_rootsOf_k0 : dw_ok cX13_rootsOf (ByteArray.mk cX13_rootsOf_w0.toArray) 0 := dw_Sw (r := cX13_rootsOf_r1) cX13_rootsOf_s0
theorem cX13_rootsOf_s2 : dw_S cX13_rootsOf 51 cX13_rootsOf_r2 := dw_Sn (w := cX13_rootsOf_w1) (r := cX13_rootsOf_r2) cX13_rootsOf_s1 (by decide +kernel)
theorem cX13_rootsOf_k1 : dw_ok cX13_rootsOf (ByteArray.mk cX13_rootsOf_w1.toArray) 26 := dw_Sw (r := cX13_rootsOf_r2) cX13_rootsOf_s1
theorem cX13_rootsOf_s3 : dw_S cX13_rootsOf 75 cX13_rootsOf_r3 := dw_Sn (w := cX13_rootsOf_w2) (r := cX13_rootsOf_r3) cX13_rootsOf_s2 (by decide +kernel)
theorem cX13_rootsOf_k2 : dw_ok cX13_rootsOf (ByteArray.mk cX13_rootsOf_w2.toArray) 51 := dw_Sw (r := cX13_rootsOf_r3) cX13_rootsOf_s2
theorem cX13_rootsOf_s4 : dw_S cX13_rootsOf 99 cX13_rootsOf_r4 := dw_Sn (w := cX13_rootsOf_w3) (r := cX13_rootsOf_r4) cX13_rootsOf_s3 (by decide +kernel)
theorem cX13_rootsOf_k3 : dw_ok cX13_rootsOf (ByteArray.mk cX13_rootsOf_w3.toArray) 75 := dw_Sw (r := cX13_rootsOf_r4) cX13_rootsOf_s3
theorem cX13_rootsOf_s5 : dw_S cX13_rootsOf 124 cX13_rootsOf_r5 := dw_Sn (w := cX13_rootsOf_w4) (r := cX13_rootsOf_r5) cX13_rootsOf_s4 (by decide +kernel)
theorem cX13_rootsOf_k4 : dw_ok cX13_rootsOf (ByteArray.mk cX13_rootsOf_w4.toArray) 99 := dw_Sw (r := cX13_rootsOf_r5) cX13_rootsOf_s4
theorem cX13_rootsOf_s6 : dw_S cX13_rootsOf 149 cX13_rootsOf_r6 := dw_Sn (w := cX13_rootsOf_w5) (r := cX13_rootsOf_r6) cX13_rootsOf_s5 (by decide +kernel)
theorem cX13_rootsOf_k5 : dw_ok cX13_rootsOf (ByteArray.mk cX13_rootsOf_w5.toArray) 124 := dw_Sw (r := cX13_rootsOf_r6) cX13_rootsOf_s5
theorem cX13_rootsOf_s7 : dw_S cX13_rootsOf 175 cX13_rootsOf_r7 := dw_Sn (w := cX13_rootsOf_w6) (r := cX13_rootsOf_r7) cX13_rootsOf_s6 (by decide +kernel)
theorem cX13_rootsOf_k6 : dw_ok cX13_rootsOf (ByteArray.mk cX13_rootsOf_w6.toArray) 149 := dw_Sw (r := cX13_rootsOf_r7) cX13_rootsOf_s6
theorem cX13_rootsOf_k7 : dw_ok cX13_rootsOf (ByteArray.mk cX13_rootsOf_w7.toArray) 175 := dw_Sw (r := []) cX13_rootsOf_s7
def cX13_rowFrom_w10 : List UInt8 := [0xa7, 0xff, 0xd0, 0xa7, 0xff, 0x30, 0x2a, 0xb4, 0x00, 0x1d, 0x03, 0x2a, 0xb4, 0x00, 0x0f, 0x4f, 0xb1]
def cX13_rowFrom_r10 : List UInt8 := cX13_rowFrom_w10 ++ []
def cX13_rowFrom_w9 : List UInt8 := [0x36, 0x07, 0x2a, 0xb4, 0x00, 0x0b, 0x2b, 0xb4, 0x00, 0x12, 0x15, 0x07, 0x2e, 0x33, 0x9a, 0x00, 0x07, 0x15, 0x07, 0x36, 0x04, 0x84, 0x06, 0x01]
def cX13_rowFrom_r9 : List UInt8 := cX13_rowFrom_w9 ++ cX13_rowFrom_r10
def cX13_rowFrom_w8 : List UInt8 := [0x15, 0x06, 0x1d, 0xa3, 0x00, 0x30, 0x15, 0x04, 0x02, 0xa0, 0x00, 0x2a, 0x2b, 0xb4, 0x00, 0x29, 0x2a, 0xb4, 0x00, 0x1a, 0x15, 0x06, 0x2e, 0x2e]
def cX13_rowFrom_r8 : List UInt8 := cX13_rowFrom_w8 ++ cX13_rowFrom_r9
def cX13_rowFrom_w7 : List UInt8 := [0x59, 0xb4, 0x00, 0x0f, 0x04, 0x60, 0xb5, 0x00, 0x0f, 0x2a, 0xb4, 0x00, 0x1d, 0x2a, 0xb4, 0x00, 0x0f, 0x03, 0x4f, 0x02, 0x36, 0x04, 0x04, 0x36, 0x06]
def cX13_rowFrom_r7 : List UInt8 := cX13_rowFrom_w7 ++ cX13_rowFrom_r8
def cX13_rowFrom_w6 : List UInt8 := [0x04, 0xa7, 0x00, 0x04, 0x03, 0x60, 0x4f, 0x2b, 0xb4, 0x00, 0x26, 0x15, 0x05, 0x2e, 0x36, 0x05, 0x15, 0x05, 0x15, 0x04, 0xa0, 0xff, 0x97, 0x2a]
def cX13_rowFrom_r6 : List UInt8 := cX13_rowFrom_w6 ++ cX13_rowFrom_r7
def cX13_rowFrom_w5 : List UInt8 := [0x15, 0x06, 0x2e, 0x68, 0x05, 0x2b, 0xb4, 0x00, 0x20, 0x15, 0x05, 0x2e, 0x68, 0x60, 0x2b, 0xb4, 0x00, 0x23, 0x15, 0x06, 0x2e, 0x9c, 0x00, 0x07]
def cX13_rowFrom_r5 : List UInt8 := cX13_rowFrom_w5 ++ cX13_rowFrom_r6
def cX13_rowFrom_w4 : List UInt8 := [0x4f, 0x2a, 0x59, 0xb4, 0x00, 0x0f, 0x04, 0x60, 0xb5, 0x00, 0x0f, 0x2a, 0xb4, 0x00, 0x1d, 0x2a, 0xb4, 0x00, 0x0f, 0x07, 0x2a, 0xb4, 0x00, 0x07]
def cX13_rowFrom_r4 : List UInt8 := cX13_rowFrom_w4 ++ cX13_rowFrom_r5
def cX13_rowFrom_w3 : List UInt8 := [0x15, 0x06, 0x2e, 0x9a, 0x00, 0x16, 0x84, 0x03, 0x01, 0x2a, 0xb4, 0x00, 0x07, 0x15, 0x06, 0x1d, 0x4f, 0x2a, 0xb4, 0x00, 0x1a, 0x1d, 0x15, 0x05]
def cX13_rowFrom_r3 : List UInt8 := cX13_rowFrom_w3 ++ cX13_rowFrom_r4
def cX13_rowFrom_w2 : List UInt8 := [0xb4, 0x00, 0x12, 0x15, 0x04, 0x2e, 0x04, 0x54, 0x15, 0x04, 0x36, 0x05, 0x2b, 0xb4, 0x00, 0x17, 0x15, 0x05, 0x2e, 0x36, 0x06, 0x2a, 0xb4, 0x00, 0x07]
def cX13_rowFrom_r2 : List UInt8 := cX13_rowFrom_w2 ++ cX13_rowFrom_r3
def cX13_rowFrom_w1 : List UInt8 := [0xa7, 0xff, 0xe9, 0x2a, 0x03, 0xb5, 0x00, 0x0f, 0x03, 0x3e, 0x1c, 0x36, 0x04, 0x15, 0x04, 0x02, 0x9f, 0x00, 0xd0, 0x2a, 0xb4, 0x00, 0x0b, 0x2b]
def cX13_rowFrom_r1 : List UInt8 := cX13_rowFrom_w1 ++ cX13_rowFrom_r2
def cX13_rowFrom_w0 : List UInt8 := [0x03, 0x3e, 0x1d, 0x10, 0x28, 0xa2, 0x00, 0x17, 0x2a, 0xb4, 0x00, 0x07, 0x1d, 0x03, 0x4f, 0x2a, 0xb4, 0x00, 0x0b, 0x1d, 0x03, 0x54, 0x84, 0x03, 0x01]
def cX13_rowFrom_r0 : List UInt8 := cX13_rowFrom_w0 ++ cX13_rowFrom_r1
theorem cX13_rowFrom_s0 : dw_S cX13_rowFrom 0 cX13_rowFrom_r0 := dw_S0 (by decide +kernel)
theorem cX13_rowFrom_s1 : dw_S cX13_rowFrom 25 cX13_rowFrom_r1 := dw_Sn (w := cX13_rowFrom_w0) (r := cX13_rowFrom_r1) cX13_rowFrom_s0 (by decide +kernel)
theorem cX13_rowFrom_k0 : dw_ok cX13_rowFrom (ByteArray.mk cX13_rowFrom_w0.toArray) 0 := dw_Sw (r := cX13_rowFrom_r1) cX13_rowFrom_s0
theorem cX13_rowFrom_s2 : dw_S cX13_rowFrom 49 cX13_rowFrom_r2 := dw_Sn (w := cX13_rowFrom_w1) (r := cX13_rowFrom_r2) cX13_rowFrom_s1 (by decide +kernel)
theorem cX13_rowFrom_k1 : dw_ok cX13_rowFrom (ByteArray.mk cX13_rowFrom_w1.toArray) 25 := dw_Sw (r := cX13_rowFrom_r2) cX13_rowFrom_s1
theorem cX13_rowFrom_s3 : dw_S cX13_rowFrom 74 cX13_rowFrom_r3 := dw_Sn (w := cX13_rowFrom_w2) (r := cX13_rowFrom_r3) cX13_rowFrom_s2 (by decide +kernel)
theorem cX13_rowFrom_k2 : dw_ok cX13_rowFrom (ByteArray.mk cX13_rowFrom_w2.toArray) 49 := dw_Sw (r := cX13_rowFrom_r3) cX13_rowFrom_s2
theorem cX13_rowFrom_s4 : dw_S cX13_rowFrom 98 cX13_rowFrom_r4 := dw_Sn (w := cX13_rowFrom_w3) (r := cX13_rowFrom_r4) cX13_rowFrom_s3 (by decide +kernel)
theorem cX13_rowFrom_k3 : dw_ok cX13_rowFrom (ByteArray.mk cX13_rowFrom_w3.toArray) 74 := dw_Sw (r := cX13_rowFrom_r4) cX13_rowFrom_s3
theorem cX13_rowFrom_s5 : dw_S cX13_rowFrom 122 cX13_rowFrom_r5 := dw_Sn (w := cX13_rowFrom_w4) (r := cX13_rowFrom_r5) cX13_rowFrom_s4 (by decide +kernel)
theorem cX13_rowFrom_k4 : dw_ok cX13_rowFrom (ByteArray.mk cX13_rowFrom_w4.toArray) 98 := dw_Sw (r := cX13_rowFrom_r5) cX13_rowFrom_s4
theorem cX13_rowFrom_s6 : dw_S cX13_rowFrom 146 cX13_rowFrom_r6 := dw_Sn (w := cX13_rowFrom_w5) (r := cX13_rowFrom_r6) cX13_rowFrom_s5 (by decide +kernel)
theorem cX13_rowFrom_k5 : dw_ok cX13_rowFrom (ByteArray.mk cX13_rowFrom_w5.toArray) 122 := dw_Sw (r := cX13_rowFrom_r6) cX13_rowFrom_s5
theorem cX13_rowFrom_s7 : dw_S cX13_rowFrom 170 cX13_rowFrom_r7 := dw_Sn (w := cX13_rowFrom_w6) (r := cX13_rowFrom_r7) cX13_rowFrom_s6 (by decide +kernel)
theorem cX13_rowFrom_k6 : dw_ok cX13_rowFrom (ByteArray.mk cX13_rowFrom_w6.toArray) 146 := dw_Sw (r := cX13_rowFrom_r7) cX13_rowFrom_s6
theorem cX13_rowFrom_s8 : dw_S cX13_rowFrom 195 cX13_rowFrom_r8 := dw_Sn (w := cX13_rowFrom_w7) (r := cX13_rowFrom_r8) cX13_rowFrom_s7 (by decide +kernel)
theorem cX13_rowFrom_k7 : dw_ok cX13_rowFrom (ByteArray.mk cX13_rowFrom_w7.toArray) 170 := dw_Sw (r := cX13_rowFrom_r8) cX13_rowFrom_s7
theorem cX13_rowFrom_s9 : dw_S cX13_rowFrom 219 cX13_rowFrom_r9 := dw_Sn (w := cX13_rowFrom_w8) (r := cX13_rowFrom_r9) cX13_rowFrom_s8 (by decide +kernel)
theorem cX13_rowFrom_k8 : dw_ok cX13_rowFrom (ByteArray.mk cX13_rowFrom_w8.toArray) 195 := dw_Sw (r := cX13_rowFrom_r9) cX13_rowFrom_s8
theorem cX13_rowFrom_s10 : dw_S cX13_rowFrom 243 cX13_rowFrom_r10 := dw_Sn (w := cX13_rowFrom_w9) (r := cX13_rowFrom_r10) cX13_rowFrom_s9 (by decide +kernel)
theorem cX13_rowFrom_k9 : dw_ok cX13_rowFrom (ByteArray.mk cX13_rowFrom_w9.toArray) 219 := dw_Sw (r := cX13_rowFrom_r10) cX13_rowFrom_s9
theorem cX13_rowFrom_k10 : dw_ok cX13_rowFrom (ByteArray.mk cX13_rowFrom_w10.toArray) 243 := dw_Sw (r := []) cX13_rowFrom_s10
def cX13_run_w4 : List UInt8 := [0x15, 0x04, 0x15, 0x05, 0x9e, 0x00, 0x07, 0x04, 0xa7, 0x00, 0x04, 0x02, 0x4f, 0x05, 0x15, 0x06, 0x68, 0x04, 0x60, 0x1d, 0x64, 0x3e, 0x84, 0x04, 0x01, 0xa7, 0xff, 0x8a, 0x1d, 0xac]
def cX13_run_r4 : List UInt8 := cX13_run_w4 ++ []
def cX13_run_w3 : List UInt8 := [0x9e, 0x00, 0x07, 0x04, 0xa7, 0x00, 0x04, 0x03, 0xa0, 0x00, 0x07, 0x03, 0xa7, 0x00, 0x04, 0x04, 0xb6, 0x00, 0x61, 0x2a, 0xb4, 0x00, 0x79, 0xb4, 0x00, 0x23]
def cX13_run_r3 : List UInt8 := cX13_run_w3 ++ cX13_run_r4
def cX13_run_w2 : List UInt8 := [0x04, 0x60, 0xa0, 0x00, 0x46, 0x2a, 0xb4, 0x00, 0x79, 0x15, 0x04, 0x1d, 0x15, 0x06, 0xa0, 0x00, 0x07, 0x04, 0xa7, 0x00, 0x04, 0x03, 0x15, 0x05]
def cX13_run_r2 : List UInt8 := cX13_run_w2 ++ cX13_run_r3
def cX13_run_w1 : List UInt8 := [0x15, 0x04, 0x60, 0x2e, 0x36, 0x05, 0x15, 0x05, 0xb8, 0x02, 0xde, 0x04, 0x64, 0x36, 0x06, 0x1d, 0x15, 0x06, 0x9f, 0x00, 0x0b, 0x1d, 0x15, 0x06]
def cX13_run_r1 : List UInt8 := cX13_run_w1 ++ cX13_run_r2
def cX13_run_w0 : List UInt8 := [0x1c, 0x3e, 0x03, 0x36, 0x04, 0x15, 0x04, 0x2a, 0xb4, 0x01, 0x43, 0x1b, 0x2e, 0xa2, 0x00, 0x71, 0x2a, 0xb4, 0x01, 0x40, 0x10, 0x10, 0x1b, 0x68]
def cX13_run_r0 : List UInt8 := cX13_run_w0 ++ cX13_run_r1
theorem cX13_run_s0 : dw_S cX13_run 0 cX13_run_r0 := dw_S0 (by decide +kernel)
theorem cX13_run_s1 : dw_S cX13_run 24 cX13_run_r1 := dw_Sn (w := cX13_run_w0) (r := cX13_run_r1) cX13_run_s0 (by decide +kernel)
theorem cX13_run_k0 : dw_ok cX13_run (ByteArray.mk cX13_run_w0.toArray) 0 := dw_Sw (r := cX13_run_r1) cX13_run_s0
theorem cX13_run_s2 : dw_S cX13_run 48 cX13_run_r2 := dw_Sn (w := cX13_run_w1) (r := cX13_run_r2) cX13_run_s1 (by decide +kernel)
theorem cX13_run_k1 : dw_ok cX13_run (ByteArray.mk cX13_run_w1.toArray) 24 := dw_Sw (r := cX13_run_r2) cX13_run_s1
theorem cX13_run_s3 : dw_S cX13_run 72 cX13_run_r3 := dw_Sn (w := cX13_run_w2) (r := cX13_run_r3) cX13_run_s2 (by decide +kernel)
theorem cX13_run_k2 : dw_ok cX13_run (ByteArray.mk cX13_run_w2.toArray) 48 := dw_Sw (r := cX13_run_r3) cX13_run_s2
theorem cX13_run_s4 : dw_S cX13_run 98 cX13_run_r4 := dw_Sn (w := cX13_run_w3) (r := cX13_run_r4) cX13_run_s3 (by decide +kernel)
theorem cX13_run_k3 : dw_ok cX13_run (ByteArray.mk cX13_run_w3.toArray) 72 := dw_Sw (r := cX13_run_r4) cX13_run_s3
theorem cX13_run_k4 : dw_ok cX13_run (ByteArray.mk cX13_run_w4.toArray) 98 := dw_Sw (r := []) cX13_run_s4
def cX13_signature_w5 : List UInt8 := [0x2a, 0x2a, 0xb4, 0x00, 0x72, 0x15, 0x04, 0xb6, 0x02, 0x6f, 0x60, 0x3d, 0x84, 0x03, 0x01, 0xa7, 0xff, 0xa3, 0x1c, 0xac]
def cX13_signature_r5 : List UInt8 := cX13_signature_w5 ++ []
def cX13_signature_w4 : List UInt8 := [0xa7, 0x00, 0x05, 0x15, 0x04, 0x36, 0x04, 0x84, 0x05, 0xff, 0xa7, 0xff, 0xd9, 0x1c, 0x15, 0x04, 0x02, 0xa0, 0x00, 0x07, 0x03, 0xa7, 0x00, 0x0d]
def cX13_signature_r4 : List UInt8 := cX13_signature_w4 ++ cX13_signature_r5
def cX13_signature_w3 : List UInt8 := [0x2a, 0xb4, 0x00, 0x72, 0xb4, 0x00, 0x2f, 0x2a, 0xb4, 0x00, 0x72, 0xb4, 0x00, 0x12, 0x15, 0x05, 0x2e, 0x2e, 0x1d, 0xa0, 0x00, 0x08, 0x15, 0x05]
def cX13_signature_r3 : List UInt8 := cX13_signature_w3 ++ cX13_signature_r4
def cX13_signature_w2 : List UInt8 := [0xb4, 0x00, 0x4e, 0xa2, 0x00, 0x58, 0x02, 0x36, 0x04, 0x2a, 0xb4, 0x00, 0x72, 0xb4, 0x00, 0x2c, 0x04, 0x64, 0x36, 0x05, 0x15, 0x05, 0x9b, 0x00, 0x28]
def cX13_signature_r2 : List UInt8 := cX13_signature_w2 ++ cX13_signature_r3
def cX13_signature_w1 : List UInt8 := [0xb6, 0x01, 0xb2, 0x2a, 0xb4, 0x00, 0x72, 0xb6, 0x00, 0x4b, 0x2a, 0xb4, 0x00, 0x72, 0xb6, 0x02, 0x04, 0x03, 0x3d, 0x03, 0x3e, 0x1d, 0x2a, 0xb4, 0x00, 0x72]
def cX13_signature_r1 : List UInt8 := cX13_signature_w1 ++ cX13_signature_r2
def cX13_signature_w0 : List UInt8 := [0x2a, 0x03, 0xb5, 0x00, 0x01, 0x2a, 0x1b, 0xb6, 0x01, 0xa7, 0x9a, 0x00, 0x09, 0x2a, 0x04, 0xb6, 0x01, 0x93, 0xac, 0x2a, 0x1b, 0x2a, 0xb4, 0x00, 0x72]
def cX13_signature_r0 : List UInt8 := cX13_signature_w0 ++ cX13_signature_r1
theorem cX13_signature_s0 : dw_S cX13_signature 0 cX13_signature_r0 := dw_S0 (by decide +kernel)
theorem cX13_signature_s1 : dw_S cX13_signature 25 cX13_signature_r1 := dw_Sn (w := cX13_signature_w0) (r := cX13_signature_r1) cX13_signature_s0 (by decide +kernel)
theorem cX13_signature_k0 : dw_ok cX13_signature (ByteArray.mk cX13_signature_w0.toArray) 0 := dw_Sw (r := cX13_signature_r1) cX13_signature_s0
theorem cX13_signature_s2 : dw_S cX13_signature 51 cX13_signature_r2 := dw_Sn (w := cX13_signature_w1) (r := cX13_signature_r2) cX13_signature_s1 (by decide +kernel)
theorem cX13_signature_k1 : dw_ok cX13_signature (ByteArray.mk cX13_signature_w1.toArray) 25 := dw_Sw (r := cX13_signature_r2) cX13_signature_s1
theorem cX13_signature_s3 : dw_S cX13_signature 76 cX13_signature_r3 := dw_Sn (w := cX13_signature_w2) (r := cX13_signature_r3) cX13_signature_s2 (by decide +kernel)
theorem cX13_signature_k2 : dw_ok cX13_signature (ByteArray.mk cX13_signature_w2.toArray) 51 := dw_Sw (r := cX13_signature_r3) cX13_signature_s2
theorem cX13_signature_s4 : dw_S cX13_signature 100 cX13_signature_r4 := dw_Sn (w := cX13_signature_w3) (r := cX13_signature_r4) cX13_signature_s3 (by decide +kernel)
theorem cX13_signature_k3 : dw_ok cX13_signature (ByteArray.mk cX13_signature_w3.toArray) 76 := dw_Sw (r := cX13_signature_r4) cX13_signature_s3
theorem cX13_signature_s5 : dw_S cX13_signature 124 cX13_signature_r5 := dw_Sn (w := cX13_signature_w4) (r := cX13_signature_r5) cX13_signature_s4 (by decide +kernel)
theorem cX13_signature_k4 : dw_ok cX13_signature (ByteArray.mk cX13_signature_w4.toArray) 100 := dw_Sw (r := cX13_signature_r5) cX13_signature_s4
theorem cX13_signature_k5 : dw_ok cX13_signature (ByteArray.mk cX13_signature_w5.toArray) 124 := dw_Sw (r := []) cX13_signature_s5
def cX13_signatureOf_w15 : List UInt8 := [0x15, 0x04, 0x04, 0x64, 0xb6, 0x02, 0x5f, 0x15, 0x05, 0x64, 0xac]
def cX13_signatureOf_r15 : List UInt8 := cX13_signatureOf_w15 ++ []
def cX13_signatureOf_w14 : List UInt8 := [0x03, 0xa7, 0x00, 0x0d, 0x15, 0x07, 0x99, 0x00, 0x07, 0x04, 0xa7, 0x00, 0x04, 0x02, 0x60, 0x36, 0x05, 0x84, 0x06, 0x01, 0xa7, 0xfe, 0xc6, 0x2a]
def cX13_signatureOf_r14 : List UInt8 := cX13_signatureOf_w14 ++ cX13_signatureOf_r15
def cX13_signatureOf_w13 : List UInt8 := [0x2a, 0xb4, 0x00, 0xdc, 0x10, 0x10, 0x15, 0x11, 0x68, 0x15, 0x10, 0x60, 0x5c, 0x2f, 0x15, 0x0f, 0x85, 0x65, 0x50, 0x15, 0x05, 0x15, 0x0e, 0x99, 0x00, 0x07]
def cX13_signatureOf_r13 : List UInt8 := cX13_signatureOf_w13 ++ cX13_signatureOf_r14
def cX13_signatureOf_w12 : List UInt8 := [0x15, 0x0f, 0x85, 0x61, 0x50, 0x2a, 0xb4, 0x00, 0xdc, 0x10, 0x10, 0x15, 0x10, 0x68, 0x15, 0x11, 0x60, 0x5c, 0x2f, 0x15, 0x0f, 0x85, 0x65, 0x50]
def cX13_signatureOf_r12 : List UInt8 := cX13_signatureOf_w12 ++ cX13_signatureOf_r13
def cX13_signatureOf_w11 : List UInt8 := [0x15, 0x10, 0x60, 0x5c, 0x2f, 0x15, 0x0f, 0x85, 0x61, 0x50, 0x2a, 0xb4, 0x00, 0xdc, 0x10, 0x10, 0x15, 0x11, 0x68, 0x15, 0x11, 0x60, 0x5c, 0x2f]
def cX13_signatureOf_r11 : List UInt8 := cX13_signatureOf_w11 ++ cX13_signatureOf_r12
def cX13_signatureOf_w10 : List UInt8 := [0x15, 0x0e, 0x99, 0x00, 0x08, 0x15, 0x0d, 0xa7, 0x00, 0x05, 0x15, 0x0c, 0x2e, 0x36, 0x11, 0x2a, 0xb4, 0x00, 0xdc, 0x10, 0x10, 0x15, 0x10, 0x68]
def cX13_signatureOf_r10 : List UInt8 := cX13_signatureOf_w10 ++ cX13_signatureOf_r11
def cX13_signatureOf_w9 : List UInt8 := [0x04, 0x36, 0x0f, 0x2a, 0xb4, 0x00, 0xd9, 0x15, 0x0e, 0x99, 0x00, 0x08, 0x15, 0x0a, 0xa7, 0x00, 0x05, 0x15, 0x0b, 0x2e, 0x36, 0x10, 0x2a, 0xb4, 0x00, 0xd9]
def cX13_signatureOf_r9 : List UInt8 := cX13_signatureOf_w9 ++ cX13_signatureOf_r10
def cX13_signatureOf_w8 : List UInt8 := [0x15, 0x0a, 0x2e, 0x04, 0xa0, 0x00, 0x07, 0x04, 0xa7, 0x00, 0x04, 0x03, 0x36, 0x0e, 0x15, 0x07, 0x15, 0x0e, 0xa0, 0x00, 0x07, 0x02, 0xa7, 0x00, 0x04]
def cX13_signatureOf_r8 : List UInt8 := cX13_signatureOf_w8 ++ cX13_signatureOf_r9
def cX13_signatureOf_w7 : List UInt8 := [0x2e, 0x68, 0x2e, 0x36, 0x0c, 0x2b, 0xb4, 0x02, 0x0d, 0x05, 0x2b, 0xb4, 0x02, 0x45, 0x15, 0x09, 0x2e, 0x68, 0x2e, 0x36, 0x0d, 0x2a, 0xb4, 0x00, 0xd6]
def cX13_signatureOf_r7 : List UInt8 := cX13_signatureOf_w7 ++ cX13_signatureOf_r8
def cX13_signatureOf_w6 : List UInt8 := [0x2b, 0xb4, 0x02, 0x0d, 0x05, 0x15, 0x08, 0x68, 0x04, 0x60, 0x2e, 0x36, 0x0b, 0x2b, 0xb4, 0x02, 0x0d, 0x05, 0x2b, 0xb4, 0x02, 0x45, 0x15, 0x08]
def cX13_signatureOf_r6 : List UInt8 := cX13_signatureOf_w6 ++ cX13_signatureOf_r7
def cX13_signatureOf_w5 : List UInt8 := [0x15, 0x06, 0x2e, 0x36, 0x08, 0x2b, 0xb4, 0x00, 0x29, 0x15, 0x08, 0x2e, 0x36, 0x09, 0x2b, 0xb4, 0x02, 0x0d, 0x05, 0x15, 0x08, 0x68, 0x2e, 0x36, 0x0a]
def cX13_signatureOf_r5 : List UInt8 := cX13_signatureOf_w5 ++ cX13_signatureOf_r6
def cX13_signatureOf_w4 : List UInt8 := [0x9e, 0x00, 0x07, 0x04, 0xa7, 0x00, 0x04, 0x03, 0x36, 0x07, 0x15, 0x07, 0x99, 0x00, 0x08, 0x15, 0x06, 0xa7, 0x00, 0x0a, 0x2b, 0xb4, 0x00, 0x29]
def cX13_signatureOf_r4 : List UInt8 := cX13_signatureOf_w4 ++ cX13_signatureOf_r5
def cX13_signatureOf_w3 : List UInt8 := [0x2b, 0xb4, 0x00, 0x12, 0x15, 0x06, 0x2e, 0x2e, 0x1d, 0xa0, 0x01, 0x17, 0x2b, 0xb4, 0x00, 0x23, 0x2b, 0xb4, 0x00, 0x17, 0x15, 0x06, 0x2e, 0x2e]
def cX13_signatureOf_r3 : List UInt8 := cX13_signatureOf_w3 ++ cX13_signatureOf_r4
def cX13_signatureOf_w2 : List UInt8 := [0x36, 0x06, 0x15, 0x06, 0x2b, 0xb4, 0x00, 0x2c, 0xa2, 0x01, 0x37, 0x2b, 0xb4, 0x00, 0x20, 0x15, 0x06, 0x2e, 0x9a, 0x01, 0x27, 0x2b, 0xb4, 0x00, 0x2f]
def cX13_signatureOf_r2 : List UInt8 := cX13_signatureOf_w2 ++ cX13_signatureOf_r3
def cX13_signatureOf_w1 : List UInt8 := [0x11, 0x01, 0x00, 0xa2, 0x00, 0x11, 0x2a, 0xb4, 0x00, 0xdc, 0x15, 0x05, 0x09, 0x50, 0x84, 0x05, 0x01, 0xa7, 0xff, 0xed, 0x03, 0x36, 0x05, 0x03]
def cX13_signatureOf_r1 : List UInt8 := cX13_signatureOf_w1 ++ cX13_signatureOf_r2
def cX13_signatureOf_w0 : List UInt8 := [0x2b, 0xb4, 0x00, 0x2f, 0x2b, 0xb4, 0x00, 0x12, 0x1c, 0x2e, 0x2e, 0x3e, 0x2a, 0x2b, 0x1c, 0xb6, 0x02, 0x5b, 0x36, 0x04, 0x03, 0x36, 0x05, 0x15, 0x05]
def cX13_signatureOf_r0 : List UInt8 := cX13_signatureOf_w0 ++ cX13_signatureOf_r1
theorem cX13_signatureOf_s0 : dw_S cX13_signatureOf 0 cX13_signatureOf_r0 := dw_S0 (by decide +kernel)
theorem cX13_signatureOf_s1 : dw_S cX13_signatureOf 25 cX13_signatureOf_r1 := dw_Sn (w := cX13_signatureOf_w0) (r := cX13_signatureOf_r1) cX13_signatureOf_s0 (by decide +kernel)
theorem cX13_signatureOf_k0 : dw_ok cX13_signatureOf (ByteArray.mk cX13_signatureOf_w0.toArray) 0 := dw_Sw (r := cX13_signatureOf_r1) cX13_signatureOf_s0
theorem cX13_signatureOf_s2 : dw_S cX13_signatureOf 49 cX13_signatureOf_r2 := dw_Sn (w := cX13_signatureOf_w1) (r := cX13_signatureOf_r2) cX13_signatureOf_s1 (by decide +kernel)
theorem cX13_signatureOf_k1 : dw_ok cX13_signatureOf (ByteArray.mk cX13_signatureOf_w1.toArray) 25 := dw_Sw (r := cX13_signatureOf_r2) cX13_signatureOf_s1
theorem cX13_signatureOf_s3 : dw_S cX13_signatureOf 74 cX13_signatureOf_r3 := dw_Sn (w := cX13_signatureOf_w2) (r := cX13_signatureOf_r3) cX13_signatureOf_s2 (by decide +kernel)
theorem cX13_signatureOf_k2 : dw_ok cX13_signatureOf (ByteArray.mk cX13_signatureOf_w2.toArray) 49 := dw_Sw (r := cX13_signatureOf_r3) cX13_signatureOf_s2
theorem cX13_signatureOf_s4 : dw_S cX13_signatureOf 98 cX13_signatureOf_r4 := dw_Sn (w := cX13_signatureOf_w3) (r := cX13_signatureOf_r4) cX13_signatureOf_s3 (by decide +kernel)
theorem cX13_signatureOf_k3 : dw_ok cX13_signatureOf (ByteArray.mk cX13_signatureOf_w3.toArray) 74 := dw_Sw (r := cX13_signatureOf_r4) cX13_signatureOf_s3
theorem cX13_signatureOf_s5 : dw_S cX13_signatureOf 122 cX13_signatureOf_r5 := dw_Sn (w := cX13_signatureOf_w4) (r := cX13_signatureOf_r5) cX13_signatureOf_s4 (by decide +kernel)
theorem cX13_signatureOf_k4 : dw_ok cX13_signatureOf (ByteArray.mk cX13_signatureOf_w4.toArray) 98 := dw_Sw (r := cX13_signatureOf_r5) cX13_signatureOf_s4
theorem cX13_signatureOf_s6 : dw_S cX13_signatureOf 147 cX13_signatureOf_r6 := dw_Sn (w := cX13_signatureOf_w5) (r := cX13_signatureOf_r6) cX13_signatureOf_s5 (by decide +kernel)
theorem cX13_signatureOf_k5 : dw_ok cX13_signatureOf (ByteArray.mk cX13_signatureOf_w5.toArray) 122 := dw_Sw (r := cX13_signatureOf_r6) cX13_signatureOf_s5
theorem cX13_signatureOf_s7 : dw_S cX13_signatureOf 171 cX13_signatureOf_r7 := dw_Sn (w := cX13_signatureOf_w6) (r := cX13_signatureOf_r7) cX13_signatureOf_s6 (by decide +kernel)
theorem cX13_signatureOf_k6 : dw_ok cX13_signatureOf (ByteArray.mk cX13_signatureOf_w6.toArray) 147 := dw_Sw (r := cX13_signatureOf_r7) cX13_signatureOf_s6
theorem cX13_signatureOf_s8 : dw_S cX13_signatureOf 196 cX13_signatureOf_r8 := dw_Sn (w := cX13_signatureOf_w7) (r := cX13_signatureOf_r8) cX13_signatureOf_s7 (by decide +kernel)
theorem cX13_signatureOf_k7 : dw_ok cX13_signatureOf (ByteArray.mk cX13_signatureOf_w7.toArray) 171 := dw_Sw (r := cX13_signatureOf_r8) cX13_signatureOf_s7
theorem cX13_signatureOf_s9 : dw_S cX13_signatureOf 221 cX13_signatureOf_r9 := dw_Sn (w := cX13_signatureOf_w8) (r := cX13_signatureOf_r9) cX13_signatureOf_s8 (by decide +kernel)
theorem cX13_signatureOf_k8 : dw_ok cX13_signatureOf (ByteArray.mk cX13_signatureOf_w8.toArray) 196 := dw_Sw (r := cX13_signatureOf_r9) cX13_signatureOf_s8
theorem cX13_signatureOf_s10 : dw_S cX13_signatureOf 247 cX13_signatureOf_r10 := dw_Sn (w := cX13_signatureOf_w9) (r := cX13_signatureOf_r10) cX13_signatureOf_s9 (by decide +kernel)
theorem cX13_signatureOf_k9 : dw_ok cX13_signatureOf (ByteArray.mk cX13_signatureOf_w9.toArray) 221 := dw_Sw (r := cX13_signatureOf_r10) cX13_signatureOf_s9
theorem cX13_signatureOf_s11 : dw_S cX13_signatureOf 271 cX13_signatureOf_r11 := dw_Sn (w := cX13_signatureOf_w10) (r := cX13_signatureOf_r11) cX13_signatureOf_s10 (by decide +kernel)
theorem cX13_signatureOf_k10 : dw_ok cX13_signatureOf (ByteArray.mk cX13_signatureOf_w10.toArray) 247 := dw_Sw (r := cX13_signatureOf_r11) cX13_signatureOf_s10
theorem cX13_signatureOf_s12 : dw_S cX13_signatureOf 295 cX13_signatureOf_r12 := dw_Sn (w := cX13_signatureOf_w11) (r := cX13_signatureOf_r12) cX13_signatureOf_s11 (by decide +kernel)
theorem cX13_signatureOf_k11 : dw_ok cX13_signatureOf (ByteArray.mk cX13_signatureOf_w11.toArray) 271 := dw_Sw (r := cX13_signatureOf_r12) cX13_signatureOf_s11
theorem cX13_signatureOf_s13 : dw_S cX13_signatureOf 319 cX13_signatureOf_r13 := dw_Sn (w := cX13_signatureOf_w12) (r := cX13_signatureOf_r13) cX13_signatureOf_s12 (by decide +kernel)
theorem cX13_signatureOf_k12 : dw_ok cX13_signatureOf (ByteArray.mk cX13_signatureOf_w12.toArray) 295 := dw_Sw (r := cX13_signatureOf_r13) cX13_signatureOf_s12
theorem cX13_signatureOf_s14 : dw_S cX13_signatureOf 345 cX13_signatureOf_r14 := dw_Sn (w := cX13_signatureOf_w13) (r := cX13_signatureOf_r14) cX13_signatureOf_s13 (by decide +kernel)
theorem cX13_signatureOf_k13 : dw_ok cX13_signatureOf (ByteArray.mk cX13_signatureOf_w13.toArray) 319 := dw_Sw (r := cX13_signatureOf_r14) cX13_signatureOf_s13
theorem cX13_signatureOf_s15 : dw_S cX13_signatureOf 369 cX13_signatureOf_r15 := dw_Sn (w := cX13_signatureOf_w14) (r := cX13_signatureOf_r15) cX13_signatureOf_s14 (by decide +kernel)
theorem cX13_signatureOf_k14 : dw_ok cX13_signatureOf (ByteArray.mk cX13_signatureOf_w14.toArray) 345 := dw_Sw (r := cX13_signatureOf_r15) cX13_signatureOf_s14
theorem cX13_signatureOf_k15 : dw_ok cX13_signatureOf (ByteArray.mk cX13_signatureOf_w15.toArray) 369 := dw_Sw (r := []) cX13_signatureOf_s15
def cX13_simplify_w8 : List UInt8 := [0x10, 0x20, 0x1c, 0x68, 0xb6, 0x02, 0x22, 0xac]
def cX13_simplify_r8 : List UInt8 := cX13_simplify_w8 ++ []
def cX13_simplify_w7 : List UInt8 := [0x84, 0x03, 0x01, 0xa7, 0xff, 0xa4, 0x2a, 0xb4, 0x01, 0xe2, 0x11, 0x01, 0x2c, 0xa4, 0x00, 0x08, 0x10, 0xfe, 0xa7, 0x00, 0x0f, 0x2a, 0x2a, 0xb4, 0x00, 0x92]
def cX13_simplify_r7 : List UInt8 := cX13_simplify_w7 ++ cX13_simplify_r8
def cX13_simplify_w6 : List UInt8 := [0xb8, 0x01, 0xae, 0x2a, 0xb4, 0x00, 0x72, 0xb6, 0x00, 0x47, 0x2a, 0x2a, 0xb4, 0x00, 0x72, 0x15, 0x04, 0xb6, 0x02, 0x1f, 0x84, 0x04, 0x02, 0xa7, 0xff, 0xd7]
def cX13_simplify_r6 : List UInt8 := cX13_simplify_w6 ++ cX13_simplify_r7
def cX13_simplify_w5 : List UInt8 := [0x99, 0x00, 0x05, 0x1d, 0x3d, 0x03, 0x36, 0x04, 0x15, 0x04, 0x08, 0xa2, 0x00, 0x29, 0x2a, 0xb4, 0x00, 0x92, 0x10, 0x20, 0x1d, 0x68, 0x2a, 0xb4, 0x00, 0x72]
def cX13_simplify_r5 : List UInt8 := cX13_simplify_w5 ++ cX13_simplify_r6
def cX13_simplify_w4 : List UInt8 := [0x11, 0x01, 0x2c, 0xa3, 0x00, 0x50, 0x2a, 0xb4, 0x00, 0x92, 0x10, 0x20, 0x1d, 0x68, 0x2a, 0xb4, 0x00, 0x92, 0x10, 0x20, 0x1c, 0x68, 0xb8, 0x01, 0xe8]
def cX13_simplify_r4 : List UInt8 := cX13_simplify_w4 ++ cX13_simplify_r5
def cX13_simplify_w3 : List UInt8 := [0x04, 0xb5, 0x01, 0xe2, 0x2a, 0x06, 0xb5, 0x01, 0xd1, 0x03, 0x3d, 0x03, 0x3e, 0x1d, 0x2a, 0xb4, 0x01, 0xe2, 0xa2, 0x00, 0x5a, 0x2a, 0xb4, 0x01, 0xe2]
def cX13_simplify_r3 : List UInt8 := cX13_simplify_w3 ++ cX13_simplify_r4
def cX13_simplify_w2 : List UInt8 := [0x2a, 0xb4, 0x00, 0x92, 0x1c, 0x2a, 0xb4, 0x00, 0x6e, 0x10, 0x20, 0x1b, 0x68, 0x1c, 0x60, 0x2e, 0x4f, 0x84, 0x02, 0x01, 0xa7, 0xff, 0xdf, 0x2a]
def cX13_simplify_r2 : List UInt8 := cX13_simplify_w2 ++ cX13_simplify_r3
def cX13_simplify_w1 : List UInt8 := [0xa0, 0x00, 0x09, 0x2a, 0x05, 0xb6, 0x01, 0x93, 0xac, 0x03, 0x3d, 0x1c, 0x2a, 0xb4, 0x00, 0x6e, 0x10, 0x20, 0x1b, 0x68, 0x2e, 0xa3, 0x00, 0x1a]
def cX13_simplify_r1 : List UInt8 := cX13_simplify_w1 ++ cX13_simplify_r2
def cX13_simplify_w0 : List UInt8 := [0x2a, 0x03, 0xb5, 0x00, 0x01, 0x2a, 0x1b, 0xb6, 0x01, 0xa7, 0x9a, 0x00, 0x09, 0x2a, 0x04, 0xb6, 0x01, 0x93, 0xac, 0x2a, 0xb6, 0x01, 0x88, 0x02]
def cX13_simplify_r0 : List UInt8 := cX13_simplify_w0 ++ cX13_simplify_r1
theorem cX13_simplify_s0 : dw_S cX13_simplify 0 cX13_simplify_r0 := dw_S0 (by decide +kernel)
theorem cX13_simplify_s1 : dw_S cX13_simplify 24 cX13_simplify_r1 := dw_Sn (w := cX13_simplify_w0) (r := cX13_simplify_r1) cX13_simplify_s0 (by decide +kernel)
theorem cX13_simplify_k0 : dw_ok cX13_simplify (ByteArray.mk cX13_simplify_w0.toArray) 0 := dw_Sw (r := cX13_simplify_r1) cX13_simplify_s0
theorem cX13_simplify_s2 : dw_S cX13_simplify 48 cX13_simplify_r2 := dw_Sn (w := cX13_simplify_w1) (r := cX13_simplify_r2) cX13_simplify_s1 (by decide +kernel)
theorem cX13_simplify_k1 : dw_ok cX13_simplify (ByteArray.mk cX13_simplify_w1.toArray) 24 := dw_Sw (r := cX13_simplify_r2) cX13_simplify_s1
theorem cX13_simplify_s3 : dw_S cX13_simplify 72 cX13_simplify_r3 := dw_Sn (w := cX13_simplify_w2) (r := cX13_simplify_r3) cX13_simplify_s2 (by decide +kernel)
theorem cX13_simplify_k2 : dw_ok cX13_simplify (ByteArray.mk cX13_simplify_w2.toArray) 48 := dw_Sw (r := cX13_simplify_r3) cX13_simplify_s2
theorem cX13_simplify_s4 : dw_S cX13_simplify 97 cX13_simplify_r4 := dw_Sn (w := cX13_simplify_w3) (r := cX13_simplify_r4) cX13_simplify_s3 (by decide +kernel)
theorem cX13_simplify_k3 : dw_ok cX13_simplify (ByteArray.mk cX13_simplify_w3.toArray) 72 := dw_Sw (r := cX13_simplify_r4) cX13_simplify_s3
theorem cX13_simplify_s5 : dw_S cX13_simplify 122 cX13_simplify_r5 := dw_Sn (w := cX13_simplify_w4) (r := cX13_simplify_r5) cX13_simplify_s4 (by decide +kernel)
theorem cX13_simplify_k4 : dw_ok cX13_simplify (ByteArray.mk cX13_simplify_w4.toArray) 97 := dw_Sw (r := cX13_simplify_r5) cX13_simplify_s4
theorem cX13_simplify_s6 : dw_S cX13_simplify 148 cX13_simplify_r6 := dw_Sn (w := cX13_simplify_w5) (r := cX13_simplify_r6) cX13_simplify_s5 (by decide +kernel)
theorem cX13_simplify_k5 : dw_ok cX13_simplify (ByteArray.mk cX13_simplify_w5.toArray) 122 := dw_Sw (r := cX13_simplify_r6) cX13_simplify_s5
theorem cX13_simplify_s7 : dw_S cX13_simplify 174 cX13_simplify_r7 := dw_Sn (w := cX13_simplify_w6) (r := cX13_simplify_r7) cX13_simplify_s6 (by decide +kernel)
theorem cX13_simplify_k6 : dw_ok cX13_simplify (ByteArray.mk cX13_simplify_w6.toArray) 148 := dw_Sw (r := cX13_simplify_r7) cX13_simplify_s6
theorem cX13_simplify_s8 : dw_S cX13_simplify 200 cX13_simplify_r8 := dw_Sn (w := cX13_simplify_w7) (r := cX13_simplify_r8) cX13_simplify_s7 (by decide +kernel)
theorem cX13_simplify_k7 : dw_ok cX13_simplify (ByteArray.mk cX13_simplify_w7.toArray) 174 := dw_Sw (r := cX13_simplify_r8) cX13_simplify_s7
theorem cX13_simplify_k8 : dw_ok cX13_simplify (ByteArray.mk cX13_simplify_w8.toArray) 200 := dw_Sw (r := []) cX13_simplify_s8
def cX13_skein_w13 : List UInt8 := [0xa7, 0x00, 0x04, 0x03, 0x15, 0x05, 0xb6, 0x02, 0x3f, 0xb1]
def cX13_skein_r13 : List UInt8 := cX13_skein_w13 ++ []
def cX13_skein_w12 : List UInt8 := [0x04, 0x60, 0x20, 0x2a, 0xb4, 0x02, 0x3c, 0x99, 0x00, 0x14, 0x15, 0x04, 0x15, 0x0b, 0x99, 0x00, 0x07, 0x05, 0xa7, 0x00, 0x05, 0x10, 0xfe, 0x60]
def cX13_skein_r12 : List UInt8 := cX13_skein_w12 ++ cX13_skein_r13
def cX13_skein_w11 : List UInt8 := [0x03, 0x15, 0x05, 0x04, 0x60, 0xb6, 0x02, 0x3f, 0x19, 0x0c, 0x19, 0x06, 0xb6, 0x02, 0x10, 0x19, 0x0c, 0x15, 0x09, 0xb8, 0x01, 0xc7, 0x2a, 0x1b]
def cX13_skein_r11 : List UInt8 := cX13_skein_w11 ++ cX13_skein_r12
def cX13_skein_w10 : List UInt8 := [0x65, 0x2a, 0xb4, 0x02, 0x3c, 0x99, 0x00, 0x13, 0x15, 0x04, 0x15, 0x0b, 0x99, 0x00, 0x07, 0x04, 0xa7, 0x00, 0x04, 0x02, 0x60, 0xa7, 0x00, 0x04]
def cX13_skein_r10 : List UInt8 := cX13_skein_w10 ++ cX13_skein_r11
def cX13_skein_w9 : List UInt8 := [0x15, 0x07, 0x15, 0x0a, 0x19, 0x0c, 0xb8, 0x01, 0xca, 0x2a, 0x1b, 0x04, 0x60, 0x15, 0x0b, 0x99, 0x00, 0x07, 0x20, 0xa7, 0x00, 0x06, 0x09, 0x20]
def cX13_skein_r9 : List UInt8 := cX13_skein_w9 ++ cX13_skein_r10
def cX13_skein_w8 : List UInt8 := [0x2e, 0x9e, 0x00, 0x07, 0x04, 0xa7, 0x00, 0x04, 0x03, 0x36, 0x0b, 0x2a, 0xb4, 0x00, 0xb3, 0x1b, 0x04, 0x60, 0x32, 0x3a, 0x0c, 0x19, 0x06, 0x15, 0x08]
def cX13_skein_r8 : List UInt8 := cX13_skein_w8 ++ cX13_skein_r9
def cX13_skein_w7 : List UInt8 := [0xb4, 0x00, 0x17, 0x15, 0x0a, 0x2e, 0x15, 0x09, 0x9f, 0x00, 0x09, 0x84, 0x0a, 0x01, 0xa7, 0xff, 0xf0, 0x19, 0x06, 0xb4, 0x00, 0x23, 0x15, 0x09]
def cX13_skein_r7 : List UInt8 := cX13_skein_w7 ++ cX13_skein_r8
def cX13_skein_w6 : List UInt8 := [0x84, 0x08, 0x01, 0xa7, 0xff, 0xee, 0x19, 0x06, 0xb4, 0x00, 0x17, 0x15, 0x07, 0x2e, 0x36, 0x09, 0x15, 0x07, 0x04, 0x60, 0x36, 0x0a, 0x19, 0x06]
def cX13_skein_r6 : List UInt8 := cX13_skein_w6 ++ cX13_skein_r7
def cX13_skein_w5 : List UInt8 := [0x15, 0x05, 0xb6, 0x02, 0x38, 0xb1, 0x03, 0x36, 0x08, 0x19, 0x06, 0xb4, 0x01, 0xc4, 0x15, 0x08, 0x04, 0x60, 0x2e, 0x15, 0x07, 0xa3, 0x00, 0x09]
def cX13_skein_r5 : List UInt8 := cX13_skein_w5 ++ cX13_skein_r6
def cX13_skein_w4 : List UInt8 := [0x02, 0x36, 0x07, 0x84, 0x08, 0x01, 0xa7, 0xff, 0xbd, 0x15, 0x07, 0x02, 0xa0, 0x00, 0x12, 0x2a, 0x19, 0x06, 0xb4, 0x01, 0x97, 0x20, 0x15, 0x04]
def cX13_skein_r4 : List UInt8 := cX13_skein_w4 ++ cX13_skein_r5
def cX13_skein_w3 : List UInt8 := [0x2a, 0xb4, 0x00, 0xb7, 0x15, 0x09, 0x04, 0x54, 0x19, 0x06, 0xb4, 0x00, 0x20, 0x15, 0x08, 0x2e, 0x04, 0xa0, 0x00, 0x08, 0x15, 0x08, 0xa7, 0x00, 0x04]
def cX13_skein_r3 : List UInt8 := cX13_skein_w3 ++ cX13_skein_r4
def cX13_skein_w2 : List UInt8 := [0x15, 0x07, 0x02, 0xa0, 0x00, 0x39, 0x19, 0x06, 0xb4, 0x00, 0x17, 0x15, 0x08, 0x2e, 0x36, 0x09, 0x2a, 0xb4, 0x00, 0xb7, 0x15, 0x09, 0x33, 0x9a, 0x00, 0x1f]
def cX13_skein_r2 : List UInt8 := cX13_skein_w2 ++ cX13_skein_r3
def cX13_skein_w1 : List UInt8 := [0x03, 0x54, 0x84, 0x07, 0x01, 0xa7, 0xff, 0xee, 0x02, 0x36, 0x07, 0x03, 0x36, 0x08, 0x15, 0x08, 0x19, 0x06, 0xb4, 0x00, 0x2c, 0xa2, 0x00, 0x3f]
def cX13_skein_r1 : List UInt8 := cX13_skein_w1 ++ cX13_skein_r2
def cX13_skein_w0 : List UInt8 := [0x2a, 0xb4, 0x00, 0xb3, 0x1b, 0x32, 0x3a, 0x06, 0x03, 0x36, 0x07, 0x15, 0x07, 0x10, 0x28, 0xa2, 0x00, 0x11, 0x2a, 0xb4, 0x00, 0xb7, 0x15, 0x07]
def cX13_skein_r0 : List UInt8 := cX13_skein_w0 ++ cX13_skein_r1
theorem cX13_skein_s0 : dw_S cX13_skein 0 cX13_skein_r0 := dw_S0 (by decide +kernel)
theorem cX13_skein_s1 : dw_S cX13_skein 24 cX13_skein_r1 := dw_Sn (w := cX13_skein_w0) (r := cX13_skein_r1) cX13_skein_s0 (by decide +kernel)
theorem cX13_skein_k0 : dw_ok cX13_skein (ByteArray.mk cX13_skein_w0.toArray) 0 := dw_Sw (r := cX13_skein_r1) cX13_skein_s0
theorem cX13_skein_s2 : dw_S cX13_skein 48 cX13_skein_r2 := dw_Sn (w := cX13_skein_w1) (r := cX13_skein_r2) cX13_skein_s1 (by decide +kernel)
theorem cX13_skein_k1 : dw_ok cX13_skein (ByteArray.mk cX13_skein_w1.toArray) 24 := dw_Sw (r := cX13_skein_r2) cX13_skein_s1
theorem cX13_skein_s3 : dw_S cX13_skein 74 cX13_skein_r3 := dw_Sn (w := cX13_skein_w2) (r := cX13_skein_r3) cX13_skein_s2 (by decide +kernel)
theorem cX13_skein_k2 : dw_ok cX13_skein (ByteArray.mk cX13_skein_w2.toArray) 48 := dw_Sw (r := cX13_skein_r3) cX13_skein_s2
theorem cX13_skein_s4 : dw_S cX13_skein 99 cX13_skein_r4 := dw_Sn (w := cX13_skein_w3) (r := cX13_skein_r4) cX13_skein_s3 (by decide +kernel)
theorem cX13_skein_k3 : dw_ok cX13_skein (ByteArray.mk cX13_skein_w3.toArray) 74 := dw_Sw (r := cX13_skein_r4) cX13_skein_s3
theorem cX13_skein_s5 : dw_S cX13_skein 123 cX13_skein_r5 := dw_Sn (w := cX13_skein_w4) (r := cX13_skein_r5) cX13_skein_s4 (by decide +kernel)
theorem cX13_skein_k4 : dw_ok cX13_skein (ByteArray.mk cX13_skein_w4.toArray) 99 := dw_Sw (r := cX13_skein_r5) cX13_skein_s4
theorem cX13_skein_s6 : dw_S cX13_skein 147 cX13_skein_r6 := dw_Sn (w := cX13_skein_w5) (r := cX13_skein_r6) cX13_skein_s5 (by decide +kernel)
theorem cX13_skein_k5 : dw_ok cX13_skein (ByteArray.mk cX13_skein_w5.toArray) 123 := dw_Sw (r := cX13_skein_r6) cX13_skein_s5
theorem cX13_skein_s7 : dw_S cX13_skein 171 cX13_skein_r7 := dw_Sn (w := cX13_skein_w6) (r := cX13_skein_r7) cX13_skein_s6 (by decide +kernel)
theorem cX13_skein_k6 : dw_ok cX13_skein (ByteArray.mk cX13_skein_w6.toArray) 147 := dw_Sw (r := cX13_skein_r7) cX13_skein_s6
theorem cX13_skein_s8 : dw_S cX13_skein 195 cX13_skein_r8 := dw_Sn (w := cX13_skein_w7) (r := cX13_skein_r8) cX13_skein_s7 (by decide +kernel)
theorem cX13_skein_k7 : dw_ok cX13_skein (ByteArray.mk cX13_skein_w7.toArray) 171 := dw_Sw (r := cX13_skein_r8) cX13_skein_s7
theorem cX13_skein_s9 : dw_S cX13_skein 220 cX13_skein_r9 := dw_Sn (w := cX13_skein_w8) (r := cX13_skein_r9) cX13_skein_s8 (by decide +kernel)
theorem cX13_skein_k8 : dw_ok cX13_skein (ByteArray.mk cX13_skein_w8.toArray) 195 := dw_Sw (r := cX13_skein_r9) cX13_skein_s8
theorem cX13_skein_s10 : dw_S cX13_skein 244 cX13_skein_r10 := dw_Sn (w := cX13_skein_w9) (r := cX13_skein_r10) cX13_skein_s9 (by decide +kernel)
theorem cX13_skein_k9 : dw_ok cX13_skein (ByteArray.mk cX13_skein_w9.toArray) 220 := dw_Sw (r := cX13_skein_r10) cX13_skein_s9
theorem cX13_skein_s11 : dw_S cX13_skein 268 cX13_skein_r11 := dw_Sn (w := cX13_skein_w10) (r := cX13_skein_r11) cX13_skein_s10 (by decide +kernel)
theorem cX13_skein_k10 : dw_ok cX13_skein (ByteArray.mk cX13_skein_w10.toArray) 244 := dw_Sw (r := cX13_skein_r11) cX13_skein_s10
theorem cX13_skein_s12 : dw_S cX13_skein 292 cX13_skein_r12 := dw_Sn (w := cX13_skein_w11) (r := cX13_skein_r12) cX13_skein_s11 (by decide +kernel)
theorem cX13_skein_k11 : dw_ok cX13_skein (ByteArray.mk cX13_skein_w11.toArray) 268 := dw_Sw (r := cX13_skein_r12) cX13_skein_s11
theorem cX13_skein_s13 : dw_S cX13_skein 316 cX13_skein_r13 := dw_Sn (w := cX13_skein_w12) (r := cX13_skein_r13) cX13_skein_s12 (by decide +kernel)
theorem cX13_skein_k12 : dw_ok cX13_skein (ByteArray.mk cX13_skein_w12.toArray) 292 := dw_Sw (r := cX13_skein_r13) cX13_skein_s12
theorem cX13_skein_k13 : dw_ok cX13_skein (ByteArray.mk cX13_skein_w13.toArray) 316 := dw_Sw (r := []) cX13_skein_s13
def cX13_smooth_w5 : List UInt8 := [0x2a, 0x06, 0xb6, 0x01, 0x93, 0xac, 0x2a, 0xb6, 0x01, 0xa4, 0xac]
def cX13_smooth_r5 : List UInt8 := cX13_smooth_w5 ++ []
def cX13_smooth_w4 : List UInt8 := [0x2a, 0xb4, 0x00, 0x79, 0xb4, 0x01, 0x97, 0x10, 0x06, 0xa4, 0x00, 0x09, 0x2a, 0x05, 0xb6, 0x01, 0x93, 0xac, 0x2a, 0xb6, 0x01, 0x88, 0x02, 0xa0, 0x00, 0x09]
def cX13_smooth_r4 : List UInt8 := cX13_smooth_w4 ++ cX13_smooth_r5
def cX13_smooth_w3 : List UInt8 := [0x2a, 0xb4, 0x00, 0x72, 0xb4, 0x00, 0x12, 0x1d, 0x2e, 0x1d, 0x2a, 0xb4, 0x00, 0x72, 0xb4, 0x00, 0x29, 0x1d, 0x2e, 0x2a, 0xb4, 0x00, 0x79, 0xb8, 0x01, 0xca]
def cX13_smooth_r3 : List UInt8 := cX13_smooth_w3 ++ cX13_smooth_r4
def cX13_smooth_w2 : List UInt8 := [0xac, 0x03, 0x3e, 0x2a, 0xb4, 0x00, 0x72, 0xb4, 0x00, 0x17, 0x1d, 0x2e, 0x1c, 0x9f, 0x00, 0x09, 0x84, 0x03, 0x01, 0xa7, 0xff, 0xf0, 0x2a, 0xb4, 0x00, 0x72]
def cX13_smooth_r2 : List UInt8 := cX13_smooth_w2 ++ cX13_smooth_r3
def cX13_smooth_w1 : List UInt8 := [0xb6, 0x01, 0xb2, 0x1c, 0x9b, 0x00, 0x10, 0x1c, 0x2a, 0xb4, 0x00, 0x72, 0xb4, 0x00, 0x2c, 0x05, 0x6c, 0xa1, 0x00, 0x09, 0x2a, 0x04, 0xb6, 0x01, 0x93]
def cX13_smooth_r1 : List UInt8 := cX13_smooth_w1 ++ cX13_smooth_r2
def cX13_smooth_w0 : List UInt8 := [0x2a, 0x03, 0xb5, 0x00, 0x01, 0x2a, 0x1b, 0xb6, 0x01, 0xa7, 0x9a, 0x00, 0x09, 0x2a, 0x04, 0xb6, 0x01, 0x93, 0xac, 0x2a, 0x1b, 0x2a, 0xb4, 0x00, 0x72]
def cX13_smooth_r0 : List UInt8 := cX13_smooth_w0 ++ cX13_smooth_r1
theorem cX13_smooth_s0 : dw_S cX13_smooth 0 cX13_smooth_r0 := dw_S0 (by decide +kernel)
theorem cX13_smooth_s1 : dw_S cX13_smooth 25 cX13_smooth_r1 := dw_Sn (w := cX13_smooth_w0) (r := cX13_smooth_r1) cX13_smooth_s0 (by decide +kernel)
theorem cX13_smooth_k0 : dw_ok cX13_smooth (ByteArray.mk cX13_smooth_w0.toArray) 0 := dw_Sw (r := cX13_smooth_r1) cX13_smooth_s0
theorem cX13_smooth_s2 : dw_S cX13_smooth 50 cX13_smooth_r2 := dw_Sn (w := cX13_smooth_w1) (r := cX13_smooth_r2) cX13_smooth_s1 (by decide +kernel)
theorem cX13_smooth_k1 : dw_ok cX13_smooth (ByteArray.mk cX13_smooth_w1.toArray) 25 := dw_Sw (r := cX13_smooth_r2) cX13_smooth_s1
theorem cX13_smooth_s3 : dw_S cX13_smooth 76 cX13_smooth_r3 := dw_Sn (w := cX13_smooth_w2) (r := cX13_smooth_r3) cX13_smooth_s2 (by decide +kernel)
theorem cX13_smooth_k2 : dw_ok cX13_smooth (ByteArray.mk cX13_smooth_w2.toArray) 50 := dw_Sw (r := cX13_smooth_r3) cX13_smooth_s2
theorem cX13_smooth_s4 : dw_S cX13_smooth 102 cX13_smooth_r4 := dw_Sn (w := cX13_smooth_w3) (r := cX13_smooth_r4) cX13_smooth_s3 (by decide +kernel)
theorem cX13_smooth_k3 : dw_ok cX13_smooth (ByteArray.mk cX13_smooth_w3.toArray) 76 := dw_Sw (r := cX13_smooth_r4) cX13_smooth_s3
theorem cX13_smooth_s5 : dw_S cX13_smooth 128 cX13_smooth_r5 := dw_Sn (w := cX13_smooth_w4) (r := cX13_smooth_r5) cX13_smooth_s4 (by decide +kernel)
theorem cX13_smooth_k4 : dw_ok cX13_smooth (ByteArray.mk cX13_smooth_w4.toArray) 102 := dw_Sw (r := cX13_smooth_r5) cX13_smooth_s4
theorem cX13_smooth_k5 : dw_ok cX13_smooth (ByteArray.mk cX13_smooth_w5.toArray) 128 := dw_Sw (r := []) cX13_smooth_s5
def cX13_smoothIn_w17 : List UInt8 := [0x15, 0x06, 0x2e, 0xb6, 0x00, 0x61, 0x84, 0x06, 0x01, 0xa7, 0xff, 0xe4, 0x19, 0x04, 0xb6, 0x00, 0x5e, 0xb1]
def cX13_smoothIn_r17 : List UInt8 := cX13_smoothIn_w17 ++ []
def cX13_smoothIn_w16 : List UInt8 := [0x1c, 0x04, 0x60, 0x36, 0x06, 0x15, 0x06, 0x1d, 0xa2, 0x00, 0x1c, 0x19, 0x04, 0x2a, 0xb4, 0x00, 0x17, 0x15, 0x06, 0x2e, 0x2a, 0xb4, 0x00, 0x20]
def cX13_smoothIn_r16 : List UInt8 := cX13_smoothIn_w16 ++ cX13_smoothIn_r17
def cX13_smoothIn_w15 : List UInt8 := [0xb6, 0x00, 0x61, 0x84, 0x07, 0x01, 0xa7, 0xff, 0xdc, 0x19, 0x04, 0xb6, 0x00, 0x5e, 0x84, 0x06, 0x01, 0xa7, 0xfe, 0xa2, 0x15, 0x05, 0x99, 0x00, 0x2c]
def cX13_smoothIn_r15 : List UInt8 := cX13_smoothIn_w15 ++ cX13_smoothIn_r16
def cX13_smoothIn_w14 : List UInt8 := [0x15, 0x06, 0x04, 0x60, 0x2e, 0xa2, 0x00, 0x1c, 0x19, 0x04, 0x2a, 0xb4, 0x00, 0x17, 0x15, 0x07, 0x2e, 0x2a, 0xb4, 0x00, 0x20, 0x15, 0x07, 0x2e]
def cX13_smoothIn_r14 : List UInt8 := cX13_smoothIn_w14 ++ cX13_smoothIn_r15
def cX13_smoothIn_w13 : List UInt8 := [0xb4, 0x01, 0xc4, 0x15, 0x06, 0x04, 0x60, 0x2e, 0xa1, 0x00, 0x38, 0x2a, 0xb4, 0x01, 0xc4, 0x15, 0x06, 0x2e, 0x36, 0x07, 0x15, 0x07, 0x2a, 0xb4, 0x01, 0xc4]
def cX13_smoothIn_r13 : List UInt8 := cX13_smoothIn_w13 ++ cX13_smoothIn_r14
def cX13_smoothIn_w12 : List UInt8 := [0xb6, 0x00, 0x5e, 0xa7, 0x00, 0x55, 0x15, 0x05, 0x9a, 0x00, 0x1b, 0x1d, 0x2a, 0xb4, 0x01, 0xc4, 0x15, 0x06, 0x2e, 0xa1, 0x00, 0x10, 0x1d, 0x2a]
def cX13_smoothIn_r12 : List UInt8 := cX13_smoothIn_w12 ++ cX13_smoothIn_r13
def cX13_smoothIn_w11 : List UInt8 := [0x2a, 0xb4, 0x00, 0x17, 0x15, 0x08, 0x2e, 0x2a, 0xb4, 0x00, 0x20, 0x15, 0x08, 0x2e, 0xb6, 0x00, 0x61, 0x84, 0x08, 0x01, 0xa7, 0xff, 0xdc, 0x19, 0x04]
def cX13_smoothIn_r11 : List UInt8 := cX13_smoothIn_w11 ++ cX13_smoothIn_r12
def cX13_smoothIn_w10 : List UInt8 := [0xa7, 0xff, 0xe4, 0x1c, 0x04, 0x60, 0x36, 0x08, 0x15, 0x08, 0x2a, 0xb4, 0x01, 0xc4, 0x15, 0x06, 0x04, 0x60, 0x2e, 0xa2, 0x00, 0x1c, 0x19, 0x04]
def cX13_smoothIn_r10 : List UInt8 := cX13_smoothIn_w10 ++ cX13_smoothIn_r11
def cX13_smoothIn_w9 : List UInt8 := [0xa2, 0x00, 0x1c, 0x19, 0x04, 0x2a, 0xb4, 0x00, 0x17, 0x15, 0x08, 0x2e, 0x2a, 0xb4, 0x00, 0x20, 0x15, 0x08, 0x2e, 0xb6, 0x00, 0x61, 0x84, 0x08, 0x01]
def cX13_smoothIn_r9 : List UInt8 := cX13_smoothIn_w9 ++ cX13_smoothIn_r10
def cX13_smoothIn_w8 : List UInt8 := [0x15, 0x08, 0x2e, 0xb6, 0x00, 0x61, 0x84, 0x08, 0x01, 0xa7, 0xff, 0xdc, 0x2a, 0xb4, 0x01, 0xc4, 0x15, 0x07, 0x2e, 0x36, 0x08, 0x15, 0x08, 0x1d]
def cX13_smoothIn_r8 : List UInt8 := cX13_smoothIn_w8 ++ cX13_smoothIn_r9
def cX13_smoothIn_w7 : List UInt8 := [0x2a, 0xb4, 0x01, 0xc4, 0x15, 0x07, 0x04, 0x60, 0x2e, 0xa2, 0x00, 0x1c, 0x19, 0x04, 0x2a, 0xb4, 0x00, 0x17, 0x15, 0x08, 0x2e, 0x2a, 0xb4, 0x00, 0x20]
def cX13_smoothIn_r7 : List UInt8 := cX13_smoothIn_w7 ++ cX13_smoothIn_r8
def cX13_smoothIn_w6 : List UInt8 := [0xb4, 0x01, 0xc4, 0x15, 0x07, 0x04, 0x60, 0x2e, 0x1d, 0xa3, 0x00, 0x09, 0x84, 0x07, 0x01, 0xa7, 0xff, 0xf0, 0x1d, 0x04, 0x60, 0x36, 0x08, 0x15, 0x08]
def cX13_smoothIn_r6 : List UInt8 := cX13_smoothIn_w6 ++ cX13_smoothIn_r7
def cX13_smoothIn_w5 : List UInt8 := [0x2e, 0x2a, 0xb4, 0x00, 0x20, 0x15, 0x07, 0x2e, 0xb6, 0x00, 0x61, 0x84, 0x07, 0x01, 0xa7, 0xff, 0xdc, 0xa7, 0x00, 0x99, 0x03, 0x36, 0x07, 0x2a]
def cX13_smoothIn_r5 : List UInt8 := cX13_smoothIn_w5 ++ cX13_smoothIn_r6
def cX13_smoothIn_w4 : List UInt8 := [0x36, 0x07, 0x15, 0x07, 0x2a, 0xb4, 0x01, 0xc4, 0x15, 0x06, 0x04, 0x60, 0x2e, 0xa2, 0x00, 0x1c, 0x19, 0x04, 0x2a, 0xb4, 0x00, 0x17, 0x15, 0x07]
def cX13_smoothIn_r4 : List UInt8 := cX13_smoothIn_w4 ++ cX13_smoothIn_r5
def cX13_smoothIn_w3 : List UInt8 := [0x2a, 0xb4, 0x00, 0x20, 0x15, 0x07, 0x2e, 0xb6, 0x00, 0x61, 0x84, 0x07, 0x01, 0xa7, 0xff, 0xe4, 0x15, 0x05, 0x99, 0x00, 0x32, 0x1d, 0x04, 0x60]
def cX13_smoothIn_r3 : List UInt8 := cX13_smoothIn_w3 ++ cX13_smoothIn_r4
def cX13_smoothIn_w2 : List UInt8 := [0x2a, 0xb4, 0x01, 0xc4, 0x15, 0x06, 0x2e, 0x36, 0x07, 0x15, 0x07, 0x1c, 0xa2, 0x00, 0x1c, 0x19, 0x04, 0x2a, 0xb4, 0x00, 0x17, 0x15, 0x07, 0x2e]
def cX13_smoothIn_r2 : List UInt8 := cX13_smoothIn_w2 ++ cX13_smoothIn_r3
def cX13_smoothIn_w1 : List UInt8 := [0xa7, 0x00, 0x04, 0x03, 0x36, 0x05, 0x03, 0x36, 0x06, 0x15, 0x06, 0x2a, 0xb4, 0x01, 0x97, 0xa2, 0x01, 0x5b, 0x15, 0x06, 0x1b, 0xa0, 0x00, 0xfd]
def cX13_smoothIn_r1 : List UInt8 := cX13_smoothIn_w1 ++ cX13_smoothIn_r2
def cX13_smoothIn_w0 : List UInt8 := [0x19, 0x04, 0xb6, 0x00, 0x5b, 0x19, 0x04, 0x2a, 0xb6, 0x01, 0xc0, 0x1d, 0x2a, 0xb4, 0x01, 0xc4, 0x1b, 0x04, 0x60, 0x2e, 0xa2, 0x00, 0x07, 0x04]
def cX13_smoothIn_r0 : List UInt8 := cX13_smoothIn_w0 ++ cX13_smoothIn_r1
theorem cX13_smoothIn_s0 : dw_S cX13_smoothIn 0 cX13_smoothIn_r0 := dw_S0 (by decide +kernel)
theorem cX13_smoothIn_s1 : dw_S cX13_smoothIn 24 cX13_smoothIn_r1 := dw_Sn (w := cX13_smoothIn_w0) (r := cX13_smoothIn_r1) cX13_smoothIn_s0 (by decide +kernel)
theorem cX13_smoothIn_k0 : dw_ok cX13_smoothIn (ByteArray.mk cX13_smoothIn_w0.toArray) 0 := dw_Sw (r := cX13_smoothIn_r1) cX13_smoothIn_s0
theorem cX13_smoothIn_s2 : dw_S cX13_smoothIn 48 cX13_smoothIn_r2 := dw_Sn (w := cX13_smoothIn_w1) (r := cX13_smoothIn_r2) cX13_smoothIn_s1 (by decide +kernel)
theorem cX13_smoothIn_k1 : dw_ok cX13_smoothIn (ByteArray.mk cX13_smoothIn_w1.toArray) 24 := dw_Sw (r := cX13_smoothIn_r2) cX13_smoothIn_s1
theorem cX13_smoothIn_s3 : dw_S cX13_smoothIn 72 cX13_smoothIn_r3 := dw_Sn (w := cX13_smoothIn_w2) (r := cX13_smoothIn_r3) cX13_smoothIn_s2 (by decide +kernel)
theorem cX13_smoothIn_k2 : dw_ok cX13_smoothIn (ByteArray.mk cX13_smoothIn_w2.toArray) 48 := dw_Sw (r := cX13_smoothIn_r3) cX13_smoothIn_s2
theorem cX13_smoothIn_s4 : dw_S cX13_smoothIn 96 cX13_smoothIn_r4 := dw_Sn (w := cX13_smoothIn_w3) (r := cX13_smoothIn_r4) cX13_smoothIn_s3 (by decide +kernel)
theorem cX13_smoothIn_k3 : dw_ok cX13_smoothIn (ByteArray.mk cX13_smoothIn_w3.toArray) 72 := dw_Sw (r := cX13_smoothIn_r4) cX13_smoothIn_s3
theorem cX13_smoothIn_s5 : dw_S cX13_smoothIn 120 cX13_smoothIn_r5 := dw_Sn (w := cX13_smoothIn_w4) (r := cX13_smoothIn_r5) cX13_smoothIn_s4 (by decide +kernel)
theorem cX13_smoothIn_k4 : dw_ok cX13_smoothIn (ByteArray.mk cX13_smoothIn_w4.toArray) 96 := dw_Sw (r := cX13_smoothIn_r5) cX13_smoothIn_s4
theorem cX13_smoothIn_s6 : dw_S cX13_smoothIn 144 cX13_smoothIn_r6 := dw_Sn (w := cX13_smoothIn_w5) (r := cX13_smoothIn_r6) cX13_smoothIn_s5 (by decide +kernel)
theorem cX13_smoothIn_k5 : dw_ok cX13_smoothIn (ByteArray.mk cX13_smoothIn_w5.toArray) 120 := dw_Sw (r := cX13_smoothIn_r6) cX13_smoothIn_s5
theorem cX13_smoothIn_s7 : dw_S cX13_smoothIn 169 cX13_smoothIn_r7 := dw_Sn (w := cX13_smoothIn_w6) (r := cX13_smoothIn_r7) cX13_smoothIn_s6 (by decide +kernel)
theorem cX13_smoothIn_k6 : dw_ok cX13_smoothIn (ByteArray.mk cX13_smoothIn_w6.toArray) 144 := dw_Sw (r := cX13_smoothIn_r7) cX13_smoothIn_s6
theorem cX13_smoothIn_s8 : dw_S cX13_smoothIn 194 cX13_smoothIn_r8 := dw_Sn (w := cX13_smoothIn_w7) (r := cX13_smoothIn_r8) cX13_smoothIn_s7 (by decide +kernel)
theorem cX13_smoothIn_k7 : dw_ok cX13_smoothIn (ByteArray.mk cX13_smoothIn_w7.toArray) 169 := dw_Sw (r := cX13_smoothIn_r8) cX13_smoothIn_s7
theorem cX13_smoothIn_s9 : dw_S cX13_smoothIn 218 cX13_smoothIn_r9 := dw_Sn (w := cX13_smoothIn_w8) (r := cX13_smoothIn_r9) cX13_smoothIn_s8 (by decide +kernel)
theorem cX13_smoothIn_k8 : dw_ok cX13_smoothIn (ByteArray.mk cX13_smoothIn_w8.toArray) 194 := dw_Sw (r := cX13_smoothIn_r9) cX13_smoothIn_s8
theorem cX13_smoothIn_s10 : dw_S cX13_smoothIn 243 cX13_smoothIn_r10 := dw_Sn (w := cX13_smoothIn_w9) (r := cX13_smoothIn_r10) cX13_smoothIn_s9 (by decide +kernel)
theorem cX13_smoothIn_k9 : dw_ok cX13_smoothIn (ByteArray.mk cX13_smoothIn_w9.toArray) 218 := dw_Sw (r := cX13_smoothIn_r10) cX13_smoothIn_s9
theorem cX13_smoothIn_s11 : dw_S cX13_smoothIn 267 cX13_smoothIn_r11 := dw_Sn (w := cX13_smoothIn_w10) (r := cX13_smoothIn_r11) cX13_smoothIn_s10 (by decide +kernel)
theorem cX13_smoothIn_k10 : dw_ok cX13_smoothIn (ByteArray.mk cX13_smoothIn_w10.toArray) 243 := dw_Sw (r := cX13_smoothIn_r11) cX13_smoothIn_s10
theorem cX13_smoothIn_s12 : dw_S cX13_smoothIn 292 cX13_smoothIn_r12 := dw_Sn (w := cX13_smoothIn_w11) (r := cX13_smoothIn_r12) cX13_smoothIn_s11 (by decide +kernel)
theorem cX13_smoothIn_k11 : dw_ok cX13_smoothIn (ByteArray.mk cX13_smoothIn_w11.toArray) 267 := dw_Sw (r := cX13_smoothIn_r12) cX13_smoothIn_s11
theorem cX13_smoothIn_s13 : dw_S cX13_smoothIn 316 cX13_smoothIn_r13 := dw_Sn (w := cX13_smoothIn_w12) (r := cX13_smoothIn_r13) cX13_smoothIn_s12 (by decide +kernel)
theorem cX13_smoothIn_k12 : dw_ok cX13_smoothIn (ByteArray.mk cX13_smoothIn_w12.toArray) 292 := dw_Sw (r := cX13_smoothIn_r13) cX13_smoothIn_s12
theorem cX13_smoothIn_s14 : dw_S cX13_smoothIn 342 cX13_smoothIn_r14 := dw_Sn (w := cX13_smoothIn_w13) (r := cX13_smoothIn_r14) cX13_smoothIn_s13 (by decide +kernel)
theorem cX13_smoothIn_k13 : dw_ok cX13_smoothIn (ByteArray.mk cX13_smoothIn_w13.toArray) 316 := dw_Sw (r := cX13_smoothIn_r14) cX13_smoothIn_s13
theorem cX13_smoothIn_s15 : dw_S cX13_smoothIn 366 cX13_smoothIn_r15 := dw_Sn (w := cX13_smoothIn_w14) (r := cX13_smoothIn_r15) cX13_smoothIn_s14 (by decide +kernel)
theorem cX13_smoothIn_k14 : dw_ok cX13_smoothIn (ByteArray.mk cX13_smoothIn_w14.toArray) 342 := dw_Sw (r := cX13_smoothIn_r15) cX13_smoothIn_s14
theorem cX13_smoothIn_s16 : dw_S cX13_smoothIn 391 cX13_smoothIn_r16 := dw_Sn (w := cX13_smoothIn_w15) (r := cX13_smoothIn_r16) cX13_smoothIn_s15 (by decide +kernel)
theorem cX13_smoothIn_k15 : dw_ok cX13_smoothIn (ByteArray.mk cX13_smoothIn_w15.toArray) 366 := dw_Sw (r := cX13_smoothIn_r16) cX13_smoothIn_s15
theorem cX13_smoothIn_s17 : dw_S cX13_smoothIn 415 cX13_smoothIn_r17 := dw_Sn (w := cX13_smoothIn_w16) (r := cX13_smoothIn_r17) cX13_smoothIn_s16 (by decide +kernel)
theorem cX13_smoothIn_k16 : dw_ok cX13_smoothIn (ByteArray.mk cX13_smoothIn_w16.toArray) 391 := dw_Sw (r := cX13_smoothIn_r17) cX13_smoothIn_s16
theorem cX13_smoothIn_k17 : dw_ok cX13_smoothIn (ByteArray.mk cX13_smoothIn_w17.toArray) 415 := dw_Sw (r := []) cX13_smoothIn_s17
def cX13_step_w25 : List UInt8 := [0x2a, 0xb4, 0x01, 0x27, 0x2a, 0xb4, 0x01, 0x24, 0x15, 0x08, 0x2e, 0x15, 0x0e, 0x60, 0x2e, 0x5c, 0x2e, 0x15, 0x09, 0x60, 0x4f, 0xb1]
def cX13_step_r25 : List UInt8 := cX13_step_w25 ++ []
def cX13_step_w24 : List UInt8 := [0x15, 0x08, 0x2e, 0x15, 0x0e, 0x04, 0x15, 0x0d, 0x78, 0x80, 0x60, 0x2e, 0x5c, 0x2e, 0x15, 0x09, 0x60, 0x4f, 0xa7, 0x00, 0x1c, 0x2a, 0xb4, 0x01, 0x33]
def cX13_step_r24 : List UInt8 := cX13_step_w24 ++ cX13_step_r25
def cX13_step_w23 : List UInt8 := [0x04, 0x15, 0x0c, 0x78, 0x80, 0x60, 0x2e, 0x5c, 0x2e, 0x15, 0x09, 0x60, 0x4f, 0x2a, 0xb4, 0x01, 0x33, 0x2a, 0xb4, 0x01, 0x27, 0x2a, 0xb4, 0x01, 0x24]
def cX13_step_r23 : List UInt8 := cX13_step_w23 ++ cX13_step_r24
def cX13_step_w22 : List UInt8 := [0xa7, 0x00, 0x60, 0x15, 0x10, 0x99, 0x00, 0x42, 0x2a, 0xb4, 0x01, 0x33, 0x2a, 0xb4, 0x01, 0x27, 0x2a, 0xb4, 0x01, 0x24, 0x15, 0x08, 0x2e, 0x15, 0x0e]
def cX13_step_r22 : List UInt8 := cX13_step_w22 ++ cX13_step_r23
def cX13_step_w21 : List UInt8 := [0xb4, 0x01, 0x33, 0x2a, 0xb4, 0x01, 0x27, 0x2a, 0xb4, 0x01, 0x24, 0x15, 0x08, 0x2e, 0x15, 0x0e, 0x60, 0x2e, 0x5c, 0x2e, 0x15, 0x09, 0x60, 0x4f]
def cX13_step_r21 : List UInt8 := cX13_step_w21 ++ cX13_step_r22
def cX13_step_w20 : List UInt8 := [0x78, 0x80, 0x60, 0x2e, 0x5c, 0x2e, 0x15, 0x09, 0x60, 0x4f, 0xa7, 0x00, 0x26, 0x15, 0x10, 0x9a, 0x00, 0x08, 0x15, 0x11, 0x99, 0x00, 0x1c, 0x2a]
def cX13_step_r20 : List UInt8 := cX13_step_w20 ++ cX13_step_r21
def cX13_step_w19 : List UInt8 := [0x15, 0x11, 0x99, 0x00, 0x24, 0x2a, 0xb4, 0x01, 0x33, 0x2a, 0xb4, 0x01, 0x27, 0x2a, 0xb4, 0x01, 0x24, 0x15, 0x08, 0x2e, 0x15, 0x0e, 0x04, 0x15, 0x0c]
def cX13_step_r19 : List UInt8 := cX13_step_w19 ++ cX13_step_r20
def cX13_step_w18 : List UInt8 := [0x9f, 0x00, 0x65, 0x1d, 0x15, 0x0b, 0x7a, 0x04, 0x7e, 0x04, 0xa0, 0x00, 0x07, 0x04, 0xa7, 0x00, 0x04, 0x03, 0x36, 0x11, 0x15, 0x10, 0x99, 0x00, 0x29]
def cX13_step_r18 : List UInt8 := cX13_step_w18 ++ cX13_step_r19
def cX13_step_w17 : List UInt8 := [0xa7, 0xff, 0xd4, 0x1d, 0x15, 0x0a, 0x7a, 0x04, 0x7e, 0x04, 0xa0, 0x00, 0x07, 0x04, 0xa7, 0x00, 0x04, 0x03, 0x36, 0x10, 0x15, 0x0a, 0x15, 0x0b]
def cX13_step_r17 : List UInt8 := cX13_step_w17 ++ cX13_step_r18
def cX13_step_w16 : List UInt8 := [0x7e, 0x04, 0xa0, 0x00, 0x14, 0x15, 0x0e, 0x04, 0x2a, 0xb4, 0x01, 0x21, 0x15, 0x08, 0x2e, 0x15, 0x10, 0x64, 0x78, 0x80, 0x36, 0x0e, 0x84, 0x10, 0x01]
def cX13_step_r16 : List UInt8 := cX13_step_w16 ++ cX13_step_r17
def cX13_step_w15 : List UInt8 := [0x36, 0x0f, 0x04, 0x36, 0x10, 0x15, 0x10, 0x15, 0x0f, 0xa3, 0x00, 0x2b, 0x1d, 0x2a, 0xb4, 0x01, 0x21, 0x1c, 0x2e, 0x15, 0x10, 0x64, 0x7a, 0x04]
def cX13_step_r15 : List UInt8 := cX13_step_w15 ++ cX13_step_r16
def cX13_step_w14 : List UInt8 := [0x10, 0x20, 0x15, 0x08, 0x68, 0x15, 0x0f, 0x60, 0x33, 0x78, 0x80, 0x36, 0x0e, 0x84, 0x0f, 0x01, 0xa7, 0xff, 0xba, 0x2a, 0x2b, 0xb6, 0x01, 0xb6]
def cX13_step_r14 : List UInt8 := cX13_step_w14 ++ cX13_step_r15
def cX13_step_w13 : List UInt8 := [0x15, 0x10, 0x15, 0x0b, 0x9f, 0x00, 0x21, 0x1d, 0x15, 0x10, 0x7a, 0x04, 0x7e, 0x04, 0xa0, 0x00, 0x17, 0x15, 0x0e, 0x04, 0x2a, 0xb4, 0x01, 0x1e]
def cX13_step_r13 : List UInt8 := cX13_step_w13 ++ cX13_step_r14
def cX13_step_w12 : List UInt8 := [0xa2, 0x00, 0x43, 0x2a, 0xb4, 0x01, 0x1e, 0x10, 0x20, 0x1c, 0x68, 0x15, 0x0f, 0x60, 0x33, 0x36, 0x10, 0x15, 0x10, 0x15, 0x0a, 0x9f, 0x00, 0x28]
def cX13_step_r12 : List UInt8 := cX13_step_w12 ++ cX13_step_r13
def cX13_step_w11 : List UInt8 := [0x68, 0x2b, 0xb4, 0x02, 0x45, 0x15, 0x07, 0x2e, 0x60, 0x33, 0x36, 0x0d, 0x03, 0x36, 0x0e, 0x03, 0x36, 0x0f, 0x15, 0x0f, 0x2b, 0xb4, 0x00, 0x2c]
def cX13_step_r11 : List UInt8 := cX13_step_w11 ++ cX13_step_r12
def cX13_step_w10 : List UInt8 := [0x2a, 0xb4, 0x01, 0x1e, 0x10, 0x20, 0x15, 0x08, 0x68, 0x15, 0x07, 0x60, 0x33, 0xa7, 0x00, 0x15, 0x2a, 0xb4, 0x01, 0x1e, 0x10, 0x20, 0x15, 0x08]
def cX13_step_r10 : List UInt8 := cX13_step_w10 ++ cX13_step_r11
def cX13_step_w9 : List UInt8 := [0x15, 0x06, 0x2e, 0x60, 0x33, 0xa7, 0x00, 0x37, 0x2a, 0xb4, 0x01, 0x1e, 0x10, 0x20, 0x15, 0x08, 0x68, 0x15, 0x07, 0x60, 0x33, 0x15, 0x0c, 0x9f, 0x00, 0x13]
def cX13_step_r9 : List UInt8 := cX13_step_w9 ++ cX13_step_r10
def cX13_step_w8 : List UInt8 := [0xb4, 0x02, 0x45, 0x15, 0x06, 0x2e, 0x60, 0x33, 0x15, 0x0c, 0x9f, 0x00, 0x18, 0x2a, 0xb4, 0x01, 0x1e, 0x10, 0x20, 0x15, 0x08, 0x68, 0x2b, 0xb4, 0x02, 0x45]
def cX13_step_r8 : List UInt8 := cX13_step_w8 ++ cX13_step_r9
def cX13_step_w7 : List UInt8 := [0xb4, 0x01, 0x1e, 0x10, 0x20, 0x15, 0x08, 0x68, 0x15, 0x06, 0x60, 0x33, 0x36, 0x0c, 0x2a, 0xb4, 0x01, 0x1e, 0x10, 0x20, 0x15, 0x08, 0x68, 0x2b]
def cX13_step_r7 : List UInt8 := cX13_step_w7 ++ cX13_step_r8
def cX13_step_w6 : List UInt8 := [0x33, 0xa7, 0x00, 0x14, 0x2a, 0xb4, 0x01, 0x1e, 0x10, 0x20, 0x1c, 0x68, 0x2b, 0xb4, 0x02, 0x45, 0x15, 0x07, 0x2e, 0x60, 0x33, 0x36, 0x0b, 0x2a]
def cX13_step_r6 : List UInt8 := cX13_step_w6 ++ cX13_step_r7
def cX13_step_w5 : List UInt8 := [0x10, 0x20, 0x1c, 0x68, 0x15, 0x07, 0x60, 0x33, 0x15, 0x0a, 0x9f, 0x00, 0x12, 0x2a, 0xb4, 0x01, 0x1e, 0x10, 0x20, 0x1c, 0x68, 0x15, 0x07, 0x60]
def cX13_step_r5 : List UInt8 := cX13_step_w5 ++ cX13_step_r6
def cX13_step_w4 : List UInt8 := [0x2a, 0xb4, 0x01, 0x1e, 0x10, 0x20, 0x1c, 0x68, 0x2b, 0xb4, 0x02, 0x45, 0x15, 0x06, 0x2e, 0x60, 0x33, 0xa7, 0x00, 0x34, 0x2a, 0xb4, 0x01, 0x1e]
def cX13_step_r4 : List UInt8 := cX13_step_w4 ++ cX13_step_r5
def cX13_step_w3 : List UInt8 := [0x60, 0x33, 0x36, 0x0a, 0x2a, 0xb4, 0x01, 0x1e, 0x10, 0x20, 0x1c, 0x68, 0x2b, 0xb4, 0x02, 0x45, 0x15, 0x06, 0x2e, 0x60, 0x33, 0x15, 0x0a, 0x9f, 0x00, 0x17]
def cX13_step_r3 : List UInt8 := cX13_step_w3 ++ cX13_step_r4
def cX13_step_w2 : List UInt8 := [0x04, 0x7e, 0x9a, 0x00, 0x07, 0x04, 0xa7, 0x00, 0x07, 0x15, 0x05, 0x04, 0x64, 0x36, 0x09, 0x2a, 0xb4, 0x01, 0x1e, 0x10, 0x20, 0x1c, 0x68, 0x15, 0x06]
def cX13_step_r2 : List UInt8 := cX13_step_w2 ++ cX13_step_r3
def cX13_step_w1 : List UInt8 := [0x15, 0x06, 0x2e, 0x36, 0x07, 0x1c, 0x04, 0x15, 0x04, 0x78, 0x80, 0x36, 0x08, 0x1c, 0x04, 0x15, 0x04, 0x78, 0x04, 0x64, 0x7e, 0xb8, 0x02, 0x4e]
def cX13_step_r1 : List UInt8 := cX13_step_w1 ++ cX13_step_r2
def cX13_step_w0 : List UInt8 := [0x03, 0x36, 0x06, 0x2b, 0xb4, 0x00, 0x17, 0x15, 0x06, 0x2e, 0x15, 0x04, 0x9f, 0x00, 0x09, 0x84, 0x06, 0x01, 0xa7, 0xff, 0xf1, 0x2b, 0xb4, 0x00, 0x29]
def cX13_step_r0 : List UInt8 := cX13_step_w0 ++ cX13_step_r1
theorem cX13_step_s0 : dw_S cX13_step 0 cX13_step_r0 := dw_S0 (by decide +kernel)
theorem cX13_step_s1 : dw_S cX13_step 25 cX13_step_r1 := dw_Sn (w := cX13_step_w0) (r := cX13_step_r1) cX13_step_s0 (by decide +kernel)
theorem cX13_step_k0 : dw_ok cX13_step (ByteArray.mk cX13_step_w0.toArray) 0 := dw_Sw (r := cX13_step_r1) cX13_step_s0
theorem cX13_step_s2 : dw_S cX13_step 49 cX13_step_r2 := dw_Sn (w := cX13_step_w1) (r := cX13_step_r2) cX13_step_s1 (by decide +kernel)
theorem cX13_step_k1 : dw_ok cX13_step (ByteArray.mk cX13_step_w1.toArray) 25 := dw_Sw (r := cX13_step_r2) cX13_step_s1
theorem cX13_step_s3 : dw_S cX13_step 74 cX13_step_r3 := dw_Sn (w := cX13_step_w2) (r := cX13_step_r3) cX13_step_s2 (by decide +kernel)
theorem cX13_step_k2 : dw_ok cX13_step (ByteArray.mk cX13_step_w2.toArray) 49 := dw_Sw (r := cX13_step_r3) cX13_step_s2
theorem cX13_step_s4 : dw_S cX13_step 100 cX13_step_r4 := dw_Sn (w := cX13_step_w3) (r := cX13_step_r4) cX13_step_s3 (by decide +kernel)
theorem cX13_step_k3 : dw_ok cX13_step (ByteArray.mk cX13_step_w3.toArray) 74 := dw_Sw (r := cX13_step_r4) cX13_step_s3
theorem cX13_step_s5 : dw_S cX13_step 124 cX13_step_r5 := dw_Sn (w := cX13_step_w4) (r := cX13_step_r5) cX13_step_s4 (by decide +kernel)
theorem cX13_step_k4 : dw_ok cX13_step (ByteArray.mk cX13_step_w4.toArray) 100 := dw_Sw (r := cX13_step_r5) cX13_step_s4
theorem cX13_step_s6 : dw_S cX13_step 148 cX13_step_r6 := dw_Sn (w := cX13_step_w5) (r := cX13_step_r6) cX13_step_s5 (by decide +kernel)
theorem cX13_step_k5 : dw_ok cX13_step (ByteArray.mk cX13_step_w5.toArray) 124 := dw_Sw (r := cX13_step_r6) cX13_step_s5
theorem cX13_step_s7 : dw_S cX13_step 172 cX13_step_r7 := dw_Sn (w := cX13_step_w6) (r := cX13_step_r7) cX13_step_s6 (by decide +kernel)
theorem cX13_step_k6 : dw_ok cX13_step (ByteArray.mk cX13_step_w6.toArray) 148 := dw_Sw (r := cX13_step_r7) cX13_step_s6
theorem cX13_step_s8 : dw_S cX13_step 196 cX13_step_r8 := dw_Sn (w := cX13_step_w7) (r := cX13_step_r8) cX13_step_s7 (by decide +kernel)
theorem cX13_step_k7 : dw_ok cX13_step (ByteArray.mk cX13_step_w7.toArray) 172 := dw_Sw (r := cX13_step_r8) cX13_step_s7
theorem cX13_step_s9 : dw_S cX13_step 222 cX13_step_r9 := dw_Sn (w := cX13_step_w8) (r := cX13_step_r9) cX13_step_s8 (by decide +kernel)
theorem cX13_step_k8 : dw_ok cX13_step (ByteArray.mk cX13_step_w8.toArray) 196 := dw_Sw (r := cX13_step_r9) cX13_step_s8
theorem cX13_step_s10 : dw_S cX13_step 248 cX13_step_r10 := dw_Sn (w := cX13_step_w9) (r := cX13_step_r10) cX13_step_s9 (by decide +kernel)
theorem cX13_step_k9 : dw_ok cX13_step (ByteArray.mk cX13_step_w9.toArray) 222 := dw_Sw (r := cX13_step_r10) cX13_step_s9
theorem cX13_step_s11 : dw_S cX13_step 272 cX13_step_r11 := dw_Sn (w := cX13_step_w10) (r := cX13_step_r11) cX13_step_s10 (by decide +kernel)
theorem cX13_step_k10 : dw_ok cX13_step (ByteArray.mk cX13_step_w10.toArray) 248 := dw_Sw (r := cX13_step_r11) cX13_step_s10
theorem cX13_step_s12 : dw_S cX13_step 296 cX13_step_r12 := dw_Sn (w := cX13_step_w11) (r := cX13_step_r12) cX13_step_s11 (by decide +kernel)
theorem cX13_step_k11 : dw_ok cX13_step (ByteArray.mk cX13_step_w11.toArray) 272 := dw_Sw (r := cX13_step_r12) cX13_step_s11
theorem cX13_step_s13 : dw_S cX13_step 320 cX13_step_r13 := dw_Sn (w := cX13_step_w12) (r := cX13_step_r13) cX13_step_s12 (by decide +kernel)
theorem cX13_step_k12 : dw_ok cX13_step (ByteArray.mk cX13_step_w12.toArray) 296 := dw_Sw (r := cX13_step_r13) cX13_step_s12
theorem cX13_step_s14 : dw_S cX13_step 344 cX13_step_r14 := dw_Sn (w := cX13_step_w13) (r := cX13_step_r14) cX13_step_s13 (by decide +kernel)
theorem cX13_step_k13 : dw_ok cX13_step (ByteArray.mk cX13_step_w13.toArray) 320 := dw_Sw (r := cX13_step_r14) cX13_step_s13
theorem cX13_step_s15 : dw_S cX13_step 368 cX13_step_r15 := dw_Sn (w := cX13_step_w14) (r := cX13_step_r15) cX13_step_s14 (by decide +kernel)
theorem cX13_step_k14 : dw_ok cX13_step (ByteArray.mk cX13_step_w14.toArray) 344 := dw_Sw (r := cX13_step_r15) cX13_step_s14
theorem cX13_step_s16 : dw_S cX13_step 392 cX13_step_r16 := dw_Sn (w := cX13_step_w15) (r := cX13_step_r16) cX13_step_s15 (by decide +kernel)
theorem cX13_step_k15 : dw_ok cX13_step (ByteArray.mk cX13_step_w15.toArray) 368 := dw_Sw (r := cX13_step_r16) cX13_step_s15
theorem cX13_step_s17 : dw_S cX13_step 417 cX13_step_r17 := dw_Sn (w := cX13_step_w16) (r := cX13_step_r17) cX13_step_s16 (by decide +kernel)
theorem cX13_step_k16 : dw_ok cX13_step (ByteArray.mk cX13_step_w16.toArray) 392 := dw_Sw (r := cX13_step_r17) cX13_step_s16
theorem cX13_step_s18 : dw_S cX13_step 441 cX13_step_r18 := dw_Sn (w := cX13_step_w17) (r := cX13_step_r18) cX13_step_s17 (by decide +kernel)
theorem cX13_step_k17 : dw_ok cX13_step (ByteArray.mk cX13_step_w17.toArray) 417 := dw_Sw (r := cX13_step_r18) cX13_step_s17
theorem cX13_step_s19 : dw_S cX13_step 466 cX13_step_r19 := dw_Sn (w := cX13_step_w18) (r := cX13_step_r19) cX13_step_s18 (by decide +kernel)
theorem cX13_step_k18 : dw_ok cX13_step (ByteArray.mk cX13_step_w18.toArray) 441 := dw_Sw (r := cX13_step_r19) cX13_step_s18
theorem cX13_step_s20 : dw_S cX13_step 491 cX13_step_r20 := dw_Sn (w := cX13_step_w19) (r := cX13_step_r20) cX13_step_s19 (by decide +kernel)
theorem cX13_step_k19 : dw_ok cX13_step (ByteArray.mk cX13_step_w19.toArray) 466 := dw_Sw (r := cX13_step_r20) cX13_step_s19
theorem cX13_step_s21 : dw_S cX13_step 515 cX13_step_r21 := dw_Sn (w := cX13_step_w20) (r := cX13_step_r21) cX13_step_s20 (by decide +kernel)
theorem cX13_step_k20 : dw_ok cX13_step (ByteArray.mk cX13_step_w20.toArray) 491 := dw_Sw (r := cX13_step_r21) cX13_step_s20
theorem cX13_step_s22 : dw_S cX13_step 539 cX13_step_r22 := dw_Sn (w := cX13_step_w21) (r := cX13_step_r22) cX13_step_s21 (by decide +kernel)
theorem cX13_step_k21 : dw_ok cX13_step (ByteArray.mk cX13_step_w21.toArray) 515 := dw_Sw (r := cX13_step_r22) cX13_step_s21
theorem cX13_step_s23 : dw_S cX13_step 564 cX13_step_r23 := dw_Sn (w := cX13_step_w22) (r := cX13_step_r23) cX13_step_s22 (by decide +kernel)
theorem cX13_step_k22 : dw_ok cX13_step (ByteArray.mk cX13_step_w22.toArray) 539 := dw_Sw (r := cX13_step_r23) cX13_step_s22
theorem cX13_step_s24 : dw_S cX13_step 589 cX13_step_r24 := dw_Sn (w := cX13_step_w23) (r := cX13_step_r24) cX13_step_s23 (by decide +kernel)
theorem cX13_step_k23 : dw_ok cX13_step (ByteArray.mk cX13_step_w23.toArray) 564 := dw_Sw (r := cX13_step_r24) cX13_step_s23
theorem cX13_step_s25 : dw_S cX13_step 614 cX13_step_r25 := dw_Sn (w := cX13_step_w24) (r := cX13_step_r25) cX13_step_s24 (by decide +kernel)
theorem cX13_step_k24 : dw_ok cX13_step (ByteArray.mk cX13_step_w24.toArray) 589 := dw_Sw (r := cX13_step_r25) cX13_step_s24
theorem cX13_step_k25 : dw_ok cX13_step (ByteArray.mk cX13_step_w25.toArray) 614 := dw_Sw (r := []) cX13_step_s25
def cX13_summand_w1 : List UInt8 := [0xb6, 0x01, 0x88, 0x02, 0xa0, 0x00, 0x09, 0x2a, 0x05, 0xb6, 0x01, 0x93, 0xac, 0x2a, 0x2a, 0xb4, 0x00, 0xa7, 0x10, 0x20, 0x2a, 0xb4, 0x00, 0xb0, 0x1b, 0x2e, 0x68, 0xb6, 0x02, 0x22, 0xac]
def cX13_summand_r1 : List UInt8 := cX13_summand_w1 ++ []
def cX13_summand_w0 : List UInt8 := [0x2a, 0x03, 0xb5, 0x00, 0x01, 0x1b, 0x9b, 0x00, 0x0b, 0x1b, 0x2a, 0xb4, 0x02, 0x29, 0xa1, 0x00, 0x09, 0x2a, 0x04, 0xb6, 0x01, 0x93, 0xac, 0x2a]
def cX13_summand_r0 : List UInt8 := cX13_summand_w0 ++ cX13_summand_r1
theorem cX13_summand_s0 : dw_S cX13_summand 0 cX13_summand_r0 := dw_S0 (by decide +kernel)
theorem cX13_summand_s1 : dw_S cX13_summand 24 cX13_summand_r1 := dw_Sn (w := cX13_summand_w0) (r := cX13_summand_r1) cX13_summand_s0 (by decide +kernel)
theorem cX13_summand_k0 : dw_ok cX13_summand (ByteArray.mk cX13_summand_w0.toArray) 0 := dw_Sw (r := cX13_summand_r1) cX13_summand_s0
theorem cX13_summand_k1 : dw_ok cX13_summand (ByteArray.mk cX13_summand_w1.toArray) 24 := dw_Sw (r := []) cX13_summand_s1
def cX13_summands_w13 : List UInt8 := [0xa7, 0x00, 0x0b, 0x2a, 0x10, 0x20, 0x1c, 0x68, 0xb6, 0x02, 0x34, 0xa7, 0xff, 0x49, 0x2a, 0xb4, 0x02, 0x29, 0xac]
def cX13_summands_r13 : List UInt8 := cX13_summands_w13 ++ []
def cX13_summands_w12 : List UInt8 := [0x2a, 0xb4, 0x00, 0x72, 0x04, 0x1c, 0xb6, 0x02, 0x2c, 0x2a, 0x2a, 0xb4, 0x00, 0x72, 0x03, 0x1c, 0x04, 0x60, 0xb6, 0x02, 0x2c, 0x84, 0x02, 0x02]
def cX13_summands_r12 : List UInt8 := cX13_summands_w12 ++ cX13_summands_r13
def cX13_summands_w11 : List UInt8 := [0x3e, 0x84, 0x06, 0x01, 0xa7, 0xff, 0xd9, 0x84, 0x05, 0x01, 0xa7, 0xff, 0xb8, 0x84, 0x04, 0x01, 0xa7, 0xff, 0x96, 0x1d, 0x99, 0x00, 0x1f, 0x2a]
def cX13_summands_r11 : List UInt8 := cX13_summands_w11 ++ cX13_summands_r12
def cX13_summands_w10 : List UInt8 := [0x15, 0x04, 0x04, 0x60, 0x2e, 0xa2, 0x00, 0x1c, 0x1d, 0x9a, 0x00, 0x18, 0x2a, 0x2a, 0xb4, 0x00, 0x72, 0x15, 0x04, 0x15, 0x05, 0x15, 0x06, 0xb6, 0x02, 0x30]
def cX13_summands_r10 : List UInt8 := cX13_summands_w10 ++ cX13_summands_r11
def cX13_summands_w9 : List UInt8 := [0x60, 0x2e, 0xa2, 0x00, 0x3d, 0x1d, 0x9a, 0x00, 0x39, 0x15, 0x05, 0x04, 0x60, 0x36, 0x06, 0x15, 0x06, 0x2a, 0xb4, 0x00, 0x72, 0xb4, 0x01, 0xc4]
def cX13_summands_r9 : List UInt8 := cX13_summands_w9 ++ cX13_summands_r10
def cX13_summands_w8 : List UInt8 := [0x2a, 0xb4, 0x00, 0x72, 0xb4, 0x01, 0xc4, 0x15, 0x04, 0x2e, 0x36, 0x05, 0x15, 0x05, 0x2a, 0xb4, 0x00, 0x72, 0xb4, 0x01, 0xc4, 0x15, 0x04, 0x04]
def cX13_summands_r8 : List UInt8 := cX13_summands_w8 ++ cX13_summands_r9
def cX13_summands_w7 : List UInt8 := [0xb6, 0x00, 0x47, 0x03, 0x3e, 0x03, 0x36, 0x04, 0x15, 0x04, 0x2a, 0xb4, 0x00, 0x72, 0xb4, 0x01, 0x97, 0xa2, 0x00, 0x64, 0x1d, 0x9a, 0x00, 0x60]
def cX13_summands_r7 : List UInt8 := cX13_summands_w7 ++ cX13_summands_r8
def cX13_summands_w6 : List UInt8 := [0x1c, 0x9e, 0x00, 0xb9, 0x84, 0x02, 0xff, 0x2a, 0xb4, 0x00, 0xaa, 0x10, 0x20, 0x1c, 0x68, 0x2a, 0xb4, 0x00, 0x72, 0xb8, 0x01, 0xae, 0x2a, 0xb4, 0x00, 0x72]
def cX13_summands_r6 : List UInt8 := cX13_summands_w6 ++ cX13_summands_r7
def cX13_summands_w5 : List UInt8 := [0x2a, 0x2a, 0xb4, 0x00, 0x76, 0x04, 0x1c, 0xb6, 0x02, 0x2c, 0x84, 0x02, 0x01, 0x84, 0x03, 0x01, 0xa7, 0xff, 0x9a, 0x2a, 0x03, 0xb5, 0x02, 0x29]
def cX13_summands_r5 : List UInt8 := cX13_summands_w5 ++ cX13_summands_r6
def cX13_summands_w4 : List UInt8 := [0x03, 0x54, 0x15, 0x04, 0x2a, 0xb4, 0x00, 0xad, 0x15, 0x05, 0x33, 0x80, 0x36, 0x04, 0x84, 0x05, 0x01, 0xa7, 0xff, 0xc3, 0x15, 0x04, 0x99, 0x00, 0x10]
def cX13_summands_r4 : List UInt8 := cX13_summands_w4 ++ cX13_summands_r5
def cX13_summands_w3 : List UInt8 := [0x2a, 0xb4, 0x00, 0x76, 0xb4, 0x00, 0x2f, 0x2a, 0xb4, 0x00, 0x76, 0xb4, 0x00, 0x12, 0x15, 0x05, 0x2e, 0x2e, 0x1d, 0xa0, 0x00, 0x07, 0x04, 0xa7, 0x00, 0x04]
def cX13_summands_r3 : List UInt8 := cX13_summands_w3 ++ cX13_summands_r4
def cX13_summands_w2 : List UInt8 := [0x03, 0x36, 0x04, 0x03, 0x36, 0x05, 0x15, 0x05, 0x2a, 0xb4, 0x00, 0x76, 0xb4, 0x00, 0x2c, 0xa2, 0x00, 0x37, 0x2a, 0xb4, 0x00, 0xad, 0x15, 0x05]
def cX13_summands_r2 : List UInt8 := cX13_summands_w2 ++ cX13_summands_r3
def cX13_summands_w1 : List UInt8 := [0xb6, 0x01, 0xb2, 0x2a, 0xb4, 0x00, 0x76, 0xb6, 0x00, 0x4b, 0x03, 0x3d, 0x03, 0x3e, 0x1d, 0x2a, 0xb4, 0x00, 0x76, 0xb4, 0x00, 0x4e, 0xa2, 0x00, 0x61]
def cX13_summands_r1 : List UInt8 := cX13_summands_w1 ++ cX13_summands_r2
def cX13_summands_w0 : List UInt8 := [0x2a, 0x03, 0xb5, 0x00, 0x01, 0x2a, 0x1b, 0xb6, 0x01, 0xa7, 0x9a, 0x00, 0x09, 0x2a, 0x04, 0xb6, 0x01, 0x93, 0xac, 0x2a, 0x1b, 0x2a, 0xb4, 0x00, 0x76]
def cX13_summands_r0 : List UInt8 := cX13_summands_w0 ++ cX13_summands_r1
theorem cX13_summands_s0 : dw_S cX13_summands 0 cX13_summands_r0 := dw_S0 (by decide +kernel)
theorem cX13_summands_s1 : dw_S cX13_summands 25 cX13_summands_r1 := dw_Sn (w := cX13_summands_w0) (r := cX13_summands_r1) cX13_summands_s0 (by decide +kernel)
theorem cX13_summands_k0 : dw_ok cX13_summands (ByteArray.mk cX13_summands_w0.toArray) 0 := dw_Sw (r := cX13_summands_r1) cX13_summands_s0
theorem cX13_summands_s2 : dw_S cX13_summands 50 cX13_summands_r2 := dw_Sn (w := cX13_summands_w1) (r := cX13_summands_r2) cX13_summands_s1 (by decide +kernel)
theorem cX13_summands_k1 : dw_ok cX13_summands (ByteArray.mk cX13_summands_w1.toArray) 25 := dw_Sw (r := cX13_summands_r2) cX13_summands_s1
theorem cX13_summands_s3 : dw_S cX13_summands 74 cX13_summands_r3 := dw_Sn (w := cX13_summands_w2) (r := cX13_summands_r3) cX13_summands_s2 (by decide +kernel)
theorem cX13_summands_k2 : dw_ok cX13_summands (ByteArray.mk cX13_summands_w2.toArray) 50 := dw_Sw (r := cX13_summands_r3) cX13_summands_s2
theorem cX13_summands_s4 : dw_S cX13_summands 100 cX13_summands_r4 := dw_Sn (w := cX13_summands_w3) (r := cX13_summands_r4) cX13_summands_s3 (by decide +kernel)
theorem cX13_summands_k3 : dw_ok cX13_summands (ByteArray.mk cX13_summands_w3.toArray) 74 := dw_Sw (r := cX13_summands_r4) cX13_summands_s3
theorem cX13_summands_s5 : dw_S cX13_summands 125 cX13_summands_r5 := dw_Sn (w := cX13_summands_w4) (r := cX13_summands_r5) cX13_summands_s4 (by decide +kernel)
theorem cX13_summands_k4 : dw_ok cX13_summands (ByteArray.mk cX13_summands_w4.toArray) 100 := dw_Sw (r := cX13_summands_r5) cX13_summands_s4
theorem cX13_summands_s6 : dw_S cX13_summands 149 cX13_summands_r6 := dw_Sn (w := cX13_summands_w5) (r := cX13_summands_r6) cX13_summands_s5 (by decide +kernel)
theorem cX13_summands_k5 : dw_ok cX13_summands (ByteArray.mk cX13_summands_w5.toArray) 125 := dw_Sw (r := cX13_summands_r6) cX13_summands_s5
theorem cX13_summands_s7 : dw_S cX13_summands 175 cX13_summands_r7 := dw_Sn (w := cX13_summands_w6) (r := cX13_summands_r7) cX13_summands_s6 (by decide +kernel)
theorem cX13_summands_k6 : dw_ok cX13_summands (ByteArray.mk cX13_summands_w6.toArray) 149 := dw_Sw (r := cX13_summands_r7) cX13_summands_s6
theorem cX13_summands_s8 : dw_S cX13_summands 199 cX13_summands_r8 := dw_Sn (w := cX13_summands_w7) (r := cX13_summands_r8) cX13_summands_s7 (by decide +kernel)
theorem cX13_summands_k7 : dw_ok cX13_summands (ByteArray.mk cX13_summands_w7.toArray) 175 := dw_Sw (r := cX13_summands_r8) cX13_summands_s7
theorem cX13_summands_s9 : dw_S cX13_summands 223 cX13_summands_r9 := dw_Sn (w := cX13_summands_w8) (r := cX13_summands_r9) cX13_summands_s8 (by decide +kernel)
theorem cX13_summands_k8 : dw_ok cX13_summands (ByteArray.mk cX13_summands_w8.toArray) 199 := dw_Sw (r := cX13_summands_r9) cX13_summands_s8
theorem cX13_summands_s10 : dw_S cX13_summands 247 cX13_summands_r10 := dw_Sn (w := cX13_summands_w9) (r := cX13_summands_r10) cX13_summands_s9 (by decide +kernel)
theorem cX13_summands_k9 : dw_ok cX13_summands (ByteArray.mk cX13_summands_w9.toArray) 223 := dw_Sw (r := cX13_summands_r10) cX13_summands_s9
theorem cX13_summands_s11 : dw_S cX13_summands 273 cX13_summands_r11 := dw_Sn (w := cX13_summands_w10) (r := cX13_summands_r11) cX13_summands_s10 (by decide +kernel)
theorem cX13_summands_k10 : dw_ok cX13_summands (ByteArray.mk cX13_summands_w10.toArray) 247 := dw_Sw (r := cX13_summands_r11) cX13_summands_s10
theorem cX13_summands_s12 : dw_S cX13_summands 297 cX13_summands_r12 := dw_Sn (w := cX13_summands_w11) (r := cX13_summands_r12) cX13_summands_s11 (by decide +kernel)
theorem cX13_summands_k11 : dw_ok cX13_summands (ByteArray.mk cX13_summands_w11.toArray) 273 := dw_Sw (r := cX13_summands_r12) cX13_summands_s11
theorem cX13_summands_s13 : dw_S cX13_summands 321 cX13_summands_r13 := dw_Sn (w := cX13_summands_w12) (r := cX13_summands_r13) cX13_summands_s12 (by decide +kernel)
theorem cX13_summands_k12 : dw_ok cX13_summands (ByteArray.mk cX13_summands_w12.toArray) 297 := dw_Sw (r := cX13_summands_r13) cX13_summands_s12
theorem cX13_summands_k13 : dw_ok cX13_summands (ByteArray.mk cX13_summands_w13.toArray) 321 := dw_Sw (r := []) cX13_summands_s13
def cX13_summit_w2 : List UInt8 := [0x99, 0x00, 0x0a, 0x2a, 0xb4, 0x03, 0x0c, 0xa7, 0x00, 0x05, 0x10, 0xfe, 0xac]
def cX13_summit_r2 : List UInt8 := cX13_summit_w2 ++ []
def cX13_summit_w1 : List UInt8 := [0x2e, 0x08, 0xa0, 0x00, 0x09, 0x2a, 0x05, 0xb6, 0x01, 0x93, 0xac, 0x2a, 0x1b, 0xb6, 0x03, 0x13, 0x2a, 0x2a, 0xb4, 0x01, 0x46, 0x1b, 0x2e, 0xb6, 0x03, 0x16]
def cX13_summit_r1 : List UInt8 := cX13_summit_w1 ++ cX13_summit_r2
def cX13_summit_w0 : List UInt8 := [0x2a, 0x03, 0xb5, 0x00, 0x01, 0x2a, 0x1b, 0xb6, 0x02, 0xe3, 0x9a, 0x00, 0x09, 0x2a, 0x04, 0xb6, 0x01, 0x93, 0xac, 0x2a, 0xb4, 0x01, 0x46, 0x1b]
def cX13_summit_r0 : List UInt8 := cX13_summit_w0 ++ cX13_summit_r1
theorem cX13_summit_s0 : dw_S cX13_summit 0 cX13_summit_r0 := dw_S0 (by decide +kernel)
theorem cX13_summit_s1 : dw_S cX13_summit 24 cX13_summit_r1 := dw_Sn (w := cX13_summit_w0) (r := cX13_summit_r1) cX13_summit_s0 (by decide +kernel)
theorem cX13_summit_k0 : dw_ok cX13_summit (ByteArray.mk cX13_summit_w0.toArray) 0 := dw_Sw (r := cX13_summit_r1) cX13_summit_s0
theorem cX13_summit_s2 : dw_S cX13_summit 50 cX13_summit_r2 := dw_Sn (w := cX13_summit_w1) (r := cX13_summit_r2) cX13_summit_s1 (by decide +kernel)
theorem cX13_summit_k1 : dw_ok cX13_summit (ByteArray.mk cX13_summit_w1.toArray) 24 := dw_Sw (r := cX13_summit_r2) cX13_summit_s1
theorem cX13_summit_k2 : dw_ok cX13_summit (ByteArray.mk cX13_summit_w2.toArray) 50 := dw_Sw (r := []) cX13_summit_s2
def cX13_summitOf_w5 : List UInt8 := [0x60, 0x15, 0x05, 0xa2, 0x00, 0x07, 0x02, 0xa7, 0x00, 0x05, 0x15, 0x04, 0x36, 0x04, 0x84, 0x04, 0x01, 0xa7, 0xff, 0xc9, 0xb1]
def cX13_summitOf_r5 : List UInt8 := cX13_summitOf_w5 ++ []
def cX13_summitOf_w4 : List UInt8 := [0x2a, 0xb4, 0x02, 0xec, 0x2a, 0xb4, 0x02, 0xef, 0x60, 0x36, 0x05, 0x2a, 0x1c, 0x04, 0xb6, 0x03, 0x08, 0x2a, 0xb4, 0x02, 0xec, 0x2a, 0xb4, 0x02, 0xef]
def cX13_summitOf_r4 : List UInt8 := cX13_summitOf_w4 ++ cX13_summitOf_r5
def cX13_summitOf_w3 : List UInt8 := [0x15, 0x04, 0x36, 0x04, 0x84, 0x04, 0x01, 0xa7, 0xff, 0xd3, 0x03, 0x36, 0x04, 0x15, 0x04, 0x1d, 0xa2, 0x00, 0x37, 0x2a, 0xb4, 0x02, 0xef, 0x9e, 0x00, 0x30]
def cX13_summitOf_r3 : List UInt8 := cX13_summitOf_w3 ++ cX13_summitOf_r4
def cX13_summitOf_w2 : List UInt8 := [0xb4, 0x02, 0xec, 0x36, 0x05, 0x2a, 0x1c, 0x03, 0xb6, 0x03, 0x08, 0x2a, 0xb4, 0x02, 0xec, 0x15, 0x05, 0xa4, 0x00, 0x07, 0x02, 0xa7, 0x00, 0x05]
def cX13_summitOf_r2 : List UInt8 := cX13_summitOf_w2 ++ cX13_summitOf_r3
def cX13_summitOf_w1 : List UInt8 := [0x1c, 0x2e, 0x60, 0x04, 0x64, 0x2e, 0x3e, 0x03, 0x36, 0x04, 0x15, 0x04, 0x1d, 0xa2, 0x00, 0x2d, 0x2a, 0xb4, 0x02, 0xef, 0x9e, 0x00, 0x26, 0x2a]
def cX13_summitOf_r1 : List UInt8 := cX13_summitOf_w1 ++ cX13_summitOf_r2
def cX13_summitOf_w0 : List UInt8 := [0x2a, 0x1b, 0xb6, 0x02, 0xfb, 0x2a, 0xb4, 0x01, 0x46, 0x1b, 0x2e, 0x3d, 0x2a, 0xb4, 0x01, 0x52, 0x10, 0x78, 0x1c, 0x68, 0x2a, 0xb4, 0x01, 0x49]
def cX13_summitOf_r0 : List UInt8 := cX13_summitOf_w0 ++ cX13_summitOf_r1
theorem cX13_summitOf_s0 : dw_S cX13_summitOf 0 cX13_summitOf_r0 := dw_S0 (by decide +kernel)
theorem cX13_summitOf_s1 : dw_S cX13_summitOf 24 cX13_summitOf_r1 := dw_Sn (w := cX13_summitOf_w0) (r := cX13_summitOf_r1) cX13_summitOf_s0 (by decide +kernel)
theorem cX13_summitOf_k0 : dw_ok cX13_summitOf (ByteArray.mk cX13_summitOf_w0.toArray) 0 := dw_Sw (r := cX13_summitOf_r1) cX13_summitOf_s0
theorem cX13_summitOf_s2 : dw_S cX13_summitOf 48 cX13_summitOf_r2 := dw_Sn (w := cX13_summitOf_w1) (r := cX13_summitOf_r2) cX13_summitOf_s1 (by decide +kernel)
theorem cX13_summitOf_k1 : dw_ok cX13_summitOf (ByteArray.mk cX13_summitOf_w1.toArray) 24 := dw_Sw (r := cX13_summitOf_r2) cX13_summitOf_s1
theorem cX13_summitOf_s3 : dw_S cX13_summitOf 72 cX13_summitOf_r3 := dw_Sn (w := cX13_summitOf_w2) (r := cX13_summitOf_r3) cX13_summitOf_s2 (by decide +kernel)
theorem cX13_summitOf_k2 : dw_ok cX13_summitOf (ByteArray.mk cX13_summitOf_w2.toArray) 48 := dw_Sw (r := cX13_summitOf_r3) cX13_summitOf_s2
theorem cX13_summitOf_s4 : dw_S cX13_summitOf 98 cX13_summitOf_r4 := dw_Sn (w := cX13_summitOf_w3) (r := cX13_summitOf_r4) cX13_summitOf_s3 (by decide +kernel)
theorem cX13_summitOf_k3 : dw_ok cX13_summitOf (ByteArray.mk cX13_summitOf_w3.toArray) 72 := dw_Sw (r := cX13_summitOf_r4) cX13_summitOf_s3
theorem cX13_summitOf_s5 : dw_S cX13_summitOf 123 cX13_summitOf_r5 := dw_Sn (w := cX13_summitOf_w4) (r := cX13_summitOf_r5) cX13_summitOf_s4 (by decide +kernel)
theorem cX13_summitOf_k4 : dw_ok cX13_summitOf (ByteArray.mk cX13_summitOf_w4.toArray) 98 := dw_Sw (r := cX13_summitOf_r5) cX13_summitOf_s4
theorem cX13_summitOf_k5 : dw_ok cX13_summitOf (ByteArray.mk cX13_summitOf_w5.toArray) 123 := dw_Sw (r := []) cX13_summitOf_s5
def cX13_threeChange_w12 : List UInt8 := [0xa7, 0xff, 0xa1, 0x2a, 0xb6, 0x01, 0xeb, 0x84, 0x02, 0x01, 0xa7, 0xfe, 0xd2, 0xb1]
def cX13_threeChange_r12 : List UInt8 := cX13_threeChange_w12 ++ []
def cX13_threeChange_w11 : List UInt8 := [0x15, 0x06, 0x2e, 0x4f, 0x2a, 0xb4, 0x00, 0x79, 0xb4, 0x00, 0x20, 0x15, 0x07, 0x2b, 0xb4, 0x00, 0x20, 0x15, 0x06, 0x2e, 0x4f, 0x84, 0x05, 0x01]
def cX13_threeChange_r11 : List UInt8 := cX13_threeChange_w11 ++ cX13_threeChange_r12
def cX13_threeChange_w10 : List UInt8 := [0xb4, 0x00, 0x20, 0x15, 0x06, 0x2b, 0xb4, 0x00, 0x20, 0x15, 0x07, 0x2e, 0x4f, 0x2a, 0xb4, 0x00, 0x79, 0xb4, 0x00, 0x17, 0x15, 0x07, 0x2b, 0xb4, 0x00, 0x17]
def cX13_threeChange_r10 : List UInt8 := cX13_threeChange_w10 ++ cX13_threeChange_r11
def cX13_threeChange_w9 : List UInt8 := [0x15, 0x06, 0x2e, 0x36, 0x07, 0x2a, 0xb4, 0x00, 0x79, 0xb4, 0x00, 0x17, 0x15, 0x06, 0x2b, 0xb4, 0x00, 0x17, 0x15, 0x07, 0x2e, 0x4f, 0x2a, 0xb4, 0x00, 0x79]
def cX13_threeChange_r9 : List UInt8 := cX13_threeChange_w9 ++ cX13_threeChange_r10
def cX13_threeChange_w8 : List UInt8 := [0x2b, 0xb6, 0x02, 0x10, 0x03, 0x36, 0x05, 0x15, 0x05, 0x06, 0xa2, 0x00, 0x5f, 0x2a, 0xb4, 0x00, 0xa1, 0x15, 0x05, 0x2e, 0x36, 0x06, 0x2b, 0xb4, 0x00, 0x26]
def cX13_threeChange_r8 : List UInt8 := cX13_threeChange_w8 ++ cX13_threeChange_r9
def cX13_threeChange_w7 : List UInt8 := [0x05, 0x2e, 0x9f, 0x00, 0x83, 0x2a, 0xb4, 0x00, 0xa4, 0x04, 0x2e, 0x2a, 0xb4, 0x00, 0xa4, 0x05, 0x2e, 0x9f, 0x00, 0x74, 0x2a, 0xb4, 0x00, 0x79]
def cX13_threeChange_r7 : List UInt8 := cX13_threeChange_w7 ++ cX13_threeChange_r8
def cX13_threeChange_w6 : List UInt8 := [0x2a, 0xb4, 0x00, 0xa4, 0x03, 0x2e, 0x2a, 0xb4, 0x00, 0xa4, 0x04, 0x2e, 0x9f, 0x00, 0x92, 0x2a, 0xb4, 0x00, 0xa4, 0x03, 0x2e, 0x2a, 0xb4, 0x00, 0xa4]
def cX13_threeChange_r6 : List UInt8 := cX13_threeChange_w6 ++ cX13_threeChange_r7
def cX13_threeChange_w5 : List UInt8 := [0x2e, 0x9a, 0x00, 0x07, 0x04, 0xa7, 0x00, 0x04, 0x03, 0x80, 0x36, 0x04, 0x84, 0x03, 0x01, 0x84, 0x05, 0x01, 0xa7, 0xff, 0x95, 0x15, 0x04, 0x99, 0x00, 0xa1]
def cX13_threeChange_r5 : List UInt8 := cX13_threeChange_w5 ++ cX13_threeChange_r6
def cX13_threeChange_w4 : List UInt8 := [0x4f, 0x15, 0x04, 0x2b, 0xb4, 0x00, 0x20, 0x15, 0x06, 0x2e, 0x9a, 0x00, 0x16, 0x2b, 0xb4, 0x00, 0x20, 0x2b, 0xb4, 0x00, 0x26, 0x15, 0x06, 0x2e]
def cX13_threeChange_r4 : List UInt8 := cX13_threeChange_w4 ++ cX13_threeChange_r5
def cX13_threeChange_w3 : List UInt8 := [0x2b, 0xb4, 0x00, 0x17, 0x15, 0x05, 0x04, 0x7e, 0x9a, 0x00, 0x0d, 0x2b, 0xb4, 0x00, 0x26, 0x15, 0x06, 0x2e, 0xa7, 0x00, 0x05, 0x15, 0x06, 0x2e]
def cX13_threeChange_r3 : List UInt8 := cX13_threeChange_w3 ++ cX13_threeChange_r4
def cX13_threeChange_w2 : List UInt8 := [0x2e, 0x1c, 0xa0, 0x00, 0x55, 0x15, 0x05, 0x04, 0x7a, 0x36, 0x06, 0x2a, 0xb4, 0x00, 0xa1, 0x1d, 0x15, 0x06, 0x4f, 0x2a, 0xb4, 0x00, 0xa4, 0x1d]
def cX13_threeChange_r2 : List UInt8 := cX13_threeChange_w2 ++ cX13_threeChange_r3
def cX13_threeChange_w1 : List UInt8 := [0x03, 0x3e, 0x03, 0x36, 0x04, 0x03, 0x36, 0x05, 0x15, 0x05, 0x05, 0x2b, 0xb4, 0x00, 0x2c, 0x68, 0xa2, 0x00, 0x66, 0x2b, 0xb4, 0x02, 0x0d, 0x15, 0x05]
def cX13_threeChange_r1 : List UInt8 := cX13_threeChange_w1 ++ cX13_threeChange_r2
def cX13_threeChange_w0 : List UInt8 := [0x2b, 0xb6, 0x02, 0x04, 0x03, 0x3d, 0x1c, 0x2b, 0xb4, 0x02, 0x07, 0xa2, 0x01, 0x2c, 0x2b, 0xb4, 0x02, 0x0a, 0x1c, 0x2e, 0x06, 0xa0, 0x01, 0x1c]
def cX13_threeChange_r0 : List UInt8 := cX13_threeChange_w0 ++ cX13_threeChange_r1
theorem cX13_threeChange_s0 : dw_S cX13_threeChange 0 cX13_threeChange_r0 := dw_S0 (by decide +kernel)
theorem cX13_threeChange_s1 : dw_S cX13_threeChange 24 cX13_threeChange_r1 := dw_Sn (w := cX13_threeChange_w0) (r := cX13_threeChange_r1) cX13_threeChange_s0 (by decide +kernel)
theorem cX13_threeChange_k0 : dw_ok cX13_threeChange (ByteArray.mk cX13_threeChange_w0.toArray) 0 := dw_Sw (r := cX13_threeChange_r1) cX13_threeChange_s0
theorem cX13_threeChange_s2 : dw_S cX13_threeChange 49 cX13_threeChange_r2 := dw_Sn (w := cX13_threeChange_w1) (r := cX13_threeChange_r2) cX13_threeChange_s1 (by decide +kernel)
theorem cX13_threeChange_k1 : dw_ok cX13_threeChange (ByteArray.mk cX13_threeChange_w1.toArray) 24 := dw_Sw (r := cX13_threeChange_r2) cX13_threeChange_s1
theorem cX13_threeChange_s3 : dw_S cX13_threeChange 73 cX13_threeChange_r3 := dw_Sn (w := cX13_threeChange_w2) (r := cX13_threeChange_r3) cX13_threeChange_s2 (by decide +kernel)
theorem cX13_threeChange_k2 : dw_ok cX13_threeChange (ByteArray.mk cX13_threeChange_w2.toArray) 49 := dw_Sw (r := cX13_threeChange_r3) cX13_threeChange_s2
theorem cX13_threeChange_s4 : dw_S cX13_threeChange 97 cX13_threeChange_r4 := dw_Sn (w := cX13_threeChange_w3) (r := cX13_threeChange_r4) cX13_threeChange_s3 (by decide +kernel)
theorem cX13_threeChange_k3 : dw_ok cX13_threeChange (ByteArray.mk cX13_threeChange_w3.toArray) 73 := dw_Sw (r := cX13_threeChange_r4) cX13_threeChange_s3
theorem cX13_threeChange_s5 : dw_S cX13_threeChange 121 cX13_threeChange_r5 := dw_Sn (w := cX13_threeChange_w4) (r := cX13_threeChange_r5) cX13_threeChange_s4 (by decide +kernel)
theorem cX13_threeChange_k4 : dw_ok cX13_threeChange (ByteArray.mk cX13_threeChange_w4.toArray) 97 := dw_Sw (r := cX13_threeChange_r5) cX13_threeChange_s4
theorem cX13_threeChange_s6 : dw_S cX13_threeChange 147 cX13_threeChange_r6 := dw_Sn (w := cX13_threeChange_w5) (r := cX13_threeChange_r6) cX13_threeChange_s5 (by decide +kernel)
theorem cX13_threeChange_k5 : dw_ok cX13_threeChange (ByteArray.mk cX13_threeChange_w5.toArray) 121 := dw_Sw (r := cX13_threeChange_r6) cX13_threeChange_s5
theorem cX13_threeChange_s7 : dw_S cX13_threeChange 172 cX13_threeChange_r7 := dw_Sn (w := cX13_threeChange_w6) (r := cX13_threeChange_r7) cX13_threeChange_s6 (by decide +kernel)
theorem cX13_threeChange_k6 : dw_ok cX13_threeChange (ByteArray.mk cX13_threeChange_w6.toArray) 147 := dw_Sw (r := cX13_threeChange_r7) cX13_threeChange_s6
theorem cX13_threeChange_s8 : dw_S cX13_threeChange 196 cX13_threeChange_r8 := dw_Sn (w := cX13_threeChange_w7) (r := cX13_threeChange_r8) cX13_threeChange_s7 (by decide +kernel)
theorem cX13_threeChange_k7 : dw_ok cX13_threeChange (ByteArray.mk cX13_threeChange_w7.toArray) 172 := dw_Sw (r := cX13_threeChange_r8) cX13_threeChange_s7
theorem cX13_threeChange_s9 : dw_S cX13_threeChange 222 cX13_threeChange_r9 := dw_Sn (w := cX13_threeChange_w8) (r := cX13_threeChange_r9) cX13_threeChange_s8 (by decide +kernel)
theorem cX13_threeChange_k8 : dw_ok cX13_threeChange (ByteArray.mk cX13_threeChange_w8.toArray) 196 := dw_Sw (r := cX13_threeChange_r9) cX13_threeChange_s8
theorem cX13_threeChange_s10 : dw_S cX13_threeChange 248 cX13_threeChange_r10 := dw_Sn (w := cX13_threeChange_w9) (r := cX13_threeChange_r10) cX13_threeChange_s9 (by decide +kernel)
theorem cX13_threeChange_k9 : dw_ok cX13_threeChange (ByteArray.mk cX13_threeChange_w9.toArray) 222 := dw_Sw (r := cX13_threeChange_r10) cX13_threeChange_s9
theorem cX13_threeChange_s11 : dw_S cX13_threeChange 274 cX13_threeChange_r11 := dw_Sn (w := cX13_threeChange_w10) (r := cX13_threeChange_r11) cX13_threeChange_s10 (by decide +kernel)
theorem cX13_threeChange_k10 : dw_ok cX13_threeChange (ByteArray.mk cX13_threeChange_w10.toArray) 248 := dw_Sw (r := cX13_threeChange_r11) cX13_threeChange_s10
theorem cX13_threeChange_s12 : dw_S cX13_threeChange 298 cX13_threeChange_r12 := dw_Sn (w := cX13_threeChange_w11) (r := cX13_threeChange_r12) cX13_threeChange_s11 (by decide +kernel)
theorem cX13_threeChange_k11 : dw_ok cX13_threeChange (ByteArray.mk cX13_threeChange_w11.toArray) 274 := dw_Sw (r := cX13_threeChange_r12) cX13_threeChange_s11
theorem cX13_threeChange_k12 : dw_ok cX13_threeChange (ByteArray.mk cX13_threeChange_w12.toArray) 298 := dw_Sw (r := []) cX13_threeChange_s12
def cX13_times_w3 : List UInt8 := [0x50, 0x84, 0x03, 0x01, 0xa7, 0xff, 0xbb, 0x84, 0x02, 0x01, 0xa7, 0xff, 0xae, 0xb1]
def cX13_times_r3 : List UInt8 := cX13_times_w3 ++ []
def cX13_times_w2 : List UInt8 := [0x60, 0x2f, 0x69, 0x61, 0x37, 0x04, 0x84, 0x06, 0x01, 0xa7, 0xff, 0xd9, 0x2a, 0xb4, 0x00, 0xdf, 0x10, 0x10, 0x1c, 0x68, 0x1d, 0x60, 0x16, 0x04]
def cX13_times_r2 : List UInt8 := cX13_times_w2 ++ cX13_times_r3
def cX13_times_w1 : List UInt8 := [0x16, 0x04, 0x2a, 0xb4, 0x00, 0xdc, 0x10, 0x10, 0x1c, 0x68, 0x15, 0x06, 0x60, 0x2f, 0x2a, 0xb4, 0x00, 0xe2, 0x10, 0x10, 0x15, 0x06, 0x68, 0x1d]
def cX13_times_r1 : List UInt8 := cX13_times_w1 ++ cX13_times_r2
def cX13_times_w0 : List UInt8 := [0x03, 0x3d, 0x1c, 0x1b, 0xa2, 0x00, 0x53, 0x03, 0x3e, 0x1d, 0x1b, 0xa2, 0x00, 0x46, 0x09, 0x37, 0x04, 0x03, 0x36, 0x06, 0x15, 0x06, 0x1b, 0xa2, 0x00, 0x27]
def cX13_times_r0 : List UInt8 := cX13_times_w0 ++ cX13_times_r1
theorem cX13_times_s0 : dw_S cX13_times 0 cX13_times_r0 := dw_S0 (by decide +kernel)
theorem cX13_times_s1 : dw_S cX13_times 26 cX13_times_r1 := dw_Sn (w := cX13_times_w0) (r := cX13_times_r1) cX13_times_s0 (by decide +kernel)
theorem cX13_times_k0 : dw_ok cX13_times (ByteArray.mk cX13_times_w0.toArray) 0 := dw_Sw (r := cX13_times_r1) cX13_times_s0
theorem cX13_times_s2 : dw_S cX13_times 50 cX13_times_r2 := dw_Sn (w := cX13_times_w1) (r := cX13_times_r2) cX13_times_s1 (by decide +kernel)
theorem cX13_times_k1 : dw_ok cX13_times (ByteArray.mk cX13_times_w1.toArray) 26 := dw_Sw (r := cX13_times_r2) cX13_times_s1
theorem cX13_times_s3 : dw_S cX13_times 74 cX13_times_r3 := dw_Sn (w := cX13_times_w2) (r := cX13_times_r3) cX13_times_s2 (by decide +kernel)
theorem cX13_times_k2 : dw_ok cX13_times (ByteArray.mk cX13_times_w2.toArray) 50 := dw_Sw (r := cX13_times_r3) cX13_times_s2
theorem cX13_times_k3 : dw_ok cX13_times (ByteArray.mk cX13_times_w3.toArray) 74 := dw_Sw (r := []) cX13_times_s3
def cX13_tryMoves_w4 : List UInt8 := [0xa7, 0x00, 0x1d, 0x2b, 0xb4, 0x00, 0x2c, 0x05, 0x6c, 0x05, 0x60, 0x10, 0x0c, 0xa3, 0x00, 0x10, 0x2a, 0x2b, 0xb6, 0x02, 0x19, 0xa7, 0x00, 0x08, 0x2a, 0x2b, 0xb6, 0x02, 0x1c, 0xb1]
def cX13_tryMoves_r4 : List UInt8 := cX13_tryMoves_w4 ++ []
def cX13_tryMoves_w3 : List UInt8 := [0x2b, 0xb4, 0x00, 0x2c, 0x05, 0x6c, 0x04, 0x60, 0x10, 0x0c, 0xa3, 0x00, 0x2d, 0x2a, 0x2b, 0xb6, 0x02, 0x13, 0xa7, 0x00, 0x25, 0x2a, 0x2b, 0xb6, 0x02, 0x16]
def cX13_tryMoves_r3 : List UInt8 := cX13_tryMoves_w3 ++ cX13_tryMoves_r4
def cX13_tryMoves_w2 : List UInt8 := [0x2a, 0x2b, 0x2b, 0xb4, 0x00, 0x17, 0x1d, 0x2e, 0x2b, 0xb4, 0x00, 0x17, 0x1d, 0x2e, 0xb6, 0x02, 0x01, 0x84, 0x03, 0x01, 0xa7, 0xff, 0xd5, 0xa7, 0x00, 0x3a]
def cX13_tryMoves_r2 : List UInt8 := cX13_tryMoves_w2 ++ cX13_tryMoves_r3
def cX13_tryMoves_w1 : List UInt8 := [0x03, 0x3e, 0x1d, 0x2b, 0xb4, 0x00, 0x2c, 0xa2, 0x00, 0x29, 0x2b, 0xb4, 0x00, 0x26, 0x1d, 0x2e, 0x2b, 0xb4, 0x00, 0x29, 0x1d, 0x2e, 0xa0, 0x00, 0x14]
def cX13_tryMoves_r1 : List UInt8 := cX13_tryMoves_w1 ++ cX13_tryMoves_r2
def cX13_tryMoves_w0 : List UInt8 := [0x1c, 0xaa, 0x00, 0x00, 0x00, 0x00, 0x00, 0x84, 0x00, 0x00, 0x00, 0x00, 0x00, 0x00, 0x00, 0x03, 0x00, 0x00, 0x00, 0x1f, 0x00, 0x00, 0x00, 0x52, 0x00, 0x00, 0x00, 0x67, 0x00, 0x00, 0x00, 0x6f]
def cX13_tryMoves_r0 : List UInt8 := cX13_tryMoves_w0 ++ cX13_tryMoves_r1
theorem cX13_tryMoves_s0 : dw_S cX13_tryMoves 0 cX13_tryMoves_r0 := dw_S0 (by decide +kernel)
theorem cX13_tryMoves_s1 : dw_S cX13_tryMoves 32 cX13_tryMoves_r1 := dw_Sn (w := cX13_tryMoves_w0) (r := cX13_tryMoves_r1) cX13_tryMoves_s0 (by decide +kernel)
theorem cX13_tryMoves_k0 : dw_ok cX13_tryMoves (ByteArray.mk cX13_tryMoves_w0.toArray) 0 := dw_Sw (r := cX13_tryMoves_r1) cX13_tryMoves_s0
theorem cX13_tryMoves_s2 : dw_S cX13_tryMoves 57 cX13_tryMoves_r2 := dw_Sn (w := cX13_tryMoves_w1) (r := cX13_tryMoves_r2) cX13_tryMoves_s1 (by decide +kernel)
theorem cX13_tryMoves_k1 : dw_ok cX13_tryMoves (ByteArray.mk cX13_tryMoves_w1.toArray) 32 := dw_Sw (r := cX13_tryMoves_r2) cX13_tryMoves_s1
theorem cX13_tryMoves_s3 : dw_S cX13_tryMoves 83 cX13_tryMoves_r3 := dw_Sn (w := cX13_tryMoves_w2) (r := cX13_tryMoves_r3) cX13_tryMoves_s2 (by decide +kernel)
theorem cX13_tryMoves_k2 : dw_ok cX13_tryMoves (ByteArray.mk cX13_tryMoves_w2.toArray) 57 := dw_Sw (r := cX13_tryMoves_r3) cX13_tryMoves_s2
theorem cX13_tryMoves_s4 : dw_S cX13_tryMoves 109 cX13_tryMoves_r4 := dw_Sn (w := cX13_tryMoves_w3) (r := cX13_tryMoves_r4) cX13_tryMoves_s3 (by decide +kernel)
theorem cX13_tryMoves_k3 : dw_ok cX13_tryMoves (ByteArray.mk cX13_tryMoves_w3.toArray) 83 := dw_Sw (r := cX13_tryMoves_r4) cX13_tryMoves_s3
theorem cX13_tryMoves_k4 : dw_ok cX13_tryMoves (ByteArray.mk cX13_tryMoves_w4.toArray) 109 := dw_Sw (r := []) cX13_tryMoves_s4
def cX13_turnRound_w17 : List UInt8 := [0x4f, 0x2a, 0xb4, 0x01, 0x61, 0x07, 0x15, 0x04, 0x68, 0x1d, 0x60, 0x15, 0x09, 0x4f, 0xb1]
def cX13_turnRound_r17 : List UInt8 := cX13_turnRound_w17 ++ []
def cX13_turnRound_w16 : List UInt8 := [0x2e, 0x64, 0x04, 0x64, 0x2e, 0x36, 0x09, 0x84, 0x0a, 0xff, 0xa7, 0xff, 0xdc, 0x2a, 0xb4, 0x01, 0x5e, 0x07, 0x15, 0x04, 0x68, 0x1d, 0x60, 0x15, 0x07]
def cX13_turnRound_r16 : List UInt8 := cX13_turnRound_w16 ++ cX13_turnRound_r17
def cX13_turnRound_w15 : List UInt8 := [0x15, 0x08, 0xa1, 0x00, 0x23, 0x2a, 0xb4, 0x01, 0x55, 0x07, 0x10, 0x78, 0x1b, 0x68, 0x15, 0x09, 0x60, 0x68, 0x2a, 0xb4, 0x01, 0x67, 0x15, 0x0a]
def cX13_turnRound_r15 : List UInt8 := cX13_turnRound_w15 ++ cX13_turnRound_r16
def cX13_turnRound_w14 : List UInt8 := [0x2e, 0x60, 0x04, 0x64, 0x2e, 0x36, 0x07, 0x84, 0x08, 0x01, 0xa7, 0xff, 0xd2, 0x03, 0x36, 0x09, 0x15, 0x05, 0x04, 0x64, 0x36, 0x0a, 0x15, 0x0a]
def cX13_turnRound_r14 : List UInt8 := cX13_turnRound_w14 ++ cX13_turnRound_r15
def cX13_turnRound_w13 : List UInt8 := [0x15, 0x08, 0x2e, 0x9e, 0x00, 0x23, 0x2a, 0xb4, 0x01, 0x55, 0x07, 0x10, 0x78, 0x1b, 0x68, 0x15, 0x07, 0x60, 0x68, 0x2a, 0xb4, 0x01, 0x67, 0x15, 0x08]
def cX13_turnRound_r13 : List UInt8 := cX13_turnRound_w13 ++ cX13_turnRound_r14
def cX13_turnRound_w12 : List UInt8 := [0xa7, 0xff, 0x24, 0x84, 0x06, 0x01, 0xa7, 0xff, 0x1e, 0x03, 0x36, 0x07, 0x03, 0x36, 0x08, 0x15, 0x08, 0x15, 0x05, 0xa2, 0x00, 0x2d, 0x2a, 0xb4, 0x01, 0x67]
def cX13_turnRound_r12 : List UInt8 := cX13_turnRound_w12 ++ cX13_turnRound_r13
def cX13_turnRound_w11 : List UInt8 := [0x2a, 0xb4, 0x01, 0x67, 0x15, 0x06, 0x04, 0x60, 0x03, 0x15, 0x07, 0x64, 0x4f, 0x2a, 0xb4, 0x01, 0x67, 0x15, 0x06, 0x15, 0x08, 0x4f, 0x03, 0x36, 0x06]
def cX13_turnRound_r11 : List UInt8 := cX13_turnRound_w11 ++ cX13_turnRound_r12
def cX13_turnRound_w10 : List UInt8 := [0x15, 0x06, 0x05, 0x60, 0x03, 0x15, 0x08, 0x64, 0x4f, 0x2a, 0xb4, 0x01, 0x67, 0x15, 0x06, 0x06, 0x60, 0x03, 0x15, 0x07, 0x64, 0x4f, 0xa7, 0x00, 0x10]
def cX13_turnRound_r10 : List UInt8 := cX13_turnRound_w10 ++ cX13_turnRound_r11
def cX13_turnRound_w9 : List UInt8 := [0x4f, 0x84, 0x0a, 0xff, 0xa7, 0xff, 0xe4, 0x84, 0x05, 0x02, 0x2a, 0xb4, 0x01, 0x67, 0x15, 0x06, 0x04, 0x60, 0x15, 0x07, 0x4f, 0x2a, 0xb4, 0x01, 0x67]
def cX13_turnRound_r9 : List UInt8 := cX13_turnRound_w9 ++ cX13_turnRound_r10
def cX13_turnRound_w8 : List UInt8 := [0x15, 0x0a, 0x15, 0x06, 0x05, 0x60, 0xa1, 0x00, 0x19, 0x2a, 0xb4, 0x01, 0x67, 0x15, 0x0a, 0x05, 0x60, 0x2a, 0xb4, 0x01, 0x67, 0x15, 0x0a, 0x2e]
def cX13_turnRound_r8 : List UInt8 := cX13_turnRound_w8 ++ cX13_turnRound_r9
def cX13_turnRound_w7 : List UInt8 := [0x4f, 0x84, 0x0a, 0x01, 0xa7, 0xff, 0xe4, 0x84, 0x05, 0xfe, 0xa7, 0x00, 0x6f, 0x15, 0x09, 0x04, 0xa0, 0x00, 0x53, 0x15, 0x05, 0x04, 0x64, 0x36, 0x0a]
def cX13_turnRound_r7 : List UInt8 := cX13_turnRound_w7 ++ cX13_turnRound_r8
def cX13_turnRound_w6 : List UInt8 := [0x15, 0x0a, 0x05, 0x60, 0x15, 0x05, 0xa2, 0x00, 0x19, 0x2a, 0xb4, 0x01, 0x67, 0x15, 0x0a, 0x2a, 0xb4, 0x01, 0x67, 0x15, 0x0a, 0x05, 0x60, 0x2e]
def cX13_turnRound_r6 : List UInt8 := cX13_turnRound_w6 ++ cX13_turnRound_r7
def cX13_turnRound_w5 : List UInt8 := [0x04, 0x60, 0x2e, 0x36, 0x08, 0x15, 0x07, 0x15, 0x08, 0x64, 0xb8, 0x02, 0xde, 0x36, 0x09, 0x15, 0x09, 0x9a, 0x00, 0x2c, 0x15, 0x06, 0x36, 0x0a]
def cX13_turnRound_r5 : List UInt8 := cX13_turnRound_w5 ++ cX13_turnRound_r6
def cX13_turnRound_w4 : List UInt8 := [0x15, 0x06, 0x04, 0x60, 0x2e, 0x9e, 0x00, 0xc3, 0x03, 0x2a, 0xb4, 0x01, 0x67, 0x15, 0x06, 0x2e, 0x64, 0x36, 0x07, 0x2a, 0xb4, 0x01, 0x67, 0x15, 0x06]
def cX13_turnRound_r4 : List UInt8 := cX13_turnRound_w4 ++ cX13_turnRound_r5
def cX13_turnRound_w3 : List UInt8 := [0x36, 0x06, 0x15, 0x06, 0x04, 0x60, 0x15, 0x05, 0xa2, 0x00, 0xdf, 0x2a, 0xb4, 0x01, 0x67, 0x15, 0x06, 0x2e, 0x9c, 0x00, 0xcf, 0x2a, 0xb4, 0x01, 0x67]
def cX13_turnRound_r3 : List UInt8 := cX13_turnRound_w3 ++ cX13_turnRound_r4
def cX13_turnRound_w2 : List UInt8 := [0x4f, 0x84, 0x05, 0x01, 0x84, 0x06, 0xff, 0xa7, 0xff, 0xdf, 0x2a, 0xb4, 0x01, 0x67, 0x15, 0x05, 0x04, 0x1d, 0x60, 0x4f, 0x84, 0x05, 0x01, 0x03]
def cX13_turnRound_r2 : List UInt8 := cX13_turnRound_w2 ++ cX13_turnRound_r3
def cX13_turnRound_w1 : List UInt8 := [0x9b, 0x00, 0x22, 0x2a, 0xb4, 0x01, 0x67, 0x15, 0x05, 0x02, 0x2a, 0xb4, 0x01, 0x4f, 0x10, 0x0a, 0x15, 0x04, 0x68, 0x15, 0x06, 0x60, 0x2e, 0x64]
def cX13_turnRound_r1 : List UInt8 := cX13_turnRound_w1 ++ cX13_turnRound_r2
def cX13_turnRound_w0 : List UInt8 := [0x10, 0x78, 0x1b, 0x68, 0x1c, 0x60, 0x36, 0x04, 0x03, 0x36, 0x05, 0x2a, 0xb4, 0x01, 0x52, 0x15, 0x04, 0x2e, 0x04, 0x64, 0x36, 0x06, 0x15, 0x06]
def cX13_turnRound_r0 : List UInt8 := cX13_turnRound_w0 ++ cX13_turnRound_r1
theorem cX13_turnRound_s0 : dw_S cX13_turnRound 0 cX13_turnRound_r0 := dw_S0 (by decide +kernel)
theorem cX13_turnRound_s1 : dw_S cX13_turnRound 24 cX13_turnRound_r1 := dw_Sn (w := cX13_turnRound_w0) (r := cX13_turnRound_r1) cX13_turnRound_s0 (by decide +kernel)
theorem cX13_turnRound_k0 : dw_ok cX13_turnRound (ByteArray.mk cX13_turnRound_w0.toArray) 0 := dw_Sw (r := cX13_turnRound_r1) cX13_turnRound_s0
theorem cX13_turnRound_s2 : dw_S cX13_turnRound 48 cX13_turnRound_r2 := dw_Sn (w := cX13_turnRound_w1) (r := cX13_turnRound_r2) cX13_turnRound_s1 (by decide +kernel)
theorem cX13_turnRound_k1 : dw_ok cX13_turnRound (ByteArray.mk cX13_turnRound_w1.toArray) 24 := dw_Sw (r := cX13_turnRound_r2) cX13_turnRound_s1
theorem cX13_turnRound_s3 : dw_S cX13_turnRound 72 cX13_turnRound_r3 := dw_Sn (w := cX13_turnRound_w2) (r := cX13_turnRound_r3) cX13_turnRound_s2 (by decide +kernel)
theorem cX13_turnRound_k2 : dw_ok cX13_turnRound (ByteArray.mk cX13_turnRound_w2.toArray) 48 := dw_Sw (r := cX13_turnRound_r3) cX13_turnRound_s2
theorem cX13_turnRound_s4 : dw_S cX13_turnRound 97 cX13_turnRound_r4 := dw_Sn (w := cX13_turnRound_w3) (r := cX13_turnRound_r4) cX13_turnRound_s3 (by decide +kernel)
theorem cX13_turnRound_k3 : dw_ok cX13_turnRound (ByteArray.mk cX13_turnRound_w3.toArray) 72 := dw_Sw (r := cX13_turnRound_r4) cX13_turnRound_s3
theorem cX13_turnRound_s5 : dw_S cX13_turnRound 122 cX13_turnRound_r5 := dw_Sn (w := cX13_turnRound_w4) (r := cX13_turnRound_r5) cX13_turnRound_s4 (by decide +kernel)
theorem cX13_turnRound_k4 : dw_ok cX13_turnRound (ByteArray.mk cX13_turnRound_w4.toArray) 97 := dw_Sw (r := cX13_turnRound_r5) cX13_turnRound_s4
theorem cX13_turnRound_s6 : dw_S cX13_turnRound 146 cX13_turnRound_r6 := dw_Sn (w := cX13_turnRound_w5) (r := cX13_turnRound_r6) cX13_turnRound_s5 (by decide +kernel)
theorem cX13_turnRound_k5 : dw_ok cX13_turnRound (ByteArray.mk cX13_turnRound_w5.toArray) 122 := dw_Sw (r := cX13_turnRound_r6) cX13_turnRound_s5
theorem cX13_turnRound_s7 : dw_S cX13_turnRound 170 cX13_turnRound_r7 := dw_Sn (w := cX13_turnRound_w6) (r := cX13_turnRound_r7) cX13_turnRound_s6 (by decide +kernel)
theorem cX13_turnRound_k6 : dw_ok cX13_turnRound (ByteArray.mk cX13_turnRound_w6.toArray) 146 := dw_Sw (r := cX13_turnRound_r7) cX13_turnRound_s6
theorem cX13_turnRound_s8 : dw_S cX13_turnRound 195 cX13_turnRound_r8 := dw_Sn (w := cX13_turnRound_w7) (r := cX13_turnRound_r8) cX13_turnRound_s7 (by decide +kernel)
theorem cX13_turnRound_k7 : dw_ok cX13_turnRound (ByteArray.mk cX13_turnRound_w7.toArray) 170 := dw_Sw (r := cX13_turnRound_r8) cX13_turnRound_s7
theorem cX13_turnRound_s9 : dw_S cX13_turnRound 219 cX13_turnRound_r9 := dw_Sn (w := cX13_turnRound_w8) (r := cX13_turnRound_r9) cX13_turnRound_s8 (by decide +kernel)
theorem cX13_turnRound_k8 : dw_ok cX13_turnRound (ByteArray.mk cX13_turnRound_w8.toArray) 195 := dw_Sw (r := cX13_turnRound_r9) cX13_turnRound_s8
theorem cX13_turnRound_s10 : dw_S cX13_turnRound 244 cX13_turnRound_r10 := dw_Sn (w := cX13_turnRound_w9) (r := cX13_turnRound_r10) cX13_turnRound_s9 (by decide +kernel)
theorem cX13_turnRound_k9 : dw_ok cX13_turnRound (ByteArray.mk cX13_turnRound_w9.toArray) 219 := dw_Sw (r := cX13_turnRound_r10) cX13_turnRound_s9
theorem cX13_turnRound_s11 : dw_S cX13_turnRound 269 cX13_turnRound_r11 := dw_Sn (w := cX13_turnRound_w10) (r := cX13_turnRound_r11) cX13_turnRound_s10 (by decide +kernel)
theorem cX13_turnRound_k10 : dw_ok cX13_turnRound (ByteArray.mk cX13_turnRound_w10.toArray) 244 := dw_Sw (r := cX13_turnRound_r11) cX13_turnRound_s10
theorem cX13_turnRound_s12 : dw_S cX13_turnRound 294 cX13_turnRound_r12 := dw_Sn (w := cX13_turnRound_w11) (r := cX13_turnRound_r12) cX13_turnRound_s11 (by decide +kernel)
theorem cX13_turnRound_k11 : dw_ok cX13_turnRound (ByteArray.mk cX13_turnRound_w11.toArray) 269 := dw_Sw (r := cX13_turnRound_r12) cX13_turnRound_s11
theorem cX13_turnRound_s13 : dw_S cX13_turnRound 320 cX13_turnRound_r13 := dw_Sn (w := cX13_turnRound_w12) (r := cX13_turnRound_r13) cX13_turnRound_s12 (by decide +kernel)
theorem cX13_turnRound_k12 : dw_ok cX13_turnRound (ByteArray.mk cX13_turnRound_w12.toArray) 294 := dw_Sw (r := cX13_turnRound_r13) cX13_turnRound_s12
theorem cX13_turnRound_s14 : dw_S cX13_turnRound 345 cX13_turnRound_r14 := dw_Sn (w := cX13_turnRound_w13) (r := cX13_turnRound_r14) cX13_turnRound_s13 (by decide +kernel)
theorem cX13_turnRound_k13 : dw_ok cX13_turnRound (ByteArray.mk cX13_turnRound_w13.toArray) 320 := dw_Sw (r := cX13_turnRound_r14) cX13_turnRound_s13
theorem cX13_turnRound_s15 : dw_S cX13_turnRound 369 cX13_turnRound_r15 := dw_Sn (w := cX13_turnRound_w14) (r := cX13_turnRound_r15) cX13_turnRound_s14 (by decide +kernel)
theorem cX13_turnRound_k14 : dw_ok cX13_turnRound (ByteArray.mk cX13_turnRound_w14.toArray) 345 := dw_Sw (r := cX13_turnRound_r15) cX13_turnRound_s14
theorem cX13_turnRound_s16 : dw_S cX13_turnRound 393 cX13_turnRound_r16 := dw_Sn (w := cX13_turnRound_w15) (r := cX13_turnRound_r16) cX13_turnRound_s15 (by decide +kernel)
theorem cX13_turnRound_k15 : dw_ok cX13_turnRound (ByteArray.mk cX13_turnRound_w15.toArray) 369 := dw_Sw (r := cX13_turnRound_r16) cX13_turnRound_s15
theorem cX13_turnRound_s17 : dw_S cX13_turnRound 418 cX13_turnRound_r17 := dw_Sn (w := cX13_turnRound_w16) (r := cX13_turnRound_r17) cX13_turnRound_s16 (by decide +kernel)
theorem cX13_turnRound_k16 : dw_ok cX13_turnRound (ByteArray.mk cX13_turnRound_w16.toArray) 393 := dw_Sw (r := cX13_turnRound_r17) cX13_turnRound_s16
theorem cX13_turnRound_k17 : dw_ok cX13_turnRound (ByteArray.mk cX13_turnRound_w17.toArray) 418 := dw_Sw (r := []) cX13_turnRound_s17
def cX13_two_w7 : List UInt8 := [0xa4, 0x00, 0x07, 0x03, 0xa7, 0x00, 0x16, 0x2a, 0xb4, 0x00, 0xc1, 0x11, 0x00, 0x81, 0x1d, 0x10, 0x14, 0x60, 0x68, 0x1c, 0x60, 0x10, 0x40, 0x60, 0x2f, 0x88, 0xac]
def cX13_two_r7 : List UInt8 := cX13_two_w7 ++ []
def cX13_two_w6 : List UInt8 := [0xa7, 0xff, 0xe8, 0x1c, 0x10, 0xc0, 0xa1, 0x00, 0x15, 0x1c, 0x10, 0x40, 0xa3, 0x00, 0x0f, 0x1d, 0x10, 0xec, 0xa1, 0x00, 0x09, 0x1d, 0x10, 0x14]
def cX13_two_r6 : List UInt8 := cX13_two_w6 ++ cX13_two_r7
def cX13_two_w5 : List UInt8 := [0x36, 0x04, 0x15, 0x04, 0x10, 0x20, 0xa2, 0x00, 0x17, 0x2a, 0xb4, 0x00, 0xc4, 0x15, 0x04, 0x2a, 0xb4, 0x00, 0x95, 0x15, 0x04, 0x2e, 0x4f, 0x84, 0x04, 0x01]
def cX13_two_r5 : List UInt8 := cX13_two_w5 ++ cX13_two_r6
def cX13_two_w4 : List UInt8 := [0x03, 0x2a, 0xb4, 0x00, 0xb3, 0x03, 0x32, 0xb8, 0x01, 0xae, 0x2a, 0x04, 0xb5, 0x02, 0x3c, 0x2a, 0x03, 0x0a, 0x03, 0x03, 0xb6, 0x02, 0x3f, 0x03]
def cX13_two_r4 : List UInt8 := cX13_two_w4 ++ cX13_two_r5
def cX13_two_w3 : List UInt8 := [0x2a, 0xb4, 0x00, 0xc1, 0xbe, 0xa2, 0x00, 0x11, 0x2a, 0xb4, 0x00, 0xc1, 0x15, 0x04, 0x09, 0x50, 0x84, 0x04, 0x01, 0xa7, 0xff, 0xeb, 0x2a, 0xb4, 0x00, 0x95]
def cX13_two_r3 : List UInt8 := cX13_two_w3 ++ cX13_two_r4
def cX13_two_w2 : List UInt8 := [0x03, 0xb6, 0x01, 0x8c, 0x2a, 0xb4, 0x00, 0x95, 0x03, 0x2a, 0xb4, 0x00, 0xc4, 0x03, 0xb8, 0x01, 0xbd, 0x9a, 0x00, 0x57, 0x03, 0x36, 0x04, 0x15, 0x04]
def cX13_two_r2 : List UInt8 := cX13_two_w2 ++ cX13_two_r3
def cX13_two_w1 : List UInt8 := [0x2e, 0x10, 0x0a, 0xa4, 0x00, 0x09, 0x2a, 0x05, 0xb6, 0x01, 0x93, 0xac, 0x2a, 0x1b, 0xb6, 0x03, 0x1c, 0x2a, 0x2a, 0xb4, 0x00, 0x79, 0x2a, 0xb4, 0x00, 0x95]
def cX13_two_r1 : List UInt8 := cX13_two_w1 ++ cX13_two_r2
def cX13_two_w0 : List UInt8 := [0x2a, 0x03, 0xb5, 0x00, 0x01, 0x2a, 0x1b, 0xb6, 0x02, 0xe3, 0x9a, 0x00, 0x09, 0x2a, 0x04, 0xb6, 0x01, 0x93, 0xac, 0x2a, 0xb4, 0x01, 0x43, 0x1b]
def cX13_two_r0 : List UInt8 := cX13_two_w0 ++ cX13_two_r1
theorem cX13_two_s0 : dw_S cX13_two 0 cX13_two_r0 := dw_S0 (by decide +kernel)
theorem cX13_two_s1 : dw_S cX13_two 24 cX13_two_r1 := dw_Sn (w := cX13_two_w0) (r := cX13_two_r1) cX13_two_s0 (by decide +kernel)
theorem cX13_two_k0 : dw_ok cX13_two (ByteArray.mk cX13_two_w0.toArray) 0 := dw_Sw (r := cX13_two_r1) cX13_two_s0
theorem cX13_two_s2 : dw_S cX13_two 50 cX13_two_r2 := dw_Sn (w := cX13_two_w1) (r := cX13_two_r2) cX13_two_s1 (by decide +kernel)
theorem cX13_two_k1 : dw_ok cX13_two (ByteArray.mk cX13_two_w1.toArray) 24 := dw_Sw (r := cX13_two_r2) cX13_two_s1
theorem cX13_two_s3 : dw_S cX13_two 75 cX13_two_r3 := dw_Sn (w := cX13_two_w2) (r := cX13_two_r3) cX13_two_s2 (by decide +kernel)
theorem cX13_two_k2 : dw_ok cX13_two (ByteArray.mk cX13_two_w2.toArray) 50 := dw_Sw (r := cX13_two_r3) cX13_two_s2
theorem cX13_two_s4 : dw_S cX13_two 101 cX13_two_r4 := dw_Sn (w := cX13_two_w3) (r := cX13_two_r4) cX13_two_s3 (by decide +kernel)
theorem cX13_two_k3 : dw_ok cX13_two (ByteArray.mk cX13_two_w3.toArray) 75 := dw_Sw (r := cX13_two_r4) cX13_two_s3
theorem cX13_two_s5 : dw_S cX13_two 125 cX13_two_r5 := dw_Sn (w := cX13_two_w4) (r := cX13_two_r5) cX13_two_s4 (by decide +kernel)
theorem cX13_two_k4 : dw_ok cX13_two (ByteArray.mk cX13_two_w4.toArray) 101 := dw_Sw (r := cX13_two_r5) cX13_two_s4
theorem cX13_two_s6 : dw_S cX13_two 151 cX13_two_r6 := dw_Sn (w := cX13_two_w5) (r := cX13_two_r6) cX13_two_s5 (by decide +kernel)
theorem cX13_two_k5 : dw_ok cX13_two (ByteArray.mk cX13_two_w5.toArray) 125 := dw_Sw (r := cX13_two_r6) cX13_two_s5
theorem cX13_two_s7 : dw_S cX13_two 175 cX13_two_r7 := dw_Sn (w := cX13_two_w6) (r := cX13_two_r7) cX13_two_s6 (by decide +kernel)
theorem cX13_two_k6 : dw_ok cX13_two (ByteArray.mk cX13_two_w6.toArray) 151 := dw_Sw (r := cX13_two_r7) cX13_two_s6
theorem cX13_two_k7 : dw_ok cX13_two (ByteArray.mk cX13_two_w7.toArray) 175 := dw_Sw (r := []) cX13_two_s7
def cX13_twoAt_w7 : List UInt8 := [0xb6, 0x01, 0x9d, 0x99, 0x00, 0x07, 0x2a, 0xb6, 0x01, 0xeb, 0xb1]
def cX13_twoAt_r7 : List UInt8 := cX13_twoAt_w7 ++ []
def cX13_twoAt_w6 : List UInt8 := [0x04, 0x4f, 0x2a, 0xb4, 0x00, 0x79, 0xb4, 0x00, 0x23, 0x15, 0x05, 0x04, 0x60, 0x02, 0x4f, 0x2a, 0xb4, 0x00, 0x79, 0xb6, 0x00, 0x47, 0x2a, 0xb4, 0x00, 0x79]
def cX13_twoAt_r6 : List UInt8 := cX13_twoAt_w6 ++ cX13_twoAt_r7
def cX13_twoAt_w5 : List UInt8 := [0x15, 0x07, 0x04, 0x15, 0x0a, 0x64, 0xb6, 0x01, 0xf6, 0x2a, 0x2b, 0x1c, 0x1d, 0xb6, 0x01, 0xf9, 0x2a, 0xb4, 0x00, 0x79, 0xb4, 0x00, 0x23, 0x15, 0x05]
def cX13_twoAt_r5 : List UInt8 := cX13_twoAt_w5 ++ cX13_twoAt_r6
def cX13_twoAt_w4 : List UInt8 := [0x15, 0x08, 0xa7, 0x00, 0x05, 0x15, 0x06, 0x04, 0x15, 0x0a, 0x64, 0xb6, 0x01, 0xf6, 0x2a, 0x06, 0x15, 0x0a, 0x9a, 0x00, 0x08, 0x15, 0x09, 0xa7, 0x00, 0x05]
def cX13_twoAt_r4 : List UInt8 := cX13_twoAt_w4 ++ cX13_twoAt_r5
def cX13_twoAt_w3 : List UInt8 := [0x2a, 0x04, 0x15, 0x0a, 0x9a, 0x00, 0x08, 0x15, 0x07, 0xa7, 0x00, 0x05, 0x15, 0x09, 0x15, 0x0a, 0xb6, 0x01, 0xf6, 0x2a, 0x05, 0x15, 0x0a, 0x9a, 0x00, 0x08]
def cX13_twoAt_r3 : List UInt8 := cX13_twoAt_w3 ++ cX13_twoAt_r4
def cX13_twoAt_w2 : List UInt8 := [0x15, 0x04, 0x05, 0x7a, 0x36, 0x0a, 0x2a, 0x03, 0x15, 0x0a, 0x9a, 0x00, 0x08, 0x15, 0x06, 0xa7, 0x00, 0x05, 0x15, 0x08, 0x15, 0x0a, 0xb6, 0x01, 0xf6]
def cX13_twoAt_r2 : List UInt8 := cX13_twoAt_w2 ++ cX13_twoAt_r3
def cX13_twoAt_w1 : List UInt8 := [0x64, 0x36, 0x07, 0x15, 0x05, 0x15, 0x04, 0x04, 0x7a, 0x04, 0x7e, 0x60, 0x36, 0x08, 0x05, 0x15, 0x05, 0x68, 0x04, 0x60, 0x15, 0x08, 0x64, 0x36, 0x09]
def cX13_twoAt_r1 : List UInt8 := cX13_twoAt_w1 ++ cX13_twoAt_r2
def cX13_twoAt_w0 : List UInt8 := [0x2b, 0xb4, 0x00, 0x2c, 0x05, 0x6c, 0x36, 0x05, 0x15, 0x05, 0x15, 0x04, 0x04, 0x7e, 0x60, 0x36, 0x06, 0x05, 0x15, 0x05, 0x68, 0x04, 0x60, 0x15, 0x06]
def cX13_twoAt_r0 : List UInt8 := cX13_twoAt_w0 ++ cX13_twoAt_r1
theorem cX13_twoAt_s0 : dw_S cX13_twoAt 0 cX13_twoAt_r0 := dw_S0 (by decide +kernel)
theorem cX13_twoAt_s1 : dw_S cX13_twoAt 25 cX13_twoAt_r1 := dw_Sn (w := cX13_twoAt_w0) (r := cX13_twoAt_r1) cX13_twoAt_s0 (by decide +kernel)
theorem cX13_twoAt_k0 : dw_ok cX13_twoAt (ByteArray.mk cX13_twoAt_w0.toArray) 0 := dw_Sw (r := cX13_twoAt_r1) cX13_twoAt_s0
theorem cX13_twoAt_s2 : dw_S cX13_twoAt 50 cX13_twoAt_r2 := dw_Sn (w := cX13_twoAt_w1) (r := cX13_twoAt_r2) cX13_twoAt_s1 (by decide +kernel)
theorem cX13_twoAt_k1 : dw_ok cX13_twoAt (ByteArray.mk cX13_twoAt_w1.toArray) 25 := dw_Sw (r := cX13_twoAt_r2) cX13_twoAt_s1
theorem cX13_twoAt_s3 : dw_S cX13_twoAt 75 cX13_twoAt_r3 := dw_Sn (w := cX13_twoAt_w2) (r := cX13_twoAt_r3) cX13_twoAt_s2 (by decide +kernel)
theorem cX13_twoAt_k2 : dw_ok cX13_twoAt (ByteArray.mk cX13_twoAt_w2.toArray) 50 := dw_Sw (r := cX13_twoAt_r3) cX13_twoAt_s2
theorem cX13_twoAt_s4 : dw_S cX13_twoAt 101 cX13_twoAt_r4 := dw_Sn (w := cX13_twoAt_w3) (r := cX13_twoAt_r4) cX13_twoAt_s3 (by decide +kernel)
theorem cX13_twoAt_k3 : dw_ok cX13_twoAt (ByteArray.mk cX13_twoAt_w3.toArray) 75 := dw_Sw (r := cX13_twoAt_r4) cX13_twoAt_s3
theorem cX13_twoAt_s5 : dw_S cX13_twoAt 127 cX13_twoAt_r5 := dw_Sn (w := cX13_twoAt_w4) (r := cX13_twoAt_r5) cX13_twoAt_s4 (by decide +kernel)
theorem cX13_twoAt_k4 : dw_ok cX13_twoAt (ByteArray.mk cX13_twoAt_w4.toArray) 101 := dw_Sw (r := cX13_twoAt_r5) cX13_twoAt_s4
theorem cX13_twoAt_s6 : dw_S cX13_twoAt 152 cX13_twoAt_r6 := dw_Sn (w := cX13_twoAt_w5) (r := cX13_twoAt_r6) cX13_twoAt_s5 (by decide +kernel)
theorem cX13_twoAt_k5 : dw_ok cX13_twoAt (ByteArray.mk cX13_twoAt_w5.toArray) 127 := dw_Sw (r := cX13_twoAt_r6) cX13_twoAt_s5
theorem cX13_twoAt_s7 : dw_S cX13_twoAt 178 cX13_twoAt_r7 := dw_Sn (w := cX13_twoAt_w6) (r := cX13_twoAt_r7) cX13_twoAt_s6 (by decide +kernel)
theorem cX13_twoAt_k6 : dw_ok cX13_twoAt (ByteArray.mk cX13_twoAt_w6.toArray) 152 := dw_Sw (r := cX13_twoAt_r7) cX13_twoAt_s6
theorem cX13_twoAt_k7 : dw_ok cX13_twoAt (ByteArray.mk cX13_twoAt_w7.toArray) 178 := dw_Sw (r := []) cX13_twoAt_s7
def cX13_twoCome_w3 : List UInt8 := [0x84, 0x04, 0x01, 0xa7, 0xff, 0xd4, 0x84, 0x03, 0x01, 0xa7, 0xff, 0xbe, 0x84, 0x02, 0x01, 0xa7, 0xff, 0xa9, 0xb1]
def cX13_twoCome_r3 : List UInt8 := cX13_twoCome_w3 ++ []
def cX13_twoCome_w2 : List UInt8 := [0x1c, 0xb8, 0x01, 0xf2, 0x99, 0x00, 0x1a, 0x2b, 0x1d, 0xb8, 0x01, 0xf2, 0x99, 0x00, 0x12, 0x2a, 0x2b, 0x1c, 0x1d, 0x15, 0x04, 0xb6, 0x01, 0xfd]
def cX13_twoCome_r2 : List UInt8 := cX13_twoCome_w2 ++ cX13_twoCome_r3
def cX13_twoCome_w1 : List UInt8 := [0x60, 0xa2, 0x00, 0x3b, 0x03, 0x36, 0x04, 0x15, 0x04, 0x1c, 0x1d, 0xa0, 0x00, 0x08, 0x10, 0x08, 0xa7, 0x00, 0x04, 0x07, 0xa2, 0x00, 0x22, 0x2b]
def cX13_twoCome_r1 : List UInt8 := cX13_twoCome_w1 ++ cX13_twoCome_r2
def cX13_twoCome_w0 : List UInt8 := [0x03, 0x3d, 0x1c, 0x2b, 0xb4, 0x00, 0x2c, 0x2b, 0xb4, 0x01, 0x97, 0x60, 0xa2, 0x00, 0x50, 0x03, 0x3e, 0x1d, 0x2b, 0xb4, 0x00, 0x2c, 0x2b, 0xb4, 0x01, 0x97]
def cX13_twoCome_r0 : List UInt8 := cX13_twoCome_w0 ++ cX13_twoCome_r1
theorem cX13_twoCome_s0 : dw_S cX13_twoCome 0 cX13_twoCome_r0 := dw_S0 (by decide +kernel)
theorem cX13_twoCome_s1 : dw_S cX13_twoCome 26 cX13_twoCome_r1 := dw_Sn (w := cX13_twoCome_w0) (r := cX13_twoCome_r1) cX13_twoCome_s0 (by decide +kernel)
theorem cX13_twoCome_k0 : dw_ok cX13_twoCome (ByteArray.mk cX13_twoCome_w0.toArray) 0 := dw_Sw (r := cX13_twoCome_r1) cX13_twoCome_s0
theorem cX13_twoCome_s2 : dw_S cX13_twoCome 50 cX13_twoCome_r2 := dw_Sn (w := cX13_twoCome_w1) (r := cX13_twoCome_r2) cX13_twoCome_s1 (by decide +kernel)
theorem cX13_twoCome_k1 : dw_ok cX13_twoCome (ByteArray.mk cX13_twoCome_w1.toArray) 26 := dw_Sw (r := cX13_twoCome_r2) cX13_twoCome_s1
theorem cX13_twoCome_s3 : dw_S cX13_twoCome 74 cX13_twoCome_r3 := dw_Sn (w := cX13_twoCome_w2) (r := cX13_twoCome_r3) cX13_twoCome_s2 (by decide +kernel)
theorem cX13_twoCome_k2 : dw_ok cX13_twoCome (ByteArray.mk cX13_twoCome_w2.toArray) 50 := dw_Sw (r := cX13_twoCome_r3) cX13_twoCome_s2
theorem cX13_twoCome_k3 : dw_ok cX13_twoCome (ByteArray.mk cX13_twoCome_w3.toArray) 74 := dw_Sw (r := []) cX13_twoCome_s3
def cX13_twoGo_w5 : List UInt8 := [0xb4, 0x00, 0x17, 0x1d, 0x2e, 0xb6, 0x02, 0x01, 0x84, 0x02, 0x01, 0xa7, 0xff, 0x7b, 0xb1]
def cX13_twoGo_r5 : List UInt8 := cX13_twoGo_w5 ++ []
def cX13_twoGo_w4 : List UInt8 := [0x9f, 0x00, 0x0f, 0x2b, 0xb4, 0x00, 0x26, 0x15, 0x05, 0x2e, 0x15, 0x04, 0xa0, 0x00, 0x14, 0x2a, 0x2b, 0x2b, 0xb4, 0x00, 0x17, 0x1c, 0x2e, 0x2b]
def cX13_twoGo_r4 : List UInt8 := cX13_twoGo_w4 ++ cX13_twoGo_r5
def cX13_twoGo_w3 : List UInt8 := [0x2b, 0xb4, 0x00, 0x29, 0x1c, 0x2e, 0x36, 0x04, 0x2b, 0xb4, 0x00, 0x29, 0x1d, 0x2e, 0x36, 0x05, 0x2b, 0xb4, 0x00, 0x26, 0x15, 0x04, 0x2e, 0x15, 0x05]
def cX13_twoGo_r3 : List UInt8 := cX13_twoGo_w3 ++ cX13_twoGo_r4
def cX13_twoGo_w2 : List UInt8 := [0x2b, 0xb4, 0x00, 0x23, 0x2b, 0xb4, 0x00, 0x17, 0x1c, 0x2e, 0x2e, 0x2b, 0xb4, 0x00, 0x23, 0x2b, 0xb4, 0x00, 0x17, 0x1d, 0x2e, 0x2e, 0x9f, 0x00, 0x3c]
def cX13_twoGo_r2 : List UInt8 := cX13_twoGo_w2 ++ cX13_twoGo_r3
def cX13_twoGo_w1 : List UInt8 := [0x2b, 0xb4, 0x00, 0x20, 0x1d, 0x2e, 0x9a, 0x00, 0x64, 0x2b, 0xb4, 0x00, 0x17, 0x1c, 0x2e, 0x2b, 0xb4, 0x00, 0x17, 0x1d, 0x2e, 0x9f, 0x00, 0x55]
def cX13_twoGo_r1 : List UInt8 := cX13_twoGo_w1 ++ cX13_twoGo_r2
def cX13_twoGo_w0 : List UInt8 := [0x03, 0x3d, 0x1c, 0x2b, 0xb4, 0x00, 0x2c, 0xa2, 0x00, 0x83, 0x2b, 0xb4, 0x00, 0x26, 0x1c, 0x2e, 0x3e, 0x2b, 0xb4, 0x00, 0x20, 0x1c, 0x2e, 0x9a, 0x00, 0x6d]
def cX13_twoGo_r0 : List UInt8 := cX13_twoGo_w0 ++ cX13_twoGo_r1
theorem cX13_twoGo_s0 : dw_S cX13_twoGo 0 cX13_twoGo_r0 := dw_S0 (by decide +kernel)
theorem cX13_twoGo_s1 : dw_S cX13_twoGo 26 cX13_twoGo_r1 := dw_Sn (w := cX13_twoGo_w0) (r := cX13_twoGo_r1) cX13_twoGo_s0 (by decide +kernel)
theorem cX13_twoGo_k0 : dw_ok cX13_twoGo (ByteArray.mk cX13_twoGo_w0.toArray) 0 := dw_Sw (r := cX13_twoGo_r1) cX13_twoGo_s0
theorem cX13_twoGo_s2 : dw_S cX13_twoGo 50 cX13_twoGo_r2 := dw_Sn (w := cX13_twoGo_w1) (r := cX13_twoGo_r2) cX13_twoGo_s1 (by decide +kernel)
theorem cX13_twoGo_k1 : dw_ok cX13_twoGo (ByteArray.mk cX13_twoGo_w1.toArray) 26 := dw_Sw (r := cX13_twoGo_r2) cX13_twoGo_s1
theorem cX13_twoGo_s3 : dw_S cX13_twoGo 75 cX13_twoGo_r3 := dw_Sn (w := cX13_twoGo_w2) (r := cX13_twoGo_r3) cX13_twoGo_s2 (by decide +kernel)
theorem cX13_twoGo_k2 : dw_ok cX13_twoGo (ByteArray.mk cX13_twoGo_w2.toArray) 50 := dw_Sw (r := cX13_twoGo_r3) cX13_twoGo_s2
theorem cX13_twoGo_s4 : dw_S cX13_twoGo 100 cX13_twoGo_r4 := dw_Sn (w := cX13_twoGo_w3) (r := cX13_twoGo_r4) cX13_twoGo_s3 (by decide +kernel)
theorem cX13_twoGo_k3 : dw_ok cX13_twoGo (ByteArray.mk cX13_twoGo_w3.toArray) 75 := dw_Sw (r := cX13_twoGo_r4) cX13_twoGo_s3
theorem cX13_twoGo_s5 : dw_S cX13_twoGo 124 cX13_twoGo_r5 := dw_Sn (w := cX13_twoGo_w4) (r := cX13_twoGo_r5) cX13_twoGo_s4 (by decide +kernel)
theorem cX13_twoGo_k4 : dw_ok cX13_twoGo (ByteArray.mk cX13_twoGo_w4.toArray) 100 := dw_Sw (r := cX13_twoGo_r5) cX13_twoGo_s4
theorem cX13_twoGo_k5 : dw_ok cX13_twoGo (ByteArray.mk cX13_twoGo_w5.toArray) 124 := dw_Sw (r := []) cX13_twoGo_s5
def cX13_unit_w8 : List UInt8 := [0x1b, 0x60, 0x2f, 0x50, 0x2a, 0xb4, 0x00, 0xf7, 0x10, 0x18, 0x15, 0x05, 0x68, 0x1b, 0x60, 0x16, 0x06, 0x50, 0x84, 0x05, 0x01, 0xa7, 0xff, 0xc1, 0x04, 0xac]
def cX13_unit_r8 : List UInt8 := cX13_unit_w8 ++ []
def cX13_unit_w7 : List UInt8 := [0x2f, 0x37, 0x06, 0x2a, 0xb4, 0x00, 0xf7, 0x10, 0x18, 0x15, 0x05, 0x68, 0x15, 0x04, 0x60, 0x2a, 0xb4, 0x00, 0xf7, 0x10, 0x18, 0x15, 0x05, 0x68]
def cX13_unit_r7 : List UInt8 := cX13_unit_w7 ++ cX13_unit_r8
def cX13_unit_w6 : List UInt8 := [0xa7, 0xff, 0xc0, 0x03, 0x36, 0x05, 0x15, 0x05, 0x1c, 0xa2, 0x00, 0x3f, 0x2a, 0xb4, 0x00, 0xf7, 0x10, 0x18, 0x15, 0x05, 0x68, 0x15, 0x04, 0x60]
def cX13_unit_r6 : List UInt8 := cX13_unit_w6 ++ cX13_unit_r7
def cX13_unit_w5 : List UInt8 := [0x10, 0x18, 0x1b, 0x68, 0x15, 0x05, 0x60, 0x2f, 0x50, 0x2a, 0xb4, 0x00, 0xf7, 0x10, 0x18, 0x1b, 0x68, 0x15, 0x05, 0x60, 0x16, 0x06, 0x50, 0x84, 0x05, 0x01]
def cX13_unit_r5 : List UInt8 := cX13_unit_w5 ++ cX13_unit_r6
def cX13_unit_w4 : List UInt8 := [0x10, 0x18, 0x1d, 0x68, 0x15, 0x05, 0x60, 0x2f, 0x37, 0x06, 0x2a, 0xb4, 0x00, 0xf7, 0x10, 0x18, 0x1d, 0x68, 0x15, 0x05, 0x60, 0x2a, 0xb4, 0x00, 0xf7]
def cX13_unit_r4 : List UInt8 := cX13_unit_w4 ++ cX13_unit_r5
def cX13_unit_w3 : List UInt8 := [0xa7, 0xff, 0xbf, 0x1d, 0x02, 0xa0, 0x00, 0x05, 0x03, 0xac, 0x03, 0x36, 0x05, 0x15, 0x05, 0x2a, 0xb4, 0x02, 0x72, 0xa2, 0x00, 0x3d, 0x2a, 0xb4, 0x00, 0xf7]
def cX13_unit_r3 : List UInt8 := cX13_unit_w3 ++ cX13_unit_r4
def cX13_unit_w2 : List UInt8 := [0x2f, 0xb8, 0x02, 0x87, 0x0a, 0x94, 0x9a, 0x00, 0x0a, 0x15, 0x05, 0x3e, 0x15, 0x06, 0x36, 0x04, 0x84, 0x06, 0x01, 0xa7, 0xff, 0xd3, 0x84, 0x05, 0x01]
def cX13_unit_r2 : List UInt8 := cX13_unit_w2 ++ cX13_unit_r3
def cX13_unit_w1 : List UInt8 := [0x2a, 0xb4, 0x02, 0x72, 0xa2, 0x00, 0x2a, 0x1d, 0x02, 0xa0, 0x00, 0x25, 0x2a, 0xb4, 0x00, 0xf7, 0x10, 0x18, 0x15, 0x05, 0x68, 0x15, 0x06, 0x60]
def cX13_unit_r1 : List UInt8 := cX13_unit_w1 ++ cX13_unit_r2
def cX13_unit_w0 : List UInt8 := [0x02, 0x3e, 0x02, 0x36, 0x04, 0x1b, 0x36, 0x05, 0x15, 0x05, 0x1c, 0xa2, 0x00, 0x41, 0x1d, 0x02, 0xa0, 0x00, 0x3c, 0x1b, 0x36, 0x06, 0x15, 0x06]
def cX13_unit_r0 : List UInt8 := cX13_unit_w0 ++ cX13_unit_r1
theorem cX13_unit_s0 : dw_S cX13_unit 0 cX13_unit_r0 := dw_S0 (by decide +kernel)
theorem cX13_unit_s1 : dw_S cX13_unit 24 cX13_unit_r1 := dw_Sn (w := cX13_unit_w0) (r := cX13_unit_r1) cX13_unit_s0 (by decide +kernel)
theorem cX13_unit_k0 : dw_ok cX13_unit (ByteArray.mk cX13_unit_w0.toArray) 0 := dw_Sw (r := cX13_unit_r1) cX13_unit_s0
theorem cX13_unit_s2 : dw_S cX13_unit 48 cX13_unit_r2 := dw_Sn (w := cX13_unit_w1) (r := cX13_unit_r2) cX13_unit_s1 (by decide +kernel)
theorem cX13_unit_k1 : dw_ok cX13_unit (ByteArray.mk cX13_unit_w1.toArray) 24 := dw_Sw (r := cX13_unit_r2) cX13_unit_s1
theorem cX13_unit_s3 : dw_S cX13_unit 73 cX13_unit_r3 := dw_Sn (w := cX13_unit_w2) (r := cX13_unit_r3) cX13_unit_s2 (by decide +kernel)
theorem cX13_unit_k2 : dw_ok cX13_unit (ByteArray.mk cX13_unit_w2.toArray) 48 := dw_Sw (r := cX13_unit_r3) cX13_unit_s2
theorem cX13_unit_s4 : dw_S cX13_unit 99 cX13_unit_r4 := dw_Sn (w := cX13_unit_w3) (r := cX13_unit_r4) cX13_unit_s3 (by decide +kernel)
theorem cX13_unit_k3 : dw_ok cX13_unit (ByteArray.mk cX13_unit_w3.toArray) 73 := dw_Sw (r := cX13_unit_r4) cX13_unit_s3
theorem cX13_unit_s5 : dw_S cX13_unit 124 cX13_unit_r5 := dw_Sn (w := cX13_unit_w4) (r := cX13_unit_r5) cX13_unit_s4 (by decide +kernel)
theorem cX13_unit_k4 : dw_ok cX13_unit (ByteArray.mk cX13_unit_w4.toArray) 99 := dw_Sw (r := cX13_unit_r5) cX13_unit_s4
theorem cX13_unit_s6 : dw_S cX13_unit 150 cX13_unit_r6 := dw_Sn (w := cX13_unit_w5) (r := cX13_unit_r6) cX13_unit_s5 (by decide +kernel)
theorem cX13_unit_k5 : dw_ok cX13_unit (ByteArray.mk cX13_unit_w5.toArray) 124 := dw_Sw (r := cX13_unit_r6) cX13_unit_s5
theorem cX13_unit_s7 : dw_S cX13_unit 174 cX13_unit_r7 := dw_Sn (w := cX13_unit_w6) (r := cX13_unit_r7) cX13_unit_s6 (by decide +kernel)
theorem cX13_unit_k6 : dw_ok cX13_unit (ByteArray.mk cX13_unit_w6.toArray) 150 := dw_Sw (r := cX13_unit_r7) cX13_unit_s6
theorem cX13_unit_s8 : dw_S cX13_unit 198 cX13_unit_r8 := dw_Sn (w := cX13_unit_w7) (r := cX13_unit_r8) cX13_unit_s7 (by decide +kernel)
theorem cX13_unit_k7 : dw_ok cX13_unit (ByteArray.mk cX13_unit_w7.toArray) 174 := dw_Sw (r := cX13_unit_r8) cX13_unit_s7
theorem cX13_unit_k8 : dw_ok cX13_unit (ByteArray.mk cX13_unit_w8.toArray) 198 := dw_Sw (r := []) cX13_unit_s8
def cX13_unpack_w2 : List UInt8 := [0x02, 0xa7, 0x00, 0x04, 0x04, 0x4f, 0x2c, 0x15, 0x04, 0x05, 0x7a, 0x04, 0x64, 0x15, 0x04, 0x04, 0x7a, 0x04, 0x7e, 0xb6, 0x00, 0x61, 0x84, 0x03, 0x01, 0xa7, 0xff, 0xbb, 0xb1]
def cX13_unpack_r2 : List UInt8 := cX13_unpack_w2 ++ []
def cX13_unpack_w1 : List UInt8 := [0x2c, 0xb6, 0x00, 0x5e, 0xa7, 0x00, 0x2b, 0x2c, 0xb4, 0x00, 0x23, 0x15, 0x04, 0x05, 0x7a, 0x04, 0x64, 0x15, 0x04, 0x04, 0x7e, 0x04, 0xa0, 0x00, 0x07]
def cX13_unpack_r1 : List UInt8 := cX13_unpack_w1 ++ cX13_unpack_r2
def cX13_unpack_w0 : List UInt8 := [0x2c, 0xb6, 0x00, 0x5b, 0x04, 0x3e, 0x1d, 0x2a, 0x1b, 0x2e, 0xa3, 0x00, 0x44, 0x2a, 0x1b, 0x1d, 0x60, 0x2e, 0x36, 0x04, 0x15, 0x04, 0x9a, 0x00, 0x0a]
def cX13_unpack_r0 : List UInt8 := cX13_unpack_w0 ++ cX13_unpack_r1
theorem cX13_unpack_s0 : dw_S cX13_unpack 0 cX13_unpack_r0 := dw_S0 (by decide +kernel)
theorem cX13_unpack_s1 : dw_S cX13_unpack 25 cX13_unpack_r1 := dw_Sn (w := cX13_unpack_w0) (r := cX13_unpack_r1) cX13_unpack_s0 (by decide +kernel)
theorem cX13_unpack_k0 : dw_ok cX13_unpack (ByteArray.mk cX13_unpack_w0.toArray) 0 := dw_Sw (r := cX13_unpack_r1) cX13_unpack_s0
theorem cX13_unpack_s2 : dw_S cX13_unpack 50 cX13_unpack_r2 := dw_Sn (w := cX13_unpack_w1) (r := cX13_unpack_r2) cX13_unpack_s1 (by decide +kernel)
theorem cX13_unpack_k1 : dw_ok cX13_unpack (ByteArray.mk cX13_unpack_w1.toArray) 25 := dw_Sw (r := cX13_unpack_r2) cX13_unpack_s1
theorem cX13_unpack_k2 : dw_ok cX13_unpack (ByteArray.mk cX13_unpack_w2.toArray) 50 := dw_Sw (r := []) cX13_unpack_s2
def cX13_visit_w4 : List UInt8 := [0xb4, 0x00, 0x20, 0x1c, 0x2e, 0xac, 0x2a, 0xb4, 0x00, 0x72, 0xb4, 0x00, 0x23, 0x2a, 0xb4, 0x00, 0x72, 0xb4, 0x00, 0x17, 0x1c, 0x2e, 0x2e, 0xac, 0x2a, 0x05, 0xb6, 0x01, 0x93, 0xac]
def cX13_visit_r4 : List UInt8 := cX13_visit_w4 ++ []
def cX13_visit_w3 : List UInt8 := [0x2a, 0xb4, 0x00, 0x72, 0xb4, 0x00, 0x12, 0x1c, 0x2e, 0xac, 0x2a, 0xb4, 0x00, 0x72, 0xb4, 0x00, 0x17, 0x1c, 0x2e, 0xac, 0x2a, 0xb4, 0x00, 0x72]
def cX13_visit_r3 : List UInt8 := cX13_visit_w3 ++ cX13_visit_r4
def cX13_visit_w2 : List UInt8 := [0x1d, 0xaa, 0x00, 0x00, 0x00, 0x00, 0x4e, 0x00, 0x00, 0x00, 0x00, 0x00, 0x00, 0x00, 0x03, 0x00, 0x00, 0x00, 0x1e, 0x00, 0x00, 0x00, 0x28, 0x00, 0x00, 0x00, 0x32, 0x00, 0x00, 0x00, 0x3c]
def cX13_visit_r2 : List UInt8 := cX13_visit_w2 ++ cX13_visit_r3
def cX13_visit_w1 : List UInt8 := [0xb6, 0x01, 0xb2, 0x1c, 0x9b, 0x00, 0x0e, 0x1c, 0x2a, 0xb4, 0x00, 0x72, 0xb4, 0x00, 0x2c, 0xa1, 0x00, 0x09, 0x2a, 0x04, 0xb6, 0x01, 0x93, 0xac]
def cX13_visit_r1 : List UInt8 := cX13_visit_w1 ++ cX13_visit_r2
def cX13_visit_w0 : List UInt8 := [0x2a, 0x03, 0xb5, 0x00, 0x01, 0x2a, 0x1b, 0xb6, 0x01, 0xa7, 0x9a, 0x00, 0x09, 0x2a, 0x04, 0xb6, 0x01, 0x93, 0xac, 0x2a, 0x1b, 0x2a, 0xb4, 0x00, 0x72]
def cX13_visit_r0 : List UInt8 := cX13_visit_w0 ++ cX13_visit_r1
theorem cX13_visit_s0 : dw_S cX13_visit 0 cX13_visit_r0 := dw_S0 (by decide +kernel)
theorem cX13_visit_s1 : dw_S cX13_visit 25 cX13_visit_r1 := dw_Sn (w := cX13_visit_w0) (r := cX13_visit_r1) cX13_visit_s0 (by decide +kernel)
theorem cX13_visit_k0 : dw_ok cX13_visit (ByteArray.mk cX13_visit_w0.toArray) 0 := dw_Sw (r := cX13_visit_r1) cX13_visit_s0
theorem cX13_visit_s2 : dw_S cX13_visit 49 cX13_visit_r2 := dw_Sn (w := cX13_visit_w1) (r := cX13_visit_r2) cX13_visit_s1 (by decide +kernel)
theorem cX13_visit_k1 : dw_ok cX13_visit (ByteArray.mk cX13_visit_w1.toArray) 25 := dw_Sw (r := cX13_visit_r2) cX13_visit_s1
theorem cX13_visit_s3 : dw_S cX13_visit 80 cX13_visit_r3 := dw_Sn (w := cX13_visit_w2) (r := cX13_visit_r3) cX13_visit_s2 (by decide +kernel)
theorem cX13_visit_k2 : dw_ok cX13_visit (ByteArray.mk cX13_visit_w2.toArray) 49 := dw_Sw (r := cX13_visit_r3) cX13_visit_s2
theorem cX13_visit_s4 : dw_S cX13_visit 104 cX13_visit_r4 := dw_Sn (w := cX13_visit_w3) (r := cX13_visit_r4) cX13_visit_s3 (by decide +kernel)
theorem cX13_visit_k3 : dw_ok cX13_visit (ByteArray.mk cX13_visit_w3.toArray) 80 := dw_Sw (r := cX13_visit_r4) cX13_visit_s3
theorem cX13_visit_k4 : dw_ok cX13_visit (ByteArray.mk cX13_visit_w4.toArray) 104 := dw_Sw (r := []) cX13_visit_s4
def cX13_waitsFor_w5 : List UInt8 := [0x10, 0x20, 0x1d, 0x68, 0xb6, 0x01, 0x8c, 0xb1]
def cX13_waitsFor_r5 : List UInt8 := cX13_waitsFor_w5 ++ []
def cX13_waitsFor_w4 : List UInt8 := [0x9e, 0x00, 0x0a, 0x2a, 0xb4, 0x00, 0x79, 0xb6, 0x00, 0x5e, 0x84, 0x04, 0x01, 0xa7, 0xff, 0xa5, 0x2a, 0x2a, 0xb4, 0x00, 0x79, 0x2a, 0xb4, 0x00, 0xaa]
def cX13_waitsFor_r4 : List UInt8 := cX13_waitsFor_w4 ++ cX13_waitsFor_r5
def cX13_waitsFor_w3 : List UInt8 := [0x15, 0x06, 0x2e, 0x2b, 0xb4, 0x00, 0x20, 0x15, 0x06, 0x2e, 0xb6, 0x00, 0x61, 0x84, 0x05, 0x01, 0x84, 0x06, 0x01, 0xa7, 0xff, 0xcc, 0x15, 0x05]
def cX13_waitsFor_r3 : List UInt8 := cX13_waitsFor_w3 ++ cX13_waitsFor_r4
def cX13_waitsFor_w2 : List UInt8 := [0x60, 0x2e, 0xa2, 0x00, 0x2c, 0x2a, 0xb4, 0x00, 0xad, 0x15, 0x06, 0x33, 0x1c, 0xa0, 0x00, 0x1b, 0x2a, 0xb4, 0x00, 0x79, 0x2b, 0xb4, 0x00, 0x17]
def cX13_waitsFor_r2 : List UInt8 := cX13_waitsFor_w2 ++ cX13_waitsFor_r3
def cX13_waitsFor_w1 : List UInt8 := [0xa2, 0x00, 0x58, 0x03, 0x36, 0x05, 0x2b, 0xb4, 0x01, 0xc4, 0x15, 0x04, 0x2e, 0x36, 0x06, 0x15, 0x06, 0x2b, 0xb4, 0x01, 0xc4, 0x15, 0x04, 0x04]
def cX13_waitsFor_r1 : List UInt8 := cX13_waitsFor_w1 ++ cX13_waitsFor_r2
def cX13_waitsFor_w0 : List UInt8 := [0x2a, 0xb4, 0x00, 0x79, 0xb6, 0x00, 0x5b, 0x2a, 0xb4, 0x00, 0x79, 0x2b, 0xb6, 0x01, 0xc0, 0x03, 0x36, 0x04, 0x15, 0x04, 0x2b, 0xb4, 0x01, 0x97]
def cX13_waitsFor_r0 : List UInt8 := cX13_waitsFor_w0 ++ cX13_waitsFor_r1
theorem cX13_waitsFor_s0 : dw_S cX13_waitsFor 0 cX13_waitsFor_r0 := dw_S0 (by decide +kernel)
theorem cX13_waitsFor_s1 : dw_S cX13_waitsFor 24 cX13_waitsFor_r1 := dw_Sn (w := cX13_waitsFor_w0) (r := cX13_waitsFor_r1) cX13_waitsFor_s0 (by decide +kernel)
theorem cX13_waitsFor_k0 : dw_ok cX13_waitsFor (ByteArray.mk cX13_waitsFor_w0.toArray) 0 := dw_Sw (r := cX13_waitsFor_r1) cX13_waitsFor_s0
theorem cX13_waitsFor_s2 : dw_S cX13_waitsFor 48 cX13_waitsFor_r2 := dw_Sn (w := cX13_waitsFor_w1) (r := cX13_waitsFor_r2) cX13_waitsFor_s1 (by decide +kernel)
theorem cX13_waitsFor_k1 : dw_ok cX13_waitsFor (ByteArray.mk cX13_waitsFor_w1.toArray) 24 := dw_Sw (r := cX13_waitsFor_r2) cX13_waitsFor_s1
theorem cX13_waitsFor_s3 : dw_S cX13_waitsFor 72 cX13_waitsFor_r3 := dw_Sn (w := cX13_waitsFor_w2) (r := cX13_waitsFor_r3) cX13_waitsFor_s2 (by decide +kernel)
theorem cX13_waitsFor_k2 : dw_ok cX13_waitsFor (ByteArray.mk cX13_waitsFor_w2.toArray) 48 := dw_Sw (r := cX13_waitsFor_r3) cX13_waitsFor_s2
theorem cX13_waitsFor_s4 : dw_S cX13_waitsFor 96 cX13_waitsFor_r4 := dw_Sn (w := cX13_waitsFor_w3) (r := cX13_waitsFor_r4) cX13_waitsFor_s3 (by decide +kernel)
theorem cX13_waitsFor_k3 : dw_ok cX13_waitsFor (ByteArray.mk cX13_waitsFor_w3.toArray) 72 := dw_Sw (r := cX13_waitsFor_r4) cX13_waitsFor_s3
theorem cX13_waitsFor_s5 : dw_S cX13_waitsFor 121 cX13_waitsFor_r5 := dw_Sn (w := cX13_waitsFor_w4) (r := cX13_waitsFor_r5) cX13_waitsFor_s4 (by decide +kernel)
theorem cX13_waitsFor_k4 : dw_ok cX13_waitsFor (ByteArray.mk cX13_waitsFor_w4.toArray) 96 := dw_Sw (r := cX13_waitsFor_r5) cX13_waitsFor_s4
theorem cX13_waitsFor_k5 : dw_ok cX13_waitsFor (ByteArray.mk cX13_waitsFor_w5.toArray) 121 := dw_Sw (r := []) cX13_waitsFor_s5
def cX13_way_w14 : List UInt8 := [0xb4, 0x01, 0xd7, 0x99, 0x00, 0x07, 0x05, 0xa7, 0x00, 0x04, 0x02, 0xac]
def cX13_way_r14 : List UInt8 := cX13_way_w14 ++ []
def cX13_way_w13 : List UInt8 := [0x2a, 0xb4, 0x00, 0x72, 0xb6, 0x00, 0x47, 0x2a, 0x2a, 0xb4, 0x00, 0x72, 0x15, 0x06, 0xb6, 0x02, 0x1f, 0x84, 0x04, 0x01, 0xa7, 0xff, 0x7f, 0x2a]
def cX13_way_r13 : List UInt8 := cX13_way_w13 ++ cX13_way_r14
def cX13_way_w12 : List UInt8 := [0x02, 0x36, 0x06, 0x15, 0x06, 0x02, 0x9f, 0x00, 0x24, 0x2a, 0xb4, 0x00, 0x8f, 0x10, 0x20, 0x15, 0x04, 0x68, 0x2a, 0xb4, 0x00, 0x72, 0xb8, 0x01, 0xae]
def cX13_way_r12 : List UInt8 := cX13_way_w12 ++ cX13_way_r13
def cX13_way_w11 : List UInt8 := [0xa0, 0x00, 0x07, 0x05, 0xa7, 0x00, 0x17, 0x15, 0x05, 0x05, 0xa0, 0x00, 0x07, 0x06, 0xa7, 0x00, 0x0d, 0x15, 0x05, 0x9a, 0x00, 0x07, 0x07, 0xa7, 0x00, 0x04]
def cX13_way_r11 : List UInt8 := cX13_way_w11 ++ cX13_way_r12
def cX13_way_w10 : List UInt8 := [0x15, 0x05, 0x02, 0xa0, 0x00, 0x07, 0x03, 0xa7, 0x00, 0x2c, 0x15, 0x05, 0x04, 0xa0, 0x00, 0x07, 0x04, 0xa7, 0x00, 0x22, 0x15, 0x05, 0x10, 0xfe]
def cX13_way_r10 : List UInt8 := cX13_way_w10 ++ cX13_way_r11
def cX13_way_w9 : List UInt8 := [0xb4, 0x01, 0xd7, 0x9a, 0x00, 0x77, 0x1d, 0x2a, 0xb4, 0x00, 0x8f, 0x10, 0x20, 0x15, 0x04, 0x68, 0xb8, 0x00, 0x43, 0x05, 0x6c, 0x64, 0x36, 0x05]
def cX13_way_r9 : List UInt8 := cX13_way_w9 ++ cX13_way_r10
def cX13_way_w8 : List UInt8 := [0x2a, 0xb4, 0x00, 0x98, 0x03, 0xb8, 0x00, 0x43, 0x05, 0x6c, 0x3e, 0x03, 0x36, 0x04, 0x15, 0x04, 0x2a, 0xb4, 0x01, 0xdb, 0xa2, 0x00, 0x7e, 0x2a]
def cX13_way_r8 : List UInt8 := cX13_way_w8 ++ cX13_way_r9
def cX13_way_w7 : List UInt8 := [0x03, 0xb8, 0x01, 0xbd, 0x99, 0x00, 0x05, 0x04, 0xac, 0x84, 0x03, 0x01, 0xa7, 0xff, 0xe0, 0x2a, 0x03, 0xb5, 0x01, 0xd7, 0x2a, 0x04, 0xb5, 0x01, 0xd1]
def cX13_way_r7 : List UInt8 := cX13_way_w7 ++ cX13_way_r8
def cX13_way_w6 : List UInt8 := [0xa7, 0xff, 0xe1, 0x03, 0x3e, 0x1d, 0x2a, 0xb4, 0x01, 0xdb, 0xa2, 0x00, 0x1e, 0x2a, 0xb4, 0x00, 0x8f, 0x10, 0x20, 0x1d, 0x68, 0x2a, 0xb4, 0x00, 0x98]
def cX13_way_r6 : List UInt8 := cX13_way_w6 ++ cX13_way_r7
def cX13_way_w5 : List UInt8 := [0x2a, 0x1b, 0x2a, 0xb4, 0x00, 0x72, 0xb6, 0x01, 0xb2, 0x2a, 0x05, 0xb5, 0x01, 0xd1, 0x2a, 0x2a, 0xb4, 0x00, 0x72, 0x1d, 0xb6, 0x02, 0x1f, 0x84, 0x03, 0x01]
def cX13_way_r5 : List UInt8 := cX13_way_w5 ++ cX13_way_r6
def cX13_way_w4 : List UInt8 := [0x10, 0x20, 0x1c, 0x68, 0x1d, 0x60, 0x2e, 0x4f, 0x84, 0x03, 0x01, 0xa7, 0xff, 0xdf, 0x2a, 0x03, 0xb5, 0x01, 0xdb, 0x03, 0x3e, 0x1d, 0x08, 0xa2, 0x00, 0x20]
def cX13_way_r4 : List UInt8 := cX13_way_w4 ++ cX13_way_r5
def cX13_way_w3 : List UInt8 := [0x03, 0xac, 0x03, 0x3e, 0x1d, 0x2a, 0xb4, 0x00, 0x6e, 0x10, 0x20, 0x1c, 0x68, 0x2e, 0xa3, 0x00, 0x1a, 0x2a, 0xb4, 0x00, 0x98, 0x1d, 0x2a, 0xb4, 0x00, 0x6e]
def cX13_way_r3 : List UInt8 := cX13_way_w3 ++ cX13_way_r4
def cX13_way_w2 : List UInt8 := [0x68, 0xb8, 0x00, 0x43, 0x10, 0x08, 0xa4, 0x00, 0x09, 0x2a, 0x05, 0xb6, 0x01, 0x93, 0xac, 0x2a, 0x1b, 0x1c, 0xb6, 0x02, 0x25, 0x99, 0x00, 0x05]
def cX13_way_r2 : List UInt8 := cX13_way_w2 ++ cX13_way_r3
def cX13_way_w1 : List UInt8 := [0xac, 0x2a, 0xb4, 0x00, 0x6e, 0x10, 0x20, 0x1b, 0x68, 0xb8, 0x00, 0x43, 0x10, 0x08, 0xa3, 0x00, 0x13, 0x2a, 0xb4, 0x00, 0x6e, 0x10, 0x20, 0x1c]
def cX13_way_r1 : List UInt8 := cX13_way_w1 ++ cX13_way_r2
def cX13_way_w0 : List UInt8 := [0x2a, 0x03, 0xb5, 0x00, 0x01, 0x2a, 0x1b, 0xb6, 0x01, 0xa7, 0x99, 0x00, 0x0b, 0x2a, 0x1c, 0xb6, 0x01, 0xa7, 0x9a, 0x00, 0x09, 0x2a, 0x04, 0xb6, 0x01, 0x93]
def cX13_way_r0 : List UInt8 := cX13_way_w0 ++ cX13_way_r1
theorem cX13_way_s0 : dw_S cX13_way 0 cX13_way_r0 := dw_S0 (by decide +kernel)
theorem cX13_way_s1 : dw_S cX13_way 26 cX13_way_r1 := dw_Sn (w := cX13_way_w0) (r := cX13_way_r1) cX13_way_s0 (by decide +kernel)
theorem cX13_way_k0 : dw_ok cX13_way (ByteArray.mk cX13_way_w0.toArray) 0 := dw_Sw (r := cX13_way_r1) cX13_way_s0
theorem cX13_way_s2 : dw_S cX13_way 50 cX13_way_r2 := dw_Sn (w := cX13_way_w1) (r := cX13_way_r2) cX13_way_s1 (by decide +kernel)
theorem cX13_way_k1 : dw_ok cX13_way (ByteArray.mk cX13_way_w1.toArray) 26 := dw_Sw (r := cX13_way_r2) cX13_way_s1
theorem cX13_way_s3 : dw_S cX13_way 74 cX13_way_r3 := dw_Sn (w := cX13_way_w2) (r := cX13_way_r3) cX13_way_s2 (by decide +kernel)
theorem cX13_way_k2 : dw_ok cX13_way (ByteArray.mk cX13_way_w2.toArray) 50 := dw_Sw (r := cX13_way_r3) cX13_way_s2
theorem cX13_way_s4 : dw_S cX13_way 100 cX13_way_r4 := dw_Sn (w := cX13_way_w3) (r := cX13_way_r4) cX13_way_s3 (by decide +kernel)
theorem cX13_way_k3 : dw_ok cX13_way (ByteArray.mk cX13_way_w3.toArray) 74 := dw_Sw (r := cX13_way_r4) cX13_way_s3
theorem cX13_way_s5 : dw_S cX13_way 126 cX13_way_r5 := dw_Sn (w := cX13_way_w4) (r := cX13_way_r5) cX13_way_s4 (by decide +kernel)
theorem cX13_way_k4 : dw_ok cX13_way (ByteArray.mk cX13_way_w4.toArray) 100 := dw_Sw (r := cX13_way_r5) cX13_way_s4
theorem cX13_way_s6 : dw_S cX13_way 152 cX13_way_r6 := dw_Sn (w := cX13_way_w5) (r := cX13_way_r6) cX13_way_s5 (by decide +kernel)
theorem cX13_way_k5 : dw_ok cX13_way (ByteArray.mk cX13_way_w5.toArray) 126 := dw_Sw (r := cX13_way_r6) cX13_way_s5
theorem cX13_way_s7 : dw_S cX13_way 177 cX13_way_r7 := dw_Sn (w := cX13_way_w6) (r := cX13_way_r7) cX13_way_s6 (by decide +kernel)
theorem cX13_way_k6 : dw_ok cX13_way (ByteArray.mk cX13_way_w6.toArray) 152 := dw_Sw (r := cX13_way_r7) cX13_way_s6
theorem cX13_way_s8 : dw_S cX13_way 202 cX13_way_r8 := dw_Sn (w := cX13_way_w7) (r := cX13_way_r8) cX13_way_s7 (by decide +kernel)
theorem cX13_way_k7 : dw_ok cX13_way (ByteArray.mk cX13_way_w7.toArray) 177 := dw_Sw (r := cX13_way_r8) cX13_way_s7
theorem cX13_way_s9 : dw_S cX13_way 226 cX13_way_r9 := dw_Sn (w := cX13_way_w8) (r := cX13_way_r9) cX13_way_s8 (by decide +kernel)
theorem cX13_way_k8 : dw_ok cX13_way (ByteArray.mk cX13_way_w8.toArray) 202 := dw_Sw (r := cX13_way_r9) cX13_way_s8
theorem cX13_way_s10 : dw_S cX13_way 250 cX13_way_r10 := dw_Sn (w := cX13_way_w9) (r := cX13_way_r10) cX13_way_s9 (by decide +kernel)
theorem cX13_way_k9 : dw_ok cX13_way (ByteArray.mk cX13_way_w9.toArray) 226 := dw_Sw (r := cX13_way_r10) cX13_way_s9
theorem cX13_way_s11 : dw_S cX13_way 274 cX13_way_r11 := dw_Sn (w := cX13_way_w10) (r := cX13_way_r11) cX13_way_s10 (by decide +kernel)
theorem cX13_way_k10 : dw_ok cX13_way (ByteArray.mk cX13_way_w10.toArray) 250 := dw_Sw (r := cX13_way_r11) cX13_way_s10
theorem cX13_way_s12 : dw_S cX13_way 300 cX13_way_r12 := dw_Sn (w := cX13_way_w11) (r := cX13_way_r12) cX13_way_s11 (by decide +kernel)
theorem cX13_way_k11 : dw_ok cX13_way (ByteArray.mk cX13_way_w11.toArray) 274 := dw_Sw (r := cX13_way_r12) cX13_way_s11
theorem cX13_way_s13 : dw_S cX13_way 325 cX13_way_r13 := dw_Sn (w := cX13_way_w12) (r := cX13_way_r13) cX13_way_s12 (by decide +kernel)
theorem cX13_way_k12 : dw_ok cX13_way (ByteArray.mk cX13_way_w12.toArray) 300 := dw_Sw (r := cX13_way_r13) cX13_way_s12
theorem cX13_way_s14 : dw_S cX13_way 349 cX13_way_r14 := dw_Sn (w := cX13_way_w13) (r := cX13_way_r14) cX13_way_s13 (by decide +kernel)
theorem cX13_way_k13 : dw_ok cX13_way (ByteArray.mk cX13_way_w13.toArray) 325 := dw_Sw (r := cX13_way_r14) cX13_way_s13
theorem cX13_way_k14 : dw_ok cX13_way (ByteArray.mk cX13_way_w14.toArray) 349 := dw_Sw (r := []) cX13_way_s14
def cX13_without_w4 : List UInt8 := [0xb4, 0x00, 0x79, 0xb6, 0x00, 0x5e, 0x84, 0x04, 0x01, 0xa7, 0xff, 0xa5, 0x2a, 0xb6, 0x01, 0xeb, 0xb1]
def cX13_without_r4 : List UInt8 := cX13_without_w4 ++ []
def cX13_without_w3 : List UInt8 := [0x2b, 0xb4, 0x00, 0x17, 0x15, 0x05, 0x2e, 0x2b, 0xb4, 0x00, 0x20, 0x15, 0x05, 0x2e, 0xb6, 0x00, 0x61, 0x84, 0x05, 0x01, 0xa7, 0xff, 0xc4, 0x2a]
def cX13_without_r3 : List UInt8 := cX13_without_w3 ++ cX13_without_r4
def cX13_without_w2 : List UInt8 := [0x2b, 0xb4, 0x00, 0x17, 0x15, 0x05, 0x2e, 0x1c, 0x9f, 0x00, 0x23, 0x2b, 0xb4, 0x00, 0x17, 0x15, 0x05, 0x2e, 0x1d, 0x9f, 0x00, 0x18, 0x2a, 0xb4, 0x00, 0x79]
def cX13_without_r2 : List UInt8 := cX13_without_w2 ++ cX13_without_r3
def cX13_without_w1 : List UInt8 := [0xa2, 0x00, 0x58, 0x2b, 0xb4, 0x01, 0xc4, 0x15, 0x04, 0x2e, 0x36, 0x05, 0x15, 0x05, 0x2b, 0xb4, 0x01, 0xc4, 0x15, 0x04, 0x04, 0x60, 0x2e, 0xa2, 0x00, 0x34]
def cX13_without_r1 : List UInt8 := cX13_without_w1 ++ cX13_without_r2
def cX13_without_w0 : List UInt8 := [0x2a, 0xb4, 0x00, 0x79, 0xb6, 0x00, 0x5b, 0x2a, 0xb4, 0x00, 0x79, 0x2b, 0xb6, 0x01, 0xc0, 0x03, 0x36, 0x04, 0x15, 0x04, 0x2b, 0xb4, 0x01, 0x97]
def cX13_without_r0 : List UInt8 := cX13_without_w0 ++ cX13_without_r1
theorem cX13_without_s0 : dw_S cX13_without 0 cX13_without_r0 := dw_S0 (by decide +kernel)
theorem cX13_without_s1 : dw_S cX13_without 24 cX13_without_r1 := dw_Sn (w := cX13_without_w0) (r := cX13_without_r1) cX13_without_s0 (by decide +kernel)
theorem cX13_without_k0 : dw_ok cX13_without (ByteArray.mk cX13_without_w0.toArray) 0 := dw_Sw (r := cX13_without_r1) cX13_without_s0
theorem cX13_without_s2 : dw_S cX13_without 50 cX13_without_r2 := dw_Sn (w := cX13_without_w1) (r := cX13_without_r2) cX13_without_s1 (by decide +kernel)
theorem cX13_without_k1 : dw_ok cX13_without (ByteArray.mk cX13_without_w1.toArray) 24 := dw_Sw (r := cX13_without_r2) cX13_without_s1
theorem cX13_without_s3 : dw_S cX13_without 76 cX13_without_r3 := dw_Sn (w := cX13_without_w2) (r := cX13_without_r3) cX13_without_s2 (by decide +kernel)
theorem cX13_without_k2 : dw_ok cX13_without (ByteArray.mk cX13_without_w2.toArray) 50 := dw_Sw (r := cX13_without_r3) cX13_without_s2
theorem cX13_without_s4 : dw_S cX13_without 100 cX13_without_r4 := dw_Sn (w := cX13_without_w3) (r := cX13_without_r4) cX13_without_s3 (by decide +kernel)
theorem cX13_without_k3 : dw_ok cX13_without (ByteArray.mk cX13_without_w3.toArray) 76 := dw_Sw (r := cX13_without_r4) cX13_without_s3
theorem cX13_without_k4 : dw_ok cX13_without (ByteArray.mk cX13_without_w4.toArray) 100 := dw_Sw (r := []) cX13_without_s4
def cX13_writheOf_w1 : List UInt8 := [0x2a, 0xb4, 0x00, 0x17, 0x1c, 0x2e, 0x2e, 0xa7, 0x00, 0x04, 0x03, 0x60, 0x3c, 0x84, 0x02, 0x01, 0xa7, 0xff, 0xda, 0x1b, 0xac]
def cX13_writheOf_r1 : List UInt8 := cX13_writheOf_w1 ++ []
def cX13_writheOf_w0 : List UInt8 := [0x03, 0x3c, 0x03, 0x3d, 0x1c, 0x2a, 0xb4, 0x00, 0x2c, 0xa2, 0x00, 0x24, 0x1b, 0x2a, 0xb4, 0x00, 0x20, 0x1c, 0x2e, 0x9a, 0x00, 0x11, 0x2a, 0xb4, 0x00, 0x23]
def cX13_writheOf_r0 : List UInt8 := cX13_writheOf_w0 ++ cX13_writheOf_r1
theorem cX13_writheOf_s0 : dw_S cX13_writheOf 0 cX13_writheOf_r0 := dw_S0 (by decide +kernel)
theorem cX13_writheOf_s1 : dw_S cX13_writheOf 26 cX13_writheOf_r1 := dw_Sn (w := cX13_writheOf_w0) (r := cX13_writheOf_r1) cX13_writheOf_s0 (by decide +kernel)
theorem cX13_writheOf_k0 : dw_ok cX13_writheOf (ByteArray.mk cX13_writheOf_w0.toArray) 0 := dw_Sw (r := cX13_writheOf_r1) cX13_writheOf_s0
theorem cX13_writheOf_k1 : dw_ok cX13_writheOf (ByteArray.mk cX13_writheOf_w1.toArray) 26 := dw_Sw (r := []) cX13_writheOf_s1
def cX1_addCircle_w3 : List UInt8 := [0x60, 0x4f, 0x15, 0x05, 0x3e, 0x84, 0x04, 0x01, 0xa7, 0xff, 0xc1, 0x84, 0x01, 0x01, 0xa7, 0xff, 0xab, 0xb1]
def cX1_addCircle_r3 : List UInt8 := cX1_addCircle_w3 ++ []
def cX1_addCircle_w2 : List UInt8 := [0x1c, 0x15, 0x04, 0x60, 0x04, 0x60, 0x2e, 0xa7, 0x00, 0x04, 0x03, 0x36, 0x06, 0x2a, 0xb4, 0x00, 0x40, 0x1c, 0x15, 0x04, 0x60, 0x1d, 0x15, 0x06]
def cX1_addCircle_r2 : List UInt8 := cX1_addCircle_w2 ++ cX1_addCircle_r3
def cX1_addCircle_w1 : List UInt8 := [0x2a, 0xb4, 0x00, 0x40, 0x1c, 0x15, 0x04, 0x60, 0x2e, 0x36, 0x05, 0x15, 0x04, 0x04, 0x60, 0x10, 0x38, 0xa2, 0x00, 0x11, 0x2a, 0xb4, 0x00, 0x40]
def cX1_addCircle_r1 : List UInt8 := cX1_addCircle_w1 ++ cX1_addCircle_r2
def cX1_addCircle_w0 : List UInt8 := [0x03, 0x3c, 0x1b, 0x10, 0x08, 0xa3, 0x00, 0x55, 0x1b, 0x10, 0x38, 0x68, 0x3d, 0x03, 0x3e, 0x03, 0x36, 0x04, 0x15, 0x04, 0x10, 0x38, 0xa2, 0x00, 0x3e]
def cX1_addCircle_r0 : List UInt8 := cX1_addCircle_w0 ++ cX1_addCircle_r1
theorem cX1_addCircle_s0 : dw_S cX1_addCircle 0 cX1_addCircle_r0 := dw_S0 (by decide +kernel)
theorem cX1_addCircle_s1 : dw_S cX1_addCircle 25 cX1_addCircle_r1 := dw_Sn (w := cX1_addCircle_w0) (r := cX1_addCircle_r1) cX1_addCircle_s0 (by decide +kernel)
theorem cX1_addCircle_k0 : dw_ok cX1_addCircle (ByteArray.mk cX1_addCircle_w0.toArray) 0 := dw_Sw (r := cX1_addCircle_r1) cX1_addCircle_s0
theorem cX1_addCircle_s2 : dw_S cX1_addCircle 49 cX1_addCircle_r2 := dw_Sn (w := cX1_addCircle_w1) (r := cX1_addCircle_r2) cX1_addCircle_s1 (by decide +kernel)
theorem cX1_addCircle_k1 : dw_ok cX1_addCircle (ByteArray.mk cX1_addCircle_w1.toArray) 25 := dw_Sw (r := cX1_addCircle_r2) cX1_addCircle_s1
theorem cX1_addCircle_s3 : dw_S cX1_addCircle 73 cX1_addCircle_r3 := dw_Sn (w := cX1_addCircle_w2) (r := cX1_addCircle_r3) cX1_addCircle_s2 (by decide +kernel)
theorem cX1_addCircle_k2 : dw_ok cX1_addCircle (ByteArray.mk cX1_addCircle_w2.toArray) 49 := dw_Sw (r := cX1_addCircle_r3) cX1_addCircle_s2
theorem cX1_addCircle_k3 : dw_ok cX1_addCircle (ByteArray.mk cX1_addCircle_w3.toArray) 73 := dw_Sw (r := []) cX1_addCircle_s3
def cX1_carry_w2 : List UInt8 := [0x60, 0x33, 0x60, 0x33, 0x36, 0x08, 0x15, 0x06, 0x1c, 0x15, 0x08, 0x7a, 0x04, 0x7e, 0x15, 0x07, 0x78, 0x80, 0x36, 0x06, 0x84, 0x07, 0x01, 0xa7, 0xff, 0xbe, 0x15, 0x06, 0xac]
def cX1_carry_r2 : List UInt8 := cX1_carry_w2 ++ []
def cX1_carry_w1 : List UInt8 := [0x15, 0x07, 0x15, 0x05, 0x9f, 0x00, 0x29, 0x2a, 0xb4, 0x00, 0x12, 0x1b, 0x10, 0x10, 0x68, 0x2a, 0xb4, 0x00, 0x1a, 0x1d, 0x10, 0x0a, 0x68, 0x15, 0x07]
def cX1_carry_r1 : List UInt8 := cX1_carry_w1 ++ cX1_carry_r2
def cX1_carry_w0 : List UInt8 := [0x03, 0x36, 0x06, 0x03, 0x36, 0x07, 0x15, 0x07, 0x2a, 0xb4, 0x00, 0x16, 0x1d, 0x2e, 0xa2, 0x00, 0x3d, 0x15, 0x07, 0x15, 0x04, 0x9f, 0x00, 0x30]
def cX1_carry_r0 : List UInt8 := cX1_carry_w0 ++ cX1_carry_r1
theorem cX1_carry_s0 : dw_S cX1_carry 0 cX1_carry_r0 := dw_S0 (by decide +kernel)
theorem cX1_carry_s1 : dw_S cX1_carry 24 cX1_carry_r1 := dw_Sn (w := cX1_carry_w0) (r := cX1_carry_r1) cX1_carry_s0 (by decide +kernel)
theorem cX1_carry_k0 : dw_ok cX1_carry (ByteArray.mk cX1_carry_w0.toArray) 0 := dw_Sw (r := cX1_carry_r1) cX1_carry_s0
theorem cX1_carry_s2 : dw_S cX1_carry 49 cX1_carry_r2 := dw_Sn (w := cX1_carry_w1) (r := cX1_carry_r2) cX1_carry_s1 (by decide +kernel)
theorem cX1_carry_k1 : dw_ok cX1_carry (ByteArray.mk cX1_carry_w1.toArray) 24 := dw_Sw (r := cX1_carry_r2) cX1_carry_s1
theorem cX1_carry_k2 : dw_ok cX1_carry (ByteArray.mk cX1_carry_w2.toArray) 49 := dw_Sw (r := []) cX1_carry_s2
def cX1_compute_w5 : List UInt8 := [0x3e, 0x84, 0x04, 0x01, 0xa7, 0xff, 0xe9, 0x1d, 0xac]
def cX1_compute_r5 : List UInt8 := cX1_compute_w5 ++ []
def cX1_compute_w4 : List UInt8 := [0x03, 0x3e, 0x03, 0x36, 0x04, 0x15, 0x04, 0x2a, 0xb4, 0x00, 0x40, 0xbe, 0xa2, 0x00, 0x13, 0x1d, 0x2a, 0xb4, 0x00, 0x40, 0x15, 0x04, 0x2e, 0x60]
def cX1_compute_r4 : List UInt8 := cX1_compute_w4 ++ cX1_compute_r5
def cX1_compute_w3 : List UInt8 := [0xa7, 0xff, 0xf2, 0x03, 0x3e, 0x1d, 0x2a, 0xb4, 0x00, 0x0c, 0xb4, 0x00, 0x6d, 0xa2, 0x00, 0x0d, 0x2a, 0xb6, 0x00, 0x70, 0x84, 0x03, 0x01, 0xa7, 0xff, 0xee]
def cX1_compute_r3 : List UInt8 := cX1_compute_w3 ++ cX1_compute_r4
def cX1_compute_w2 : List UInt8 := [0x2a, 0xb4, 0x00, 0x40, 0x03, 0xb8, 0x00, 0x63, 0x10, 0xf6, 0x3e, 0x1d, 0x10, 0x12, 0xa3, 0x00, 0x0e, 0x2a, 0x1d, 0xb6, 0x00, 0x69, 0x84, 0x03, 0x01]
def cX1_compute_r2 : List UInt8 := cX1_compute_w2 ++ cX1_compute_r3
def cX1_compute_w1 : List UInt8 := [0xb5, 0x00, 0x58, 0x2a, 0x2a, 0xb4, 0x00, 0x0c, 0xb4, 0x00, 0x5a, 0x2a, 0xb4, 0x00, 0x58, 0x64, 0x05, 0x6c, 0xb5, 0x00, 0x5d, 0x2a, 0xb6, 0x00, 0x60]
def cX1_compute_r1 : List UInt8 := cX1_compute_w1 ++ cX1_compute_r2
def cX1_compute_w0 : List UInt8 := [0x2a, 0xb4, 0x00, 0x0c, 0x2b, 0xb6, 0x00, 0x49, 0x2a, 0xb6, 0x00, 0x4d, 0x2a, 0x1c, 0xb5, 0x00, 0x50, 0x2a, 0x2a, 0xb4, 0x00, 0x0c, 0xb6, 0x00, 0x54]
def cX1_compute_r0 : List UInt8 := cX1_compute_w0 ++ cX1_compute_r1
theorem cX1_compute_s0 : dw_S cX1_compute 0 cX1_compute_r0 := dw_S0 (by decide +kernel)
theorem cX1_compute_s1 : dw_S cX1_compute 25 cX1_compute_r1 := dw_Sn (w := cX1_compute_w0) (r := cX1_compute_r1) cX1_compute_s0 (by decide +kernel)
theorem cX1_compute_k0 : dw_ok cX1_compute (ByteArray.mk cX1_compute_w0.toArray) 0 := dw_Sw (r := cX1_compute_r1) cX1_compute_s0
theorem cX1_compute_s2 : dw_S cX1_compute 50 cX1_compute_r2 := dw_Sn (w := cX1_compute_w1) (r := cX1_compute_r2) cX1_compute_s1 (by decide +kernel)
theorem cX1_compute_k1 : dw_ok cX1_compute (ByteArray.mk cX1_compute_w1.toArray) 25 := dw_Sw (r := cX1_compute_r2) cX1_compute_s1
theorem cX1_compute_s3 : dw_S cX1_compute 75 cX1_compute_r3 := dw_Sn (w := cX1_compute_w2) (r := cX1_compute_r3) cX1_compute_s2 (by decide +kernel)
theorem cX1_compute_k2 : dw_ok cX1_compute (ByteArray.mk cX1_compute_w2.toArray) 50 := dw_Sw (r := cX1_compute_r3) cX1_compute_s2
theorem cX1_compute_s4 : dw_S cX1_compute 101 cX1_compute_r4 := dw_Sn (w := cX1_compute_w3) (r := cX1_compute_r4) cX1_compute_s3 (by decide +kernel)
theorem cX1_compute_k3 : dw_ok cX1_compute (ByteArray.mk cX1_compute_w3.toArray) 75 := dw_Sw (r := cX1_compute_r4) cX1_compute_s3
theorem cX1_compute_s5 : dw_S cX1_compute 125 cX1_compute_r5 := dw_Sn (w := cX1_compute_w4) (r := cX1_compute_r5) cX1_compute_s4 (by decide +kernel)
theorem cX1_compute_k4 : dw_ok cX1_compute (ByteArray.mk cX1_compute_w4.toArray) 101 := dw_Sw (r := cX1_compute_r5) cX1_compute_s4
theorem cX1_compute_k5 : dw_ok cX1_compute (ByteArray.mk cX1_compute_w5.toArray) 125 := dw_Sw (r := []) cX1_compute_s5
def cX1_eliminate_w6 : List UInt8 := [0xa7, 0xff, 0xb9, 0x84, 0x04, 0x01, 0xa7, 0xff, 0x8b, 0x1d, 0xac]
def cX1_eliminate_r6 : List UInt8 := cX1_eliminate_w6 ++ []
def cX1_eliminate_w5 : List UInt8 := [0x60, 0x2e, 0x9a, 0x00, 0x13, 0x2a, 0x15, 0x04, 0x15, 0x05, 0xb6, 0x00, 0xa9, 0x1d, 0x2a, 0x1c, 0xb6, 0x00, 0xad, 0x60, 0x3e, 0x84, 0x05, 0x01]
def cX1_eliminate_r5 : List UInt8 := cX1_eliminate_w5 ++ cX1_eliminate_r6
def cX1_eliminate_w4 : List UInt8 := [0x15, 0x04, 0x2e, 0xa0, 0x00, 0x2a, 0x2a, 0xb4, 0x00, 0x37, 0x2a, 0xb4, 0x00, 0x28, 0x15, 0x04, 0x2e, 0x2a, 0xb4, 0x00, 0x1d, 0x15, 0x05, 0x2e]
def cX1_eliminate_r4 : List UInt8 := cX1_eliminate_w4 ++ cX1_eliminate_r5
def cX1_eliminate_w3 : List UInt8 := [0x03, 0x36, 0x05, 0x15, 0x05, 0x04, 0x2a, 0xb4, 0x00, 0x16, 0x15, 0x04, 0x2e, 0x78, 0xa2, 0x00, 0x3f, 0x15, 0x05, 0xb8, 0x00, 0x43, 0x2a, 0xb4, 0x00, 0x25]
def cX1_eliminate_r3 : List UInt8 := cX1_eliminate_w3 ++ cX1_eliminate_r4
def cX1_eliminate_w2 : List UInt8 := [0xa2, 0x00, 0x6d, 0x15, 0x04, 0xb8, 0x00, 0x43, 0x1b, 0xa0, 0x00, 0x5e, 0x2a, 0xb4, 0x00, 0x25, 0x15, 0x04, 0x2e, 0x02, 0xa0, 0x00, 0x06, 0xa7, 0x00, 0x50]
def cX1_eliminate_r2 : List UInt8 := cX1_eliminate_w2 ++ cX1_eliminate_r3
def cX1_eliminate_w1 : List UInt8 := [0x2a, 0xb4, 0x00, 0x2e, 0x03, 0x1c, 0x03, 0xb8, 0x00, 0xa6, 0x03, 0x36, 0x04, 0x15, 0x04, 0x04, 0x2a, 0xb4, 0x00, 0x0c, 0xb4, 0x00, 0x5a, 0x78]
def cX1_eliminate_r1 : List UInt8 := cX1_eliminate_w1 ++ cX1_eliminate_r2
def cX1_eliminate_w0 : List UInt8 := [0x2a, 0xb4, 0x00, 0x2b, 0x1b, 0x04, 0x60, 0x2e, 0x3d, 0x03, 0x3e, 0x2a, 0x03, 0xb5, 0x00, 0xa3, 0x2a, 0xb4, 0x00, 0x31, 0x03, 0x1c, 0x02, 0xb8, 0x00, 0xa6]
def cX1_eliminate_r0 : List UInt8 := cX1_eliminate_w0 ++ cX1_eliminate_r1
theorem cX1_eliminate_s0 : dw_S cX1_eliminate 0 cX1_eliminate_r0 := dw_S0 (by decide +kernel)
theorem cX1_eliminate_s1 : dw_S cX1_eliminate 26 cX1_eliminate_r1 := dw_Sn (w := cX1_eliminate_w0) (r := cX1_eliminate_r1) cX1_eliminate_s0 (by decide +kernel)
theorem cX1_eliminate_k0 : dw_ok cX1_eliminate (ByteArray.mk cX1_eliminate_w0.toArray) 0 := dw_Sw (r := cX1_eliminate_r1) cX1_eliminate_s0
theorem cX1_eliminate_s2 : dw_S cX1_eliminate 50 cX1_eliminate_r2 := dw_Sn (w := cX1_eliminate_w1) (r := cX1_eliminate_r2) cX1_eliminate_s1 (by decide +kernel)
theorem cX1_eliminate_k1 : dw_ok cX1_eliminate (ByteArray.mk cX1_eliminate_w1.toArray) 26 := dw_Sw (r := cX1_eliminate_r2) cX1_eliminate_s1
theorem cX1_eliminate_s3 : dw_S cX1_eliminate 76 cX1_eliminate_r3 := dw_Sn (w := cX1_eliminate_w2) (r := cX1_eliminate_r3) cX1_eliminate_s2 (by decide +kernel)
theorem cX1_eliminate_k2 : dw_ok cX1_eliminate (ByteArray.mk cX1_eliminate_w2.toArray) 50 := dw_Sw (r := cX1_eliminate_r3) cX1_eliminate_s2
theorem cX1_eliminate_s4 : dw_S cX1_eliminate 102 cX1_eliminate_r4 := dw_Sn (w := cX1_eliminate_w3) (r := cX1_eliminate_r4) cX1_eliminate_s3 (by decide +kernel)
theorem cX1_eliminate_k3 : dw_ok cX1_eliminate (ByteArray.mk cX1_eliminate_w3.toArray) 76 := dw_Sw (r := cX1_eliminate_r4) cX1_eliminate_s3
theorem cX1_eliminate_s5 : dw_S cX1_eliminate 126 cX1_eliminate_r5 := dw_Sn (w := cX1_eliminate_w4) (r := cX1_eliminate_r5) cX1_eliminate_s4 (by decide +kernel)
theorem cX1_eliminate_k4 : dw_ok cX1_eliminate (ByteArray.mk cX1_eliminate_w4.toArray) 102 := dw_Sw (r := cX1_eliminate_r5) cX1_eliminate_s4
theorem cX1_eliminate_s6 : dw_S cX1_eliminate 150 cX1_eliminate_r6 := dw_Sn (w := cX1_eliminate_w5) (r := cX1_eliminate_r6) cX1_eliminate_s5 (by decide +kernel)
theorem cX1_eliminate_k5 : dw_ok cX1_eliminate (ByteArray.mk cX1_eliminate_w5.toArray) 126 := dw_Sw (r := cX1_eliminate_r6) cX1_eliminate_s5
theorem cX1_eliminate_k6 : dw_ok cX1_eliminate (ByteArray.mk cX1_eliminate_w6.toArray) 150 := dw_Sw (r := []) cX1_eliminate_s6
def cX1_goRound_w6 : List UInt8 := [0x15, 0x07, 0x04, 0x82, 0x2e, 0x36, 0x04, 0x84, 0x06, 0x01, 0xa7, 0xff, 0x6c, 0xb1]
def cX1_goRound_r6 : List UInt8 := cX1_goRound_w6 ++ []
def cX1_goRound_w5 : List UInt8 := [0x04, 0xa7, 0x00, 0x04, 0x03, 0x36, 0x05, 0x15, 0x05, 0x99, 0x00, 0x0a, 0x15, 0x07, 0x04, 0x82, 0xa7, 0x00, 0x0f, 0x2a, 0xb4, 0x00, 0x0c, 0xb4, 0x00, 0x97]
def cX1_goRound_r5 : List UInt8 := cX1_goRound_w5 ++ cX1_goRound_r6
def cX1_goRound_w4 : List UInt8 := [0x9a, 0x00, 0x07, 0x04, 0xa7, 0x00, 0x04, 0x03, 0xa0, 0x00, 0x07, 0x04, 0xa7, 0x00, 0x04, 0x03, 0x36, 0x08, 0x15, 0x08, 0x15, 0x05, 0xa0, 0x00, 0x07]
def cX1_goRound_r4 : List UInt8 := cX1_goRound_w4 ++ cX1_goRound_r5
def cX1_goRound_w3 : List UInt8 := [0xb4, 0x00, 0x94, 0x15, 0x07, 0x04, 0x7a, 0x2e, 0x9e, 0x00, 0x07, 0x04, 0xa7, 0x00, 0x04, 0x03, 0x1b, 0x15, 0x07, 0x04, 0x7a, 0x7a, 0x04, 0x7e]
def cX1_goRound_r3 : List UInt8 := cX1_goRound_w3 ++ cX1_goRound_r4
def cX1_goRound_w2 : List UInt8 := [0x99, 0x00, 0x10, 0x2a, 0xb4, 0x00, 0x0c, 0xb4, 0x00, 0x91, 0x15, 0x04, 0x2e, 0xa7, 0x00, 0x05, 0x15, 0x04, 0x36, 0x07, 0x2a, 0xb4, 0x00, 0x0c]
def cX1_goRound_r2 : List UInt8 := cX1_goRound_w2 ++ cX1_goRound_r3
def cX1_goRound_w1 : List UInt8 := [0x15, 0x04, 0x60, 0x33, 0x02, 0xa0, 0x00, 0x83, 0x2a, 0xb4, 0x00, 0x12, 0x1b, 0x10, 0x10, 0x68, 0x15, 0x04, 0x60, 0x1d, 0x91, 0x54, 0x15, 0x05]
def cX1_goRound_r1 : List UInt8 := cX1_goRound_w1 ++ cX1_goRound_r2
def cX1_goRound_w0 : List UInt8 := [0x1c, 0x36, 0x04, 0x04, 0x36, 0x05, 0x03, 0x36, 0x06, 0x15, 0x06, 0x10, 0x10, 0xa2, 0x00, 0x93, 0x2a, 0xb4, 0x00, 0x12, 0x1b, 0x10, 0x10, 0x68]
def cX1_goRound_r0 : List UInt8 := cX1_goRound_w0 ++ cX1_goRound_r1
theorem cX1_goRound_s0 : dw_S cX1_goRound 0 cX1_goRound_r0 := dw_S0 (by decide +kernel)
theorem cX1_goRound_s1 : dw_S cX1_goRound 24 cX1_goRound_r1 := dw_Sn (w := cX1_goRound_w0) (r := cX1_goRound_r1) cX1_goRound_s0 (by decide +kernel)
theorem cX1_goRound_k0 : dw_ok cX1_goRound (ByteArray.mk cX1_goRound_w0.toArray) 0 := dw_Sw (r := cX1_goRound_r1) cX1_goRound_s0
theorem cX1_goRound_s2 : dw_S cX1_goRound 48 cX1_goRound_r2 := dw_Sn (w := cX1_goRound_w1) (r := cX1_goRound_r2) cX1_goRound_s1 (by decide +kernel)
theorem cX1_goRound_k1 : dw_ok cX1_goRound (ByteArray.mk cX1_goRound_w1.toArray) 24 := dw_Sw (r := cX1_goRound_r2) cX1_goRound_s1
theorem cX1_goRound_s3 : dw_S cX1_goRound 72 cX1_goRound_r3 := dw_Sn (w := cX1_goRound_w2) (r := cX1_goRound_r3) cX1_goRound_s2 (by decide +kernel)
theorem cX1_goRound_k2 : dw_ok cX1_goRound (ByteArray.mk cX1_goRound_w2.toArray) 48 := dw_Sw (r := cX1_goRound_r3) cX1_goRound_s2
theorem cX1_goRound_s4 : dw_S cX1_goRound 96 cX1_goRound_r4 := dw_Sn (w := cX1_goRound_w3) (r := cX1_goRound_r4) cX1_goRound_s3 (by decide +kernel)
theorem cX1_goRound_k3 : dw_ok cX1_goRound (ByteArray.mk cX1_goRound_w3.toArray) 72 := dw_Sw (r := cX1_goRound_r4) cX1_goRound_s3
theorem cX1_goRound_s5 : dw_S cX1_goRound 121 cX1_goRound_r5 := dw_Sn (w := cX1_goRound_w4) (r := cX1_goRound_r5) cX1_goRound_s4 (by decide +kernel)
theorem cX1_goRound_k4 : dw_ok cX1_goRound (ByteArray.mk cX1_goRound_w4.toArray) 96 := dw_Sw (r := cX1_goRound_r5) cX1_goRound_s4
theorem cX1_goRound_s6 : dw_S cX1_goRound 147 cX1_goRound_r6 := dw_Sn (w := cX1_goRound_w5) (r := cX1_goRound_r6) cX1_goRound_s5 (by decide +kernel)
theorem cX1_goRound_k5 : dw_ok cX1_goRound (ByteArray.mk cX1_goRound_w5.toArray) 121 := dw_Sw (r := cX1_goRound_r6) cX1_goRound_s5
theorem cX1_goRound_k6 : dw_ok cX1_goRound (ByteArray.mk cX1_goRound_w6.toArray) 147 := dw_Sw (r := []) cX1_goRound_s6
def cX1_init_w10 : List UInt8 := [0x2e, 0x4f, 0x2b, 0x1c, 0xb8, 0x00, 0x43, 0x5c, 0x2e, 0x04, 0x60, 0x4f, 0x84, 0x02, 0x01, 0xa7, 0xff, 0xde, 0xb1]
def cX1_init_r10 : List UInt8 := cX1_init_w10 ++ []
def cX1_init_w9 : List UInt8 := [0x10, 0x0b, 0xbc, 0x0a, 0x4c, 0x03, 0x3d, 0x1c, 0x2a, 0xb4, 0x00, 0x1d, 0xbe, 0xa2, 0x00, 0x1f, 0x2a, 0xb4, 0x00, 0x1d, 0x1c, 0x2b, 0x1c, 0xb8, 0x00, 0x43]
def cX1_init_r9 : List UInt8 := cX1_init_w9 ++ cX1_init_r10
def cX1_init_w8 : List UInt8 := [0x2a, 0xb4, 0x00, 0x22, 0x1b, 0x04, 0x64, 0x32, 0x1c, 0x2e, 0x60, 0x4f, 0x84, 0x02, 0x01, 0xa7, 0xff, 0xd9, 0x84, 0x01, 0x01, 0xa7, 0xff, 0xc2]
def cX1_init_r8 : List UInt8 := cX1_init_w8 ++ cX1_init_r9
def cX1_init_w7 : List UInt8 := [0x1c, 0x1b, 0xa3, 0x00, 0x28, 0x2a, 0xb4, 0x00, 0x22, 0x1b, 0x32, 0x1c, 0x2a, 0xb4, 0x00, 0x22, 0x1b, 0x04, 0x64, 0x32, 0x1c, 0x04, 0x64, 0x2e]
def cX1_init_r7 : List UInt8 := cX1_init_w7 ++ cX1_init_r8
def cX1_init_w6 : List UInt8 := [0xbc, 0x0a, 0xb5, 0x00, 0x40, 0x03, 0x3c, 0x1b, 0x10, 0x0a, 0xa3, 0x00, 0x3e, 0x2a, 0xb4, 0x00, 0x22, 0x1b, 0x32, 0x03, 0x04, 0x4f, 0x04, 0x3d]
def cX1_init_r6 : List UInt8 := cX1_init_w6 ++ cX1_init_r7
def cX1_init_w5 : List UInt8 := [0xb5, 0x00, 0x37, 0x2a, 0x11, 0x4e, 0x20, 0xbc, 0x0a, 0xb5, 0x00, 0x3a, 0x2a, 0x11, 0x4e, 0x20, 0xbc, 0x0a, 0xb5, 0x00, 0x3d, 0x2a, 0x11, 0x01, 0xf8]
def cX1_init_r5 : List UInt8 := cX1_init_w5 ++ cX1_init_r6
def cX1_init_w4 : List UInt8 := [0x2a, 0x11, 0x02, 0x80, 0xbc, 0x0a, 0xb5, 0x00, 0x31, 0x2a, 0x11, 0x02, 0x80, 0xbc, 0x0a, 0xb5, 0x00, 0x34, 0x2a, 0x11, 0x02, 0x80, 0xbc, 0x0a]
def cX1_init_r4 : List UInt8 := cX1_init_w4 ++ cX1_init_r5
def cX1_init_w3 : List UInt8 := [0x2a, 0x11, 0x01, 0x00, 0xbc, 0x0a, 0xb5, 0x00, 0x28, 0x2a, 0x10, 0x0a, 0xbc, 0x0a, 0xb5, 0x00, 0x2b, 0x2a, 0x11, 0x02, 0x80, 0xbc, 0x0a, 0xb5, 0x00, 0x2e]
def cX1_init_r3 : List UInt8 := cX1_init_w3 ++ cX1_init_r4
def cX1_init_w2 : List UInt8 := [0xb5, 0x00, 0x1d, 0x2a, 0x10, 0x0b, 0x10, 0x0b, 0xc5, 0x00, 0x20, 0x02, 0xb5, 0x00, 0x22, 0x2a, 0x11, 0x01, 0x00, 0xbc, 0x0a, 0xb5, 0x00, 0x25]
def cX1_init_r2 : List UInt8 := cX1_init_w2 ++ cX1_init_r3
def cX1_init_w1 : List UInt8 := [0x2a, 0x11, 0x01, 0x00, 0xbc, 0x0a, 0xb5, 0x00, 0x16, 0x2a, 0x11, 0x0a, 0x00, 0xbc, 0x08, 0xb5, 0x00, 0x1a, 0x2a, 0x11, 0x04, 0x00, 0xbc, 0x0a]
def cX1_init_r1 : List UInt8 := cX1_init_w1 ++ cX1_init_r2
def cX1_init_w0 : List UInt8 := [0x2a, 0xb7, 0x00, 0x03, 0x2a, 0xbb, 0x00, 0x09, 0x59, 0xb7, 0x00, 0x0b, 0xb5, 0x00, 0x0c, 0x2a, 0x11, 0x10, 0x00, 0xbc, 0x08, 0xb5, 0x00, 0x12]
def cX1_init_r0 : List UInt8 := cX1_init_w0 ++ cX1_init_r1
theorem cX1_init_s0 : dw_S cX1_init 0 cX1_init_r0 := dw_S0 (by decide +kernel)
theorem cX1_init_s1 : dw_S cX1_init 24 cX1_init_r1 := dw_Sn (w := cX1_init_w0) (r := cX1_init_r1) cX1_init_s0 (by decide +kernel)
theorem cX1_init_k0 : dw_ok cX1_init (ByteArray.mk cX1_init_w0.toArray) 0 := dw_Sw (r := cX1_init_r1) cX1_init_s0
theorem cX1_init_s2 : dw_S cX1_init 48 cX1_init_r2 := dw_Sn (w := cX1_init_w1) (r := cX1_init_r2) cX1_init_s1 (by decide +kernel)
theorem cX1_init_k1 : dw_ok cX1_init (ByteArray.mk cX1_init_w1.toArray) 24 := dw_Sw (r := cX1_init_r2) cX1_init_s1
theorem cX1_init_s3 : dw_S cX1_init 72 cX1_init_r3 := dw_Sn (w := cX1_init_w2) (r := cX1_init_r3) cX1_init_s2 (by decide +kernel)
theorem cX1_init_k2 : dw_ok cX1_init (ByteArray.mk cX1_init_w2.toArray) 48 := dw_Sw (r := cX1_init_r3) cX1_init_s2
theorem cX1_init_s4 : dw_S cX1_init 98 cX1_init_r4 := dw_Sn (w := cX1_init_w3) (r := cX1_init_r4) cX1_init_s3 (by decide +kernel)
theorem cX1_init_k3 : dw_ok cX1_init (ByteArray.mk cX1_init_w3.toArray) 72 := dw_Sw (r := cX1_init_r4) cX1_init_s3
theorem cX1_init_s5 : dw_S cX1_init 122 cX1_init_r5 := dw_Sn (w := cX1_init_w4) (r := cX1_init_r5) cX1_init_s4 (by decide +kernel)
theorem cX1_init_k4 : dw_ok cX1_init (ByteArray.mk cX1_init_w4.toArray) 98 := dw_Sw (r := cX1_init_r5) cX1_init_s4
theorem cX1_init_s6 : dw_S cX1_init 147 cX1_init_r6 := dw_Sn (w := cX1_init_w5) (r := cX1_init_r6) cX1_init_s5 (by decide +kernel)
theorem cX1_init_k5 : dw_ok cX1_init (ByteArray.mk cX1_init_w5.toArray) 122 := dw_Sw (r := cX1_init_r6) cX1_init_s5
theorem cX1_init_s7 : dw_S cX1_init 171 cX1_init_r7 := dw_Sn (w := cX1_init_w6) (r := cX1_init_r7) cX1_init_s6 (by decide +kernel)
theorem cX1_init_k6 : dw_ok cX1_init (ByteArray.mk cX1_init_w6.toArray) 147 := dw_Sw (r := cX1_init_r7) cX1_init_s6
theorem cX1_init_s8 : dw_S cX1_init 195 cX1_init_r8 := dw_Sn (w := cX1_init_w7) (r := cX1_init_r8) cX1_init_s7 (by decide +kernel)
theorem cX1_init_k7 : dw_ok cX1_init (ByteArray.mk cX1_init_w7.toArray) 171 := dw_Sw (r := cX1_init_r8) cX1_init_s7
theorem cX1_init_s9 : dw_S cX1_init 219 cX1_init_r9 := dw_Sn (w := cX1_init_w8) (r := cX1_init_r9) cX1_init_s8 (by decide +kernel)
theorem cX1_init_k8 : dw_ok cX1_init (ByteArray.mk cX1_init_w8.toArray) 195 := dw_Sw (r := cX1_init_r9) cX1_init_s8
theorem cX1_init_s10 : dw_S cX1_init 245 cX1_init_r10 := dw_Sn (w := cX1_init_w9) (r := cX1_init_r10) cX1_init_s9 (by decide +kernel)
theorem cX1_init_k9 : dw_ok cX1_init (ByteArray.mk cX1_init_w9.toArray) 219 := dw_Sw (r := cX1_init_r10) cX1_init_s9
theorem cX1_init_k10 : dw_ok cX1_init (ByteArray.mk cX1_init_w10.toArray) 245 := dw_Sw (r := []) cX1_init_s10
def cX1_keepRow_w6 : List UInt8 := [0xa7, 0xff, 0xb9, 0x2a, 0xb4, 0x00, 0x34, 0x1b, 0x2a, 0xb4, 0x00, 0xa3, 0x4f, 0xb1]
def cX1_keepRow_r6 : List UInt8 := cX1_keepRow_w6 ++ []
def cX1_keepRow_w5 : List UInt8 := [0xb4, 0x00, 0x50, 0x70, 0x4f, 0x2a, 0x59, 0xb4, 0x00, 0xa3, 0x04, 0x60, 0xb5, 0x00, 0xa3, 0x2a, 0xb4, 0x00, 0x2e, 0x15, 0x04, 0x03, 0x4f, 0x84, 0x04, 0x01]
def cX1_keepRow_r5 : List UInt8 := cX1_keepRow_w5 ++ cX1_keepRow_r6
def cX1_keepRow_w4 : List UInt8 := [0xb4, 0x00, 0xa3, 0x15, 0x04, 0x4f, 0x2a, 0xb4, 0x00, 0x3d, 0x2a, 0xb4, 0x00, 0xa3, 0x2a, 0xb4, 0x00, 0x2e, 0x15, 0x04, 0x2e, 0x1d, 0x68, 0x2a]
def cX1_keepRow_r4 : List UInt8 := cX1_keepRow_w4 ++ cX1_keepRow_r5
def cX1_keepRow_w3 : List UInt8 := [0x1b, 0x36, 0x04, 0x15, 0x04, 0x1c, 0xa2, 0x00, 0x47, 0x2a, 0xb4, 0x00, 0x2e, 0x15, 0x04, 0x2e, 0x99, 0x00, 0x37, 0x2a, 0xb4, 0x00, 0x3a, 0x2a]
def cX1_keepRow_r3 : List UInt8 := cX1_keepRow_w3 ++ cX1_keepRow_r4
def cX1_keepRow_w2 : List UInt8 := [0xb5, 0x00, 0x3d, 0x2a, 0x2a, 0xb4, 0x00, 0x2e, 0x1b, 0x2e, 0xb6, 0x00, 0xc2, 0x3e, 0x2a, 0xb4, 0x00, 0x31, 0x1b, 0x2a, 0xb4, 0x00, 0xa3, 0x4f]
def cX1_keepRow_r2 : List UInt8 := cX1_keepRow_w2 ++ cX1_keepRow_r3
def cX1_keepRow_w1 : List UInt8 := [0x1c, 0x60, 0x68, 0xb8, 0x00, 0xbe, 0xb5, 0x00, 0x3a, 0x2a, 0x2a, 0xb4, 0x00, 0x3d, 0x05, 0x2a, 0xb4, 0x00, 0xa3, 0x1c, 0x60, 0x68, 0xb8, 0x00, 0xbe]
def cX1_keepRow_r1 : List UInt8 := cX1_keepRow_w1 ++ cX1_keepRow_r2
def cX1_keepRow_w0 : List UInt8 := [0x2a, 0xb4, 0x00, 0xa3, 0x1c, 0x60, 0x1b, 0x64, 0x2a, 0xb4, 0x00, 0x3a, 0xbe, 0xa4, 0x00, 0x29, 0x2a, 0x2a, 0xb4, 0x00, 0x3a, 0x05, 0x2a, 0xb4, 0x00, 0xa3]
def cX1_keepRow_r0 : List UInt8 := cX1_keepRow_w0 ++ cX1_keepRow_r1
theorem cX1_keepRow_s0 : dw_S cX1_keepRow 0 cX1_keepRow_r0 := dw_S0 (by decide +kernel)
theorem cX1_keepRow_s1 : dw_S cX1_keepRow 26 cX1_keepRow_r1 := dw_Sn (w := cX1_keepRow_w0) (r := cX1_keepRow_r1) cX1_keepRow_s0 (by decide +kernel)
theorem cX1_keepRow_k0 : dw_ok cX1_keepRow (ByteArray.mk cX1_keepRow_w0.toArray) 0 := dw_Sw (r := cX1_keepRow_r1) cX1_keepRow_s0
theorem cX1_keepRow_s2 : dw_S cX1_keepRow 51 cX1_keepRow_r2 := dw_Sn (w := cX1_keepRow_w1) (r := cX1_keepRow_r2) cX1_keepRow_s1 (by decide +kernel)
theorem cX1_keepRow_k1 : dw_ok cX1_keepRow (ByteArray.mk cX1_keepRow_w1.toArray) 26 := dw_Sw (r := cX1_keepRow_r2) cX1_keepRow_s1
theorem cX1_keepRow_s3 : dw_S cX1_keepRow 75 cX1_keepRow_r3 := dw_Sn (w := cX1_keepRow_w2) (r := cX1_keepRow_r3) cX1_keepRow_s2 (by decide +kernel)
theorem cX1_keepRow_k2 : dw_ok cX1_keepRow (ByteArray.mk cX1_keepRow_w2.toArray) 51 := dw_Sw (r := cX1_keepRow_r3) cX1_keepRow_s2
theorem cX1_keepRow_s4 : dw_S cX1_keepRow 99 cX1_keepRow_r4 := dw_Sn (w := cX1_keepRow_w3) (r := cX1_keepRow_r4) cX1_keepRow_s3 (by decide +kernel)
theorem cX1_keepRow_k3 : dw_ok cX1_keepRow (ByteArray.mk cX1_keepRow_w3.toArray) 75 := dw_Sw (r := cX1_keepRow_r4) cX1_keepRow_s3
theorem cX1_keepRow_s5 : dw_S cX1_keepRow 123 cX1_keepRow_r5 := dw_Sn (w := cX1_keepRow_w4) (r := cX1_keepRow_r5) cX1_keepRow_s4 (by decide +kernel)
theorem cX1_keepRow_k4 : dw_ok cX1_keepRow (ByteArray.mk cX1_keepRow_w4.toArray) 99 := dw_Sw (r := cX1_keepRow_r5) cX1_keepRow_s4
theorem cX1_keepRow_s6 : dw_S cX1_keepRow 149 cX1_keepRow_r6 := dw_Sn (w := cX1_keepRow_w5) (r := cX1_keepRow_r6) cX1_keepRow_s5 (by decide +kernel)
theorem cX1_keepRow_k5 : dw_ok cX1_keepRow (ByteArray.mk cX1_keepRow_w5.toArray) 123 := dw_Sw (r := cX1_keepRow_r6) cX1_keepRow_s5
theorem cX1_keepRow_k6 : dw_ok cX1_keepRow (ByteArray.mk cX1_keepRow_w6.toArray) 149 := dw_Sw (r := []) cX1_keepRow_s6
def cX1_layOut_w7 : List UInt8 := [0xb4, 0x00, 0x37, 0x03, 0xb8, 0x00, 0x63, 0xb1]
def cX1_layOut_r7 : List UInt8 := cX1_layOut_w7 ++ []
def cX1_layOut_w6 : List UInt8 := [0xb4, 0x00, 0x2b, 0xbe, 0xa2, 0x00, 0x13, 0x2a, 0x2a, 0xb4, 0x00, 0x2b, 0x1c, 0x2e, 0xb6, 0x00, 0xa0, 0x84, 0x02, 0x01, 0xa7, 0xff, 0xea, 0x2a]
def cX1_layOut_r6 : List UInt8 := cX1_layOut_w6 ++ cX1_layOut_r7
def cX1_layOut_w5 : List UInt8 := [0x1c, 0x2e, 0x32, 0x15, 0x04, 0x05, 0x6c, 0x2e, 0xa7, 0x00, 0x04, 0x03, 0x60, 0x4f, 0x84, 0x02, 0x01, 0xa7, 0xff, 0x7e, 0x03, 0x3d, 0x1c, 0x2a]
def cX1_layOut_r5 : List UInt8 := cX1_layOut_w5 ++ cX1_layOut_r6
def cX1_layOut_w4 : List UInt8 := [0xb4, 0x00, 0x2b, 0x1d, 0x2e, 0x4f, 0x2a, 0xb4, 0x00, 0x2b, 0x1d, 0x5c, 0x2e, 0x15, 0x05, 0x99, 0x00, 0x16, 0x2a, 0xb4, 0x00, 0x22, 0x2a, 0xb4, 0x00, 0x16]
def cX1_layOut_r4 : List UInt8 := cX1_layOut_w4 ++ cX1_layOut_r5
def cX1_layOut_w3 : List UInt8 := [0xb4, 0x00, 0x25, 0x1c, 0x15, 0x05, 0x99, 0x00, 0x0a, 0x15, 0x04, 0x05, 0x6c, 0xa7, 0x00, 0x04, 0x02, 0x4f, 0x2a, 0xb4, 0x00, 0x28, 0x1c, 0x2a]
def cX1_layOut_r3 : List UInt8 := cX1_layOut_w3 ++ cX1_layOut_r4
def cX1_layOut_w2 : List UInt8 := [0x9b, 0x00, 0x14, 0x15, 0x04, 0x05, 0x2a, 0xb4, 0x00, 0x16, 0x1c, 0x2e, 0x68, 0xa3, 0x00, 0x07, 0x04, 0xa7, 0x00, 0x04, 0x03, 0x36, 0x05, 0x2a]
def cX1_layOut_r2 : List UInt8 := cX1_layOut_w2 ++ cX1_layOut_r3
def cX1_layOut_w1 : List UInt8 := [0xb8, 0x00, 0x43, 0x3e, 0x2a, 0xb4, 0x00, 0x16, 0x1c, 0x2e, 0x1b, 0x60, 0x1d, 0x64, 0x36, 0x04, 0x15, 0x04, 0x04, 0x7e, 0x9a, 0x00, 0x19, 0x15, 0x04]
def cX1_layOut_r1 : List UInt8 := cX1_layOut_w1 ++ cX1_layOut_r2
def cX1_layOut_w0 : List UInt8 := [0x2a, 0xb4, 0x00, 0x2b, 0x03, 0xb8, 0x00, 0x63, 0x03, 0x3d, 0x1c, 0x04, 0x2a, 0xb4, 0x00, 0x0c, 0xb4, 0x00, 0x5a, 0x78, 0xa2, 0x00, 0x7b, 0x1c]
def cX1_layOut_r0 : List UInt8 := cX1_layOut_w0 ++ cX1_layOut_r1
theorem cX1_layOut_s0 : dw_S cX1_layOut 0 cX1_layOut_r0 := dw_S0 (by decide +kernel)
theorem cX1_layOut_s1 : dw_S cX1_layOut 24 cX1_layOut_r1 := dw_Sn (w := cX1_layOut_w0) (r := cX1_layOut_r1) cX1_layOut_s0 (by decide +kernel)
theorem cX1_layOut_k0 : dw_ok cX1_layOut (ByteArray.mk cX1_layOut_w0.toArray) 0 := dw_Sw (r := cX1_layOut_r1) cX1_layOut_s0
theorem cX1_layOut_s2 : dw_S cX1_layOut 49 cX1_layOut_r2 := dw_Sn (w := cX1_layOut_w1) (r := cX1_layOut_r2) cX1_layOut_s1 (by decide +kernel)
theorem cX1_layOut_k1 : dw_ok cX1_layOut (ByteArray.mk cX1_layOut_w1.toArray) 24 := dw_Sw (r := cX1_layOut_r2) cX1_layOut_s1
theorem cX1_layOut_s3 : dw_S cX1_layOut 73 cX1_layOut_r3 := dw_Sn (w := cX1_layOut_w2) (r := cX1_layOut_r3) cX1_layOut_s2 (by decide +kernel)
theorem cX1_layOut_k2 : dw_ok cX1_layOut (ByteArray.mk cX1_layOut_w2.toArray) 49 := dw_Sw (r := cX1_layOut_r3) cX1_layOut_s2
theorem cX1_layOut_s4 : dw_S cX1_layOut 97 cX1_layOut_r4 := dw_Sn (w := cX1_layOut_w3) (r := cX1_layOut_r4) cX1_layOut_s3 (by decide +kernel)
theorem cX1_layOut_k3 : dw_ok cX1_layOut (ByteArray.mk cX1_layOut_w3.toArray) 73 := dw_Sw (r := cX1_layOut_r4) cX1_layOut_s3
theorem cX1_layOut_s5 : dw_S cX1_layOut 123 cX1_layOut_r5 := dw_Sn (w := cX1_layOut_w4) (r := cX1_layOut_r5) cX1_layOut_s4 (by decide +kernel)
theorem cX1_layOut_k4 : dw_ok cX1_layOut (ByteArray.mk cX1_layOut_w4.toArray) 97 := dw_Sw (r := cX1_layOut_r5) cX1_layOut_s4
theorem cX1_layOut_s6 : dw_S cX1_layOut 147 cX1_layOut_r6 := dw_Sn (w := cX1_layOut_w5) (r := cX1_layOut_r6) cX1_layOut_s5 (by decide +kernel)
theorem cX1_layOut_k5 : dw_ok cX1_layOut (ByteArray.mk cX1_layOut_w5.toArray) 123 := dw_Sw (r := cX1_layOut_r6) cX1_layOut_s5
theorem cX1_layOut_s7 : dw_S cX1_layOut 171 cX1_layOut_r7 := dw_Sn (w := cX1_layOut_w6) (r := cX1_layOut_r7) cX1_layOut_s6 (by decide +kernel)
theorem cX1_layOut_k6 : dw_ok cX1_layOut (ByteArray.mk cX1_layOut_w6.toArray) 147 := dw_Sw (r := cX1_layOut_r7) cX1_layOut_s6
theorem cX1_layOut_k7 : dw_ok cX1_layOut (ByteArray.mk cX1_layOut_w7.toArray) 171 := dw_Sw (r := []) cX1_layOut_s7
def cX1_makeRoom_w1 : List UInt8 := [0xb5, 0x00, 0x31, 0x2a, 0x05, 0x1b, 0x68, 0xbc, 0x0a, 0xb5, 0x00, 0x34, 0x2a, 0x05, 0x1b, 0x68, 0xbc, 0x0a, 0xb5, 0x00, 0x37, 0xb1]
def cX1_makeRoom_r1 : List UInt8 := cX1_makeRoom_w1 ++ []
def cX1_makeRoom_w0 : List UInt8 := [0x1b, 0x2a, 0xb4, 0x00, 0x2e, 0xbe, 0xa4, 0x00, 0x27, 0x2a, 0x05, 0x1b, 0x68, 0xbc, 0x0a, 0xb5, 0x00, 0x2e, 0x2a, 0x05, 0x1b, 0x68, 0xbc, 0x0a]
def cX1_makeRoom_r0 : List UInt8 := cX1_makeRoom_w0 ++ cX1_makeRoom_r1
theorem cX1_makeRoom_s0 : dw_S cX1_makeRoom 0 cX1_makeRoom_r0 := dw_S0 (by decide +kernel)
theorem cX1_makeRoom_s1 : dw_S cX1_makeRoom 24 cX1_makeRoom_r1 := dw_Sn (w := cX1_makeRoom_w0) (r := cX1_makeRoom_r1) cX1_makeRoom_s0 (by decide +kernel)
theorem cX1_makeRoom_k0 : dw_ok cX1_makeRoom (ByteArray.mk cX1_makeRoom_w0.toArray) 0 := dw_Sw (r := cX1_makeRoom_r1) cX1_makeRoom_s0
theorem cX1_makeRoom_k1 : dw_ok cX1_makeRoom (ByteArray.mk cX1_makeRoom_w1.toArray) 24 := dw_Sw (r := []) cX1_makeRoom_s1
def cX1_markLoops_w4 : List UInt8 := [0xa7, 0xff, 0xce, 0x2a, 0xb4, 0x00, 0x16, 0x1c, 0x1d, 0x4f, 0x84, 0x02, 0x01, 0xa7, 0xff, 0x9d, 0xb1]
def cX1_markLoops_r4 : List UInt8 := cX1_markLoops_w4 ++ []
def cX1_markLoops_w3 : List UInt8 := [0x1c, 0x10, 0x0a, 0x68, 0x1d, 0x60, 0x15, 0x04, 0x91, 0x54, 0x2a, 0x1c, 0x15, 0x04, 0x1d, 0xb6, 0x00, 0x8d, 0x84, 0x03, 0x01, 0x84, 0x04, 0x01]
def cX1_markLoops_r3 : List UInt8 := cX1_markLoops_w3 ++ cX1_markLoops_r4
def cX1_markLoops_w2 : List UInt8 := [0x1b, 0xa2, 0x00, 0x32, 0x2a, 0xb4, 0x00, 0x12, 0x1c, 0x10, 0x10, 0x68, 0x15, 0x04, 0x60, 0x33, 0x02, 0xa0, 0x00, 0x1c, 0x2a, 0xb4, 0x00, 0x1a]
def cX1_markLoops_r2 : List UInt8 := cX1_markLoops_w2 ++ cX1_markLoops_r3
def cX1_markLoops_w1 : List UInt8 := [0x03, 0x3e, 0x2a, 0xb4, 0x00, 0x12, 0x1c, 0x10, 0x10, 0x68, 0x1c, 0x10, 0x10, 0x68, 0x1b, 0x60, 0x02, 0xb8, 0x00, 0x8a, 0x03, 0x36, 0x04, 0x15, 0x04]
def cX1_markLoops_r1 : List UInt8 := cX1_markLoops_w1 ++ cX1_markLoops_r2
def cX1_markLoops_w0 : List UInt8 := [0x05, 0x2a, 0xb4, 0x00, 0x0c, 0xb4, 0x00, 0x5a, 0x68, 0x3c, 0x03, 0x3d, 0x1c, 0x04, 0x2a, 0xb4, 0x00, 0x0c, 0xb4, 0x00, 0x5a, 0x78, 0xa2, 0x00, 0x5c]
def cX1_markLoops_r0 : List UInt8 := cX1_markLoops_w0 ++ cX1_markLoops_r1
theorem cX1_markLoops_s0 : dw_S cX1_markLoops 0 cX1_markLoops_r0 := dw_S0 (by decide +kernel)
theorem cX1_markLoops_s1 : dw_S cX1_markLoops 25 cX1_markLoops_r1 := dw_Sn (w := cX1_markLoops_w0) (r := cX1_markLoops_r1) cX1_markLoops_s0 (by decide +kernel)
theorem cX1_markLoops_k0 : dw_ok cX1_markLoops (ByteArray.mk cX1_markLoops_w0.toArray) 0 := dw_Sw (r := cX1_markLoops_r1) cX1_markLoops_s0
theorem cX1_markLoops_s2 : dw_S cX1_markLoops 50 cX1_markLoops_r2 := dw_Sn (w := cX1_markLoops_w1) (r := cX1_markLoops_r2) cX1_markLoops_s1 (by decide +kernel)
theorem cX1_markLoops_k1 : dw_ok cX1_markLoops (ByteArray.mk cX1_markLoops_w1.toArray) 25 := dw_Sw (r := cX1_markLoops_r2) cX1_markLoops_s1
theorem cX1_markLoops_s3 : dw_S cX1_markLoops 74 cX1_markLoops_r3 := dw_Sn (w := cX1_markLoops_w2) (r := cX1_markLoops_r3) cX1_markLoops_s2 (by decide +kernel)
theorem cX1_markLoops_k2 : dw_ok cX1_markLoops (ByteArray.mk cX1_markLoops_w2.toArray) 50 := dw_Sw (r := cX1_markLoops_r3) cX1_markLoops_s2
theorem cX1_markLoops_s4 : dw_S cX1_markLoops 98 cX1_markLoops_r4 := dw_Sn (w := cX1_markLoops_w3) (r := cX1_markLoops_r4) cX1_markLoops_s3 (by decide +kernel)
theorem cX1_markLoops_k3 : dw_ok cX1_markLoops (ByteArray.mk cX1_markLoops_w3.toArray) 74 := dw_Sw (r := cX1_markLoops_r4) cX1_markLoops_s3
theorem cX1_markLoops_k4 : dw_ok cX1_markLoops (ByteArray.mk cX1_markLoops_w4.toArray) 98 := dw_Sw (r := []) cX1_markLoops_s4
def cX1_otherLoop_w3 : List UInt8 := [0x15, 0x05, 0x15, 0x04, 0x9f, 0x00, 0x08, 0x15, 0x05, 0xa7, 0x00, 0x11, 0x15, 0x06, 0x15, 0x04, 0x9f, 0x00, 0x08, 0x15, 0x06, 0xa7, 0x00, 0x05, 0x15, 0x07, 0xac]
def cX1_otherLoop_r3 : List UInt8 := cX1_otherLoop_w3 ++ []
def cX1_otherLoop_w2 : List UInt8 := [0x33, 0x36, 0x06, 0x2a, 0xb4, 0x00, 0x12, 0x1d, 0x2a, 0xb4, 0x00, 0x0c, 0xb4, 0x00, 0x97, 0x05, 0x1c, 0x68, 0x04, 0x60, 0x2e, 0x60, 0x33, 0x36, 0x07]
def cX1_otherLoop_r2 : List UInt8 := cX1_otherLoop_w2 ++ cX1_otherLoop_r3
def cX1_otherLoop_w1 : List UInt8 := [0x68, 0x60, 0x04, 0x60, 0x33, 0x36, 0x05, 0x2a, 0xb4, 0x00, 0x12, 0x1d, 0x2a, 0xb4, 0x00, 0x0c, 0xb4, 0x00, 0x97, 0x05, 0x1c, 0x68, 0x2e, 0x60]
def cX1_otherLoop_r1 : List UInt8 := cX1_otherLoop_w1 ++ cX1_otherLoop_r2
def cX1_otherLoop_w0 : List UInt8 := [0x1b, 0x10, 0x10, 0x68, 0x3e, 0x2a, 0xb4, 0x00, 0x12, 0x1d, 0x05, 0x1c, 0x68, 0x60, 0x33, 0x36, 0x04, 0x2a, 0xb4, 0x00, 0x12, 0x1d, 0x05, 0x1c]
def cX1_otherLoop_r0 : List UInt8 := cX1_otherLoop_w0 ++ cX1_otherLoop_r1
theorem cX1_otherLoop_s0 : dw_S cX1_otherLoop 0 cX1_otherLoop_r0 := dw_S0 (by decide +kernel)
theorem cX1_otherLoop_s1 : dw_S cX1_otherLoop 24 cX1_otherLoop_r1 := dw_Sn (w := cX1_otherLoop_w0) (r := cX1_otherLoop_r1) cX1_otherLoop_s0 (by decide +kernel)
theorem cX1_otherLoop_k0 : dw_ok cX1_otherLoop (ByteArray.mk cX1_otherLoop_w0.toArray) 0 := dw_Sw (r := cX1_otherLoop_r1) cX1_otherLoop_s0
theorem cX1_otherLoop_s2 : dw_S cX1_otherLoop 48 cX1_otherLoop_r2 := dw_Sn (w := cX1_otherLoop_w1) (r := cX1_otherLoop_r2) cX1_otherLoop_s1 (by decide +kernel)
theorem cX1_otherLoop_k1 : dw_ok cX1_otherLoop (ByteArray.mk cX1_otherLoop_w1.toArray) 24 := dw_Sw (r := cX1_otherLoop_r2) cX1_otherLoop_s1
theorem cX1_otherLoop_s3 : dw_S cX1_otherLoop 73 cX1_otherLoop_r3 := dw_Sn (w := cX1_otherLoop_w2) (r := cX1_otherLoop_r3) cX1_otherLoop_s2 (by decide +kernel)
theorem cX1_otherLoop_k2 : dw_ok cX1_otherLoop (ByteArray.mk cX1_otherLoop_w2.toArray) 48 := dw_Sw (r := cX1_otherLoop_r3) cX1_otherLoop_s2
theorem cX1_otherLoop_k3 : dw_ok cX1_otherLoop (ByteArray.mk cX1_otherLoop_w3.toArray) 73 := dw_Sw (r := []) cX1_otherLoop_s3
def cX1_rankAt_w2 : List UInt8 := [0x16, 0x05, 0x14, 0x00, 0x77, 0x94, 0x9b, 0x00, 0x07, 0x03, 0xa7, 0x00, 0x11, 0x2a, 0xb4, 0x00, 0x40, 0x21, 0x14, 0x00, 0x77, 0x69, 0x16, 0x05, 0x61, 0x88, 0x2e, 0xac]
def cX1_rankAt_r2 : List UInt8 := cX1_rankAt_w2 ++ []
def cX1_rankAt_w1 : List UInt8 := [0x65, 0x37, 0x05, 0x21, 0x09, 0x94, 0x9b, 0x00, 0x1b, 0x21, 0x14, 0x00, 0x75, 0x94, 0x9d, 0x00, 0x13, 0x16, 0x05, 0x09, 0x94, 0x9b, 0x00, 0x0c]
def cX1_rankAt_r1 : List UInt8 := cX1_rankAt_w1 ++ cX1_rankAt_r2
def cX1_rankAt_w0 : List UInt8 := [0x1b, 0x85, 0x2a, 0xb4, 0x00, 0x5d, 0x85, 0x61, 0x42, 0x1c, 0x85, 0x2a, 0xb4, 0x00, 0x58, 0x85, 0x65, 0x2a, 0xb4, 0x00, 0x5d, 0x85, 0x61, 0x14, 0x00, 0x73]
def cX1_rankAt_r0 : List UInt8 := cX1_rankAt_w0 ++ cX1_rankAt_r1
theorem cX1_rankAt_s0 : dw_S cX1_rankAt 0 cX1_rankAt_r0 := dw_S0 (by decide +kernel)
theorem cX1_rankAt_s1 : dw_S cX1_rankAt 26 cX1_rankAt_r1 := dw_Sn (w := cX1_rankAt_w0) (r := cX1_rankAt_r1) cX1_rankAt_s0 (by decide +kernel)
theorem cX1_rankAt_k0 : dw_ok cX1_rankAt (ByteArray.mk cX1_rankAt_w0.toArray) 0 := dw_Sw (r := cX1_rankAt_r1) cX1_rankAt_s0
theorem cX1_rankAt_s2 : dw_S cX1_rankAt 50 cX1_rankAt_r2 := dw_Sn (w := cX1_rankAt_w1) (r := cX1_rankAt_r2) cX1_rankAt_s1 (by decide +kernel)
theorem cX1_rankAt_k1 : dw_ok cX1_rankAt (ByteArray.mk cX1_rankAt_w1.toArray) 26 := dw_Sw (r := cX1_rankAt_r2) cX1_rankAt_s1
theorem cX1_rankAt_k2 : dw_ok cX1_rankAt (ByteArray.mk cX1_rankAt_w2.toArray) 50 := dw_Sw (r := []) cX1_rankAt_s2
def cX1_rankDegree_w5 : List UInt8 := [0x84, 0x05, 0x01, 0xa7, 0xff, 0xd4, 0x84, 0x03, 0x01, 0xa7, 0xff, 0x86, 0xb1]
def cX1_rankDegree_r5 : List UInt8 := cX1_rankDegree_w5 ++ []
def cX1_rankDegree_w4 : List UInt8 := [0x15, 0x05, 0x15, 0x04, 0x9e, 0x00, 0x12, 0x2a, 0xb4, 0x00, 0x31, 0x15, 0x05, 0x2e, 0x02, 0x9f, 0x00, 0x07, 0x04, 0xa7, 0x00, 0x04, 0x03, 0x4f]
def cX1_rankDegree_r4 : List UInt8 := cX1_rankDegree_w4 ++ cX1_rankDegree_r5
def cX1_rankDegree_w3 : List UInt8 := [0x1c, 0x64, 0x4f, 0x15, 0x04, 0x3d, 0x03, 0x36, 0x05, 0x15, 0x05, 0x2a, 0xb4, 0x00, 0x2b, 0x1d, 0x04, 0x60, 0x2e, 0xa2, 0x00, 0x25, 0x2a, 0xb4, 0x00, 0x37]
def cX1_rankDegree_r3 : List UInt8 := cX1_rankDegree_w3 ++ cX1_rankDegree_r4
def cX1_rankDegree_w2 : List UInt8 := [0x36, 0x04, 0x2a, 0xb4, 0x00, 0x40, 0x1d, 0x10, 0x38, 0x68, 0x1b, 0x60, 0x10, 0xec, 0x64, 0x2a, 0xb4, 0x00, 0x2b, 0x1d, 0x2e, 0x15, 0x04, 0x64]
def cX1_rankDegree_r2 : List UInt8 := cX1_rankDegree_w2 ++ cX1_rankDegree_r3
def cX1_rankDegree_w1 : List UInt8 := [0xb4, 0x00, 0x2b, 0x1d, 0x2e, 0x9e, 0x00, 0x15, 0x2a, 0xb4, 0x00, 0x2b, 0x1d, 0x04, 0x60, 0x2e, 0x9e, 0x00, 0x0a, 0x2a, 0x1d, 0xb6, 0x00, 0x9d]
def cX1_rankDegree_r1 : List UInt8 := cX1_rankDegree_w1 ++ cX1_rankDegree_r2
def cX1_rankDegree_w0 : List UInt8 := [0x2a, 0x1b, 0xb6, 0x00, 0x9a, 0x03, 0x3d, 0x03, 0x3e, 0x1d, 0x2a, 0xb4, 0x00, 0x0c, 0xb4, 0x00, 0x5a, 0xa3, 0x00, 0x75, 0x03, 0x36, 0x04, 0x2a]
def cX1_rankDegree_r0 : List UInt8 := cX1_rankDegree_w0 ++ cX1_rankDegree_r1
theorem cX1_rankDegree_s0 : dw_S cX1_rankDegree 0 cX1_rankDegree_r0 := dw_S0 (by decide +kernel)
theorem cX1_rankDegree_s1 : dw_S cX1_rankDegree 24 cX1_rankDegree_r1 := dw_Sn (w := cX1_rankDegree_w0) (r := cX1_rankDegree_r1) cX1_rankDegree_s0 (by decide +kernel)
theorem cX1_rankDegree_k0 : dw_ok cX1_rankDegree (ByteArray.mk cX1_rankDegree_w0.toArray) 0 := dw_Sw (r := cX1_rankDegree_r1) cX1_rankDegree_s0
theorem cX1_rankDegree_s2 : dw_S cX1_rankDegree 48 cX1_rankDegree_r2 := dw_Sn (w := cX1_rankDegree_w1) (r := cX1_rankDegree_r2) cX1_rankDegree_s1 (by decide +kernel)
theorem cX1_rankDegree_k1 : dw_ok cX1_rankDegree (ByteArray.mk cX1_rankDegree_w1.toArray) 24 := dw_Sw (r := cX1_rankDegree_r2) cX1_rankDegree_s1
theorem cX1_rankDegree_s3 : dw_S cX1_rankDegree 72 cX1_rankDegree_r3 := dw_Sn (w := cX1_rankDegree_w2) (r := cX1_rankDegree_r3) cX1_rankDegree_s2 (by decide +kernel)
theorem cX1_rankDegree_k2 : dw_ok cX1_rankDegree (ByteArray.mk cX1_rankDegree_w2.toArray) 48 := dw_Sw (r := cX1_rankDegree_r3) cX1_rankDegree_s2
theorem cX1_rankDegree_s4 : dw_S cX1_rankDegree 98 cX1_rankDegree_r4 := dw_Sn (w := cX1_rankDegree_w3) (r := cX1_rankDegree_r4) cX1_rankDegree_s3 (by decide +kernel)
theorem cX1_rankDegree_k3 : dw_ok cX1_rankDegree (ByteArray.mk cX1_rankDegree_w3.toArray) 72 := dw_Sw (r := cX1_rankDegree_r4) cX1_rankDegree_s3
theorem cX1_rankDegree_s5 : dw_S cX1_rankDegree 122 cX1_rankDegree_r5 := dw_Sn (w := cX1_rankDegree_w4) (r := cX1_rankDegree_r5) cX1_rankDegree_s4 (by decide +kernel)
theorem cX1_rankDegree_k4 : dw_ok cX1_rankDegree (ByteArray.mk cX1_rankDegree_w4.toArray) 98 := dw_Sw (r := cX1_rankDegree_r5) cX1_rankDegree_s4
theorem cX1_rankDegree_k5 : dw_ok cX1_rankDegree (ByteArray.mk cX1_rankDegree_w5.toArray) 122 := dw_Sw (r := []) cX1_rankDegree_s5
def cX1_reciprocal_w2 : List UInt8 := [0x04, 0x7a, 0x36, 0x04, 0xa7, 0xff, 0xd7, 0x1c, 0xac]
def cX1_reciprocal_r2 : List UInt8 := cX1_reciprocal_w2 ++ []
def cX1_reciprocal_w1 : List UInt8 := [0x1c, 0x1d, 0x68, 0x2a, 0xb4, 0x00, 0x50, 0x70, 0xa7, 0x00, 0x04, 0x1c, 0x3d, 0x1d, 0x1d, 0x68, 0x2a, 0xb4, 0x00, 0x50, 0x70, 0x3e, 0x15, 0x04]
def cX1_reciprocal_r1 : List UInt8 := cX1_reciprocal_w1 ++ cX1_reciprocal_r2
def cX1_reciprocal_w0 : List UInt8 := [0x04, 0x3d, 0x1b, 0x3e, 0x2a, 0xb4, 0x00, 0x50, 0x05, 0x64, 0x36, 0x04, 0x15, 0x04, 0x9e, 0x00, 0x2a, 0x15, 0x04, 0x04, 0x7e, 0x04, 0xa0, 0x00, 0x0e]
def cX1_reciprocal_r0 : List UInt8 := cX1_reciprocal_w0 ++ cX1_reciprocal_r1
theorem cX1_reciprocal_s0 : dw_S cX1_reciprocal 0 cX1_reciprocal_r0 := dw_S0 (by decide +kernel)
theorem cX1_reciprocal_s1 : dw_S cX1_reciprocal 25 cX1_reciprocal_r1 := dw_Sn (w := cX1_reciprocal_w0) (r := cX1_reciprocal_r1) cX1_reciprocal_s0 (by decide +kernel)
theorem cX1_reciprocal_k0 : dw_ok cX1_reciprocal (ByteArray.mk cX1_reciprocal_w0.toArray) 0 := dw_Sw (r := cX1_reciprocal_r1) cX1_reciprocal_s0
theorem cX1_reciprocal_s2 : dw_S cX1_reciprocal 49 cX1_reciprocal_r2 := dw_Sn (w := cX1_reciprocal_w1) (r := cX1_reciprocal_r2) cX1_reciprocal_s1 (by decide +kernel)
theorem cX1_reciprocal_k1 : dw_ok cX1_reciprocal (ByteArray.mk cX1_reciprocal_w1.toArray) 25 := dw_Sw (r := cX1_reciprocal_r2) cX1_reciprocal_s1
theorem cX1_reciprocal_k2 : dw_ok cX1_reciprocal (ByteArray.mk cX1_reciprocal_w2.toArray) 49 := dw_Sw (r := []) cX1_reciprocal_s2
def cX1_reduce_w4 : List UInt8 := [0xb4, 0x00, 0x50, 0x70, 0x4f, 0x84, 0x04, 0x01, 0xa7, 0xff, 0xc6, 0x84, 0x02, 0x01, 0xa7, 0xff, 0x93, 0x03, 0xac]
def cX1_reduce_r4 : List UInt8 := cX1_reduce_w4 ++ []
def cX1_reduce_w3 : List UInt8 := [0x2a, 0xb4, 0x00, 0x3a, 0x15, 0x04, 0x2e, 0x2e, 0x2a, 0xb4, 0x00, 0x50, 0x1d, 0x64, 0x2a, 0xb4, 0x00, 0x3d, 0x15, 0x04, 0x2e, 0x68, 0x60, 0x2a]
def cX1_reduce_r3 : List UInt8 := cX1_reduce_w3 ++ cX1_reduce_r4
def cX1_reduce_w2 : List UInt8 := [0x2a, 0xb4, 0x00, 0x34, 0x1c, 0x2e, 0xa2, 0x00, 0x35, 0x2a, 0xb4, 0x00, 0x2e, 0x2a, 0xb4, 0x00, 0x3a, 0x15, 0x04, 0x2e, 0x2a, 0xb4, 0x00, 0x2e]
def cX1_reduce_r2 : List UInt8 := cX1_reduce_w2 ++ cX1_reduce_r3
def cX1_reduce_w1 : List UInt8 := [0x1c, 0x2e, 0x02, 0xa0, 0x00, 0x0b, 0x2a, 0x1c, 0x1b, 0xb6, 0x00, 0xbb, 0x04, 0xac, 0x2a, 0xb4, 0x00, 0x31, 0x1c, 0x2e, 0x36, 0x04, 0x15, 0x04]
def cX1_reduce_r1 : List UInt8 := cX1_reduce_w1 ++ cX1_reduce_r2
def cX1_reduce_w0 : List UInt8 := [0x03, 0x3d, 0x1c, 0x1b, 0xa2, 0x00, 0x6e, 0x2a, 0xb4, 0x00, 0x2e, 0x1c, 0x2e, 0x3e, 0x1d, 0x9a, 0x00, 0x06, 0xa7, 0x00, 0x5a, 0x2a, 0xb4, 0x00, 0x31]
def cX1_reduce_r0 : List UInt8 := cX1_reduce_w0 ++ cX1_reduce_r1
theorem cX1_reduce_s0 : dw_S cX1_reduce 0 cX1_reduce_r0 := dw_S0 (by decide +kernel)
theorem cX1_reduce_s1 : dw_S cX1_reduce 25 cX1_reduce_r1 := dw_Sn (w := cX1_reduce_w0) (r := cX1_reduce_r1) cX1_reduce_s0 (by decide +kernel)
theorem cX1_reduce_k0 : dw_ok cX1_reduce (ByteArray.mk cX1_reduce_w0.toArray) 0 := dw_Sw (r := cX1_reduce_r1) cX1_reduce_s0
theorem cX1_reduce_s2 : dw_S cX1_reduce 49 cX1_reduce_r2 := dw_Sn (w := cX1_reduce_w1) (r := cX1_reduce_r2) cX1_reduce_s1 (by decide +kernel)
theorem cX1_reduce_k1 : dw_ok cX1_reduce (ByteArray.mk cX1_reduce_w1.toArray) 25 := dw_Sw (r := cX1_reduce_r2) cX1_reduce_s1
theorem cX1_reduce_s3 : dw_S cX1_reduce 73 cX1_reduce_r3 := dw_Sn (w := cX1_reduce_w2) (r := cX1_reduce_r3) cX1_reduce_s2 (by decide +kernel)
theorem cX1_reduce_k2 : dw_ok cX1_reduce (ByteArray.mk cX1_reduce_w2.toArray) 49 := dw_Sw (r := cX1_reduce_r3) cX1_reduce_s2
theorem cX1_reduce_s4 : dw_S cX1_reduce 97 cX1_reduce_r4 := dw_Sn (w := cX1_reduce_w3) (r := cX1_reduce_r4) cX1_reduce_s3 (by decide +kernel)
theorem cX1_reduce_k3 : dw_ok cX1_reduce (ByteArray.mk cX1_reduce_w3.toArray) 73 := dw_Sw (r := cX1_reduce_r4) cX1_reduce_s3
theorem cX1_reduce_k4 : dw_ok cX1_reduce (ByteArray.mk cX1_reduce_w4.toArray) 97 := dw_Sw (r := []) cX1_reduce_s4
def cX1_tidyOnce_w3 : List UInt8 := [0xa7, 0xff, 0xda, 0x84, 0x01, 0x01, 0xa7, 0xff, 0xb2, 0x03, 0xac]
def cX1_tidyOnce_r3 : List UInt8 := cX1_tidyOnce_w3 ++ []
def cX1_tidyOnce_w2 : List UInt8 := [0x99, 0x00, 0x15, 0x2a, 0xb4, 0x00, 0x0c, 0x1b, 0xb6, 0x00, 0x83, 0x2a, 0xb4, 0x00, 0x0c, 0x1c, 0xb6, 0x00, 0x83, 0x04, 0xac, 0x84, 0x02, 0x01]
def cX1_tidyOnce_r2 : List UInt8 := cX1_tidyOnce_w2 ++ cX1_tidyOnce_r3
def cX1_tidyOnce_w1 : List UInt8 := [0x2a, 0xb4, 0x00, 0x0c, 0x1b, 0xb6, 0x00, 0x83, 0x04, 0xac, 0x03, 0x3d, 0x1c, 0x1b, 0xa2, 0x00, 0x27, 0x2a, 0xb4, 0x00, 0x0c, 0x1b, 0x1c, 0xb8, 0x00, 0x86]
def cX1_tidyOnce_r1 : List UInt8 := cX1_tidyOnce_w1 ++ cX1_tidyOnce_r2
def cX1_tidyOnce_w0 : List UInt8 := [0x03, 0x3c, 0x1b, 0x2a, 0xb4, 0x00, 0x0c, 0xb4, 0x00, 0x5a, 0xa2, 0x00, 0x49, 0x2a, 0xb4, 0x00, 0x0c, 0x1b, 0xb8, 0x00, 0x7d, 0x99, 0x00, 0x0d]
def cX1_tidyOnce_r0 : List UInt8 := cX1_tidyOnce_w0 ++ cX1_tidyOnce_r1
theorem cX1_tidyOnce_s0 : dw_S cX1_tidyOnce 0 cX1_tidyOnce_r0 := dw_S0 (by decide +kernel)
theorem cX1_tidyOnce_s1 : dw_S cX1_tidyOnce 24 cX1_tidyOnce_r1 := dw_Sn (w := cX1_tidyOnce_w0) (r := cX1_tidyOnce_r1) cX1_tidyOnce_s0 (by decide +kernel)
theorem cX1_tidyOnce_k0 : dw_ok cX1_tidyOnce (ByteArray.mk cX1_tidyOnce_w0.toArray) 0 := dw_Sw (r := cX1_tidyOnce_r1) cX1_tidyOnce_s0
theorem cX1_tidyOnce_s2 : dw_S cX1_tidyOnce 50 cX1_tidyOnce_r2 := dw_Sn (w := cX1_tidyOnce_w1) (r := cX1_tidyOnce_r2) cX1_tidyOnce_s1 (by decide +kernel)
theorem cX1_tidyOnce_k1 : dw_ok cX1_tidyOnce (ByteArray.mk cX1_tidyOnce_w1.toArray) 24 := dw_Sw (r := cX1_tidyOnce_r2) cX1_tidyOnce_s1
theorem cX1_tidyOnce_s3 : dw_S cX1_tidyOnce 74 cX1_tidyOnce_r3 := dw_Sn (w := cX1_tidyOnce_w2) (r := cX1_tidyOnce_r3) cX1_tidyOnce_s2 (by decide +kernel)
theorem cX1_tidyOnce_k2 : dw_ok cX1_tidyOnce (ByteArray.mk cX1_tidyOnce_w2.toArray) 50 := dw_Sw (r := cX1_tidyOnce_r3) cX1_tidyOnce_s2
theorem cX1_tidyOnce_k3 : dw_ok cX1_tidyOnce (ByteArray.mk cX1_tidyOnce_w3.toArray) 74 := dw_Sw (r := []) cX1_tidyOnce_s3
def cX1_writeImage_w10 : List UInt8 := [0x15, 0x09, 0x15, 0x0a, 0xb6, 0x00, 0xb8, 0x84, 0x03, 0x01, 0xa7, 0xff, 0x05, 0xb1]
def cX1_writeImage_r10 : List UInt8 := cX1_writeImage_w10 ++ []
def cX1_writeImage_w9 : List UInt8 := [0xb6, 0x00, 0xb8, 0x2a, 0x15, 0x04, 0x15, 0x09, 0x04, 0x15, 0x08, 0x78, 0x80, 0x15, 0x0a, 0xb6, 0x00, 0xb8, 0xa7, 0x00, 0x0d, 0x2a, 0x15, 0x04]
def cX1_writeImage_r9 : List UInt8 := cX1_writeImage_w9 ++ cX1_writeImage_r10
def cX1_writeImage_w8 : List UInt8 := [0x15, 0x0a, 0xb6, 0x00, 0xb8, 0xa7, 0x00, 0x33, 0x15, 0x0b, 0x99, 0x00, 0x24, 0x2a, 0x15, 0x04, 0x15, 0x09, 0x04, 0x15, 0x07, 0x78, 0x80, 0x15, 0x0a]
def cX1_writeImage_r8 : List UInt8 := cX1_writeImage_w8 ++ cX1_writeImage_r9
def cX1_writeImage_w7 : List UInt8 := [0x2a, 0x15, 0x04, 0x15, 0x0b, 0x99, 0x00, 0x12, 0x15, 0x0c, 0x99, 0x00, 0x0d, 0x15, 0x09, 0x04, 0x15, 0x07, 0x78, 0x80, 0xa7, 0x00, 0x05, 0x15, 0x09]
def cX1_writeImage_r7 : List UInt8 := cX1_writeImage_w7 ++ cX1_writeImage_r8
def cX1_writeImage_w6 : List UInt8 := [0x04, 0xa7, 0x00, 0x04, 0x03, 0x36, 0x0c, 0x15, 0x05, 0x15, 0x06, 0x9f, 0x00, 0x2e, 0x15, 0x0b, 0x9a, 0x00, 0x08, 0x15, 0x0c, 0x99, 0x00, 0x54]
def cX1_writeImage_r6 : List UInt8 := cX1_writeImage_w6 ++ cX1_writeImage_r7
def cX1_writeImage_w5 : List UInt8 := [0x15, 0x05, 0x7a, 0x04, 0x7e, 0x99, 0x00, 0x07, 0x04, 0xa7, 0x00, 0x04, 0x03, 0x36, 0x0b, 0x1c, 0x15, 0x06, 0x7a, 0x04, 0x7e, 0x99, 0x00, 0x07]
def cX1_writeImage_r5 : List UInt8 := cX1_writeImage_w5 ++ cX1_writeImage_r6
def cX1_writeImage_w4 : List UInt8 := [0x04, 0x64, 0x7e, 0xb8, 0x00, 0x43, 0x04, 0x7e, 0x9a, 0x00, 0x07, 0x04, 0xa7, 0x00, 0x09, 0x2a, 0xb4, 0x00, 0x50, 0x04, 0x64, 0x36, 0x0a, 0x1c]
def cX1_writeImage_r4 : List UInt8 := cX1_writeImage_w4 ++ cX1_writeImage_r5
def cX1_writeImage_w3 : List UInt8 := [0x1d, 0xb6, 0x00, 0xb0, 0x36, 0x08, 0x2a, 0x1b, 0x1c, 0x15, 0x04, 0x15, 0x07, 0x15, 0x08, 0xb6, 0x00, 0xb4, 0x36, 0x09, 0x1b, 0x04, 0x1d, 0x78]
def cX1_writeImage_r3 : List UInt8 := cX1_writeImage_w3 ++ cX1_writeImage_r4
def cX1_writeImage_w2 : List UInt8 := [0x1d, 0xb6, 0x00, 0xb0, 0x36, 0x06, 0x2a, 0xb4, 0x00, 0x12, 0x15, 0x04, 0x10, 0x10, 0x68, 0x05, 0x1d, 0x68, 0x60, 0x33, 0x36, 0x07, 0x2a, 0x15, 0x04]
def cX1_writeImage_r2 : List UInt8 := cX1_writeImage_w2 ++ cX1_writeImage_r3
def cX1_writeImage_w1 : List UInt8 := [0x1b, 0x04, 0x1d, 0x78, 0x80, 0x36, 0x04, 0x2a, 0xb4, 0x00, 0x12, 0x1b, 0x10, 0x10, 0x68, 0x05, 0x1d, 0x68, 0x60, 0x33, 0x36, 0x05, 0x2a, 0x1b]
def cX1_writeImage_r1 : List UInt8 := cX1_writeImage_w1 ++ cX1_writeImage_r2
def cX1_writeImage_w0 : List UInt8 := [0x03, 0x3e, 0x1d, 0x2a, 0xb4, 0x00, 0x0c, 0xb4, 0x00, 0x5a, 0xa2, 0x00, 0xf6, 0x1b, 0x1d, 0x7a, 0x04, 0x7e, 0x99, 0x00, 0x06, 0xa7, 0x00, 0xe5]
def cX1_writeImage_r0 : List UInt8 := cX1_writeImage_w0 ++ cX1_writeImage_r1
theorem cX1_writeImage_s0 : dw_S cX1_writeImage 0 cX1_writeImage_r0 := dw_S0 (by decide +kernel)
theorem cX1_writeImage_s1 : dw_S cX1_writeImage 24 cX1_writeImage_r1 := dw_Sn (w := cX1_writeImage_w0) (r := cX1_writeImage_r1) cX1_writeImage_s0 (by decide +kernel)
theorem cX1_writeImage_k0 : dw_ok cX1_writeImage (ByteArray.mk cX1_writeImage_w0.toArray) 0 := dw_Sw (r := cX1_writeImage_r1) cX1_writeImage_s0
theorem cX1_writeImage_s2 : dw_S cX1_writeImage 48 cX1_writeImage_r2 := dw_Sn (w := cX1_writeImage_w1) (r := cX1_writeImage_r2) cX1_writeImage_s1 (by decide +kernel)
theorem cX1_writeImage_k1 : dw_ok cX1_writeImage (ByteArray.mk cX1_writeImage_w1.toArray) 24 := dw_Sw (r := cX1_writeImage_r2) cX1_writeImage_s1
theorem cX1_writeImage_s3 : dw_S cX1_writeImage 73 cX1_writeImage_r3 := dw_Sn (w := cX1_writeImage_w2) (r := cX1_writeImage_r3) cX1_writeImage_s2 (by decide +kernel)
theorem cX1_writeImage_k2 : dw_ok cX1_writeImage (ByteArray.mk cX1_writeImage_w2.toArray) 48 := dw_Sw (r := cX1_writeImage_r3) cX1_writeImage_s2
theorem cX1_writeImage_s4 : dw_S cX1_writeImage 97 cX1_writeImage_r4 := dw_Sn (w := cX1_writeImage_w3) (r := cX1_writeImage_r4) cX1_writeImage_s3 (by decide +kernel)
theorem cX1_writeImage_k3 : dw_ok cX1_writeImage (ByteArray.mk cX1_writeImage_w3.toArray) 73 := dw_Sw (r := cX1_writeImage_r4) cX1_writeImage_s3
theorem cX1_writeImage_s5 : dw_S cX1_writeImage 121 cX1_writeImage_r5 := dw_Sn (w := cX1_writeImage_w4) (r := cX1_writeImage_r5) cX1_writeImage_s4 (by decide +kernel)
theorem cX1_writeImage_k4 : dw_ok cX1_writeImage (ByteArray.mk cX1_writeImage_w4.toArray) 97 := dw_Sw (r := cX1_writeImage_r5) cX1_writeImage_s4
theorem cX1_writeImage_s6 : dw_S cX1_writeImage 145 cX1_writeImage_r6 := dw_Sn (w := cX1_writeImage_w5) (r := cX1_writeImage_r6) cX1_writeImage_s5 (by decide +kernel)
theorem cX1_writeImage_k5 : dw_ok cX1_writeImage (ByteArray.mk cX1_writeImage_w5.toArray) 121 := dw_Sw (r := cX1_writeImage_r6) cX1_writeImage_s5
theorem cX1_writeImage_s7 : dw_S cX1_writeImage 169 cX1_writeImage_r7 := dw_Sn (w := cX1_writeImage_w6) (r := cX1_writeImage_r7) cX1_writeImage_s6 (by decide +kernel)
theorem cX1_writeImage_k6 : dw_ok cX1_writeImage (ByteArray.mk cX1_writeImage_w6.toArray) 145 := dw_Sw (r := cX1_writeImage_r7) cX1_writeImage_s6
theorem cX1_writeImage_s8 : dw_S cX1_writeImage 194 cX1_writeImage_r8 := dw_Sn (w := cX1_writeImage_w7) (r := cX1_writeImage_r8) cX1_writeImage_s7 (by decide +kernel)
theorem cX1_writeImage_k7 : dw_ok cX1_writeImage (ByteArray.mk cX1_writeImage_w7.toArray) 169 := dw_Sw (r := cX1_writeImage_r8) cX1_writeImage_s7
theorem cX1_writeImage_s9 : dw_S cX1_writeImage 219 cX1_writeImage_r9 := dw_Sn (w := cX1_writeImage_w8) (r := cX1_writeImage_r9) cX1_writeImage_s8 (by decide +kernel)
theorem cX1_writeImage_k8 : dw_ok cX1_writeImage (ByteArray.mk cX1_writeImage_w8.toArray) 194 := dw_Sw (r := cX1_writeImage_r9) cX1_writeImage_s8
theorem cX1_writeImage_s10 : dw_S cX1_writeImage 243 cX1_writeImage_r10 := dw_Sn (w := cX1_writeImage_w9) (r := cX1_writeImage_r10) cX1_writeImage_s9 (by decide +kernel)
theorem cX1_writeImage_k9 : dw_ok cX1_writeImage (ByteArray.mk cX1_writeImage_w9.toArray) 219 := dw_Sw (r := cX1_writeImage_r10) cX1_writeImage_s9
theorem cX1_writeImage_k10 : dw_ok cX1_writeImage (ByteArray.mk cX1_writeImage_w10.toArray) 243 := dw_Sw (r := []) cX1_writeImage_s10
def cX2_collectParts_w2 : List UInt8 := [0x15, 0x04, 0x2a, 0xb4, 0x00, 0x14, 0x03, 0xb6, 0x00, 0x54, 0x84, 0x03, 0x01, 0xa7, 0xff, 0xcd, 0xb1]
def cX2_collectParts_r2 : List UInt8 := cX2_collectParts_w2 ++ []
def cX2_collectParts_w1 : List UInt8 := [0x2c, 0x2a, 0xb4, 0x00, 0x14, 0x03, 0xb6, 0x00, 0x50, 0x36, 0x04, 0x2c, 0x15, 0x04, 0x9c, 0x00, 0x0a, 0x02, 0x15, 0x04, 0x64, 0xa7, 0x00, 0x05]
def cX2_collectParts_r1 : List UInt8 := cX2_collectParts_w1 ++ cX2_collectParts_r2
def cX2_collectParts_w0 : List UInt8 := [0x2b, 0xb6, 0x00, 0x46, 0x2c, 0x03, 0xb5, 0x00, 0x29, 0x03, 0x3e, 0x1d, 0x2b, 0xb4, 0x00, 0x49, 0xa2, 0x00, 0x31, 0x2a, 0x2b, 0x1d, 0xb6, 0x00, 0x4c]
def cX2_collectParts_r0 : List UInt8 := cX2_collectParts_w0 ++ cX2_collectParts_r1
theorem cX2_collectParts_s0 : dw_S cX2_collectParts 0 cX2_collectParts_r0 := dw_S0 (by decide +kernel)
theorem cX2_collectParts_s1 : dw_S cX2_collectParts 25 cX2_collectParts_r1 := dw_Sn (w := cX2_collectParts_w0) (r := cX2_collectParts_r1) cX2_collectParts_s0 (by decide +kernel)
theorem cX2_collectParts_k0 : dw_ok cX2_collectParts (ByteArray.mk cX2_collectParts_w0.toArray) 0 := dw_Sw (r := cX2_collectParts_r1) cX2_collectParts_s0
theorem cX2_collectParts_s2 : dw_S cX2_collectParts 49 cX2_collectParts_r2 := dw_Sn (w := cX2_collectParts_w1) (r := cX2_collectParts_r2) cX2_collectParts_s1 (by decide +kernel)
theorem cX2_collectParts_k1 : dw_ok cX2_collectParts (ByteArray.mk cX2_collectParts_w1.toArray) 25 := dw_Sw (r := cX2_collectParts_r2) cX2_collectParts_s1
theorem cX2_collectParts_k2 : dw_ok cX2_collectParts (ByteArray.mk cX2_collectParts_w2.toArray) 49 := dw_Sw (r := []) cX2_collectParts_s2
def cX2_encode_w6 : List UInt8 := [0x03, 0x2b, 0xb4, 0x00, 0x44, 0x91, 0x54, 0xb1]
def cX2_encode_r6 : List UInt8 := cX2_encode_w6 ++ []
def cX2_encode_w5 : List UInt8 := [0x84, 0x03, 0x01, 0xa7, 0xff, 0xe2, 0x2a, 0xb4, 0x00, 0x0e, 0xb4, 0x00, 0x30, 0x03, 0x1c, 0x91, 0x54, 0x2a, 0xb4, 0x00, 0x0e, 0xb4, 0x00, 0x41]
def cX2_encode_r5 : List UInt8 := cX2_encode_w5 ++ cX2_encode_r6
def cX2_encode_w4 : List UInt8 := [0xb4, 0x00, 0x3c, 0xa2, 0x00, 0x1c, 0x1c, 0x10, 0x1e, 0xa2, 0x00, 0x16, 0x2a, 0xb4, 0x00, 0x0e, 0xb4, 0x00, 0x33, 0x1c, 0x03, 0x54, 0x84, 0x02, 0x01]
def cX2_encode_r4 : List UInt8 := cX2_encode_w4 ++ cX2_encode_r5
def cX2_encode_w3 : List UInt8 := [0xb4, 0x00, 0x33, 0x1c, 0x15, 0x05, 0xb8, 0x00, 0x36, 0x1c, 0x15, 0x05, 0x60, 0x3d, 0x84, 0x03, 0x01, 0xa7, 0xff, 0xb4, 0x03, 0x3e, 0x1d, 0x2b]
def cX2_encode_r3 : List UInt8 := cX2_encode_w3 ++ cX2_encode_r4
def cX2_encode_w2 : List UInt8 := [0x15, 0x05, 0x60, 0x10, 0x1e, 0xa3, 0x00, 0x21, 0x2a, 0xb4, 0x00, 0x17, 0xb4, 0x00, 0x33, 0x15, 0x04, 0x10, 0x1e, 0x68, 0x2a, 0xb4, 0x00, 0x0e]
def cX2_encode_r2 : List UInt8 := cX2_encode_w2 ++ cX2_encode_r3
def cX2_encode_w1 : List UInt8 := [0x2a, 0xb4, 0x00, 0x17, 0xb4, 0x00, 0x2d, 0x1d, 0x2e, 0x36, 0x04, 0x2a, 0xb4, 0x00, 0x17, 0xb4, 0x00, 0x30, 0x15, 0x04, 0x33, 0x36, 0x05, 0x1c]
def cX2_encode_r1 : List UInt8 := cX2_encode_w1 ++ cX2_encode_r2
def cX2_encode_w0 : List UInt8 := [0x2a, 0x2b, 0x2a, 0xb4, 0x00, 0x17, 0xb6, 0x00, 0x25, 0x03, 0x3d, 0x03, 0x3e, 0x1d, 0x2a, 0xb4, 0x00, 0x17, 0xb4, 0x00, 0x29, 0xa2, 0x00, 0x47]
def cX2_encode_r0 : List UInt8 := cX2_encode_w0 ++ cX2_encode_r1
theorem cX2_encode_s0 : dw_S cX2_encode 0 cX2_encode_r0 := dw_S0 (by decide +kernel)
theorem cX2_encode_s1 : dw_S cX2_encode 24 cX2_encode_r1 := dw_Sn (w := cX2_encode_w0) (r := cX2_encode_r1) cX2_encode_s0 (by decide +kernel)
theorem cX2_encode_k0 : dw_ok cX2_encode (ByteArray.mk cX2_encode_w0.toArray) 0 := dw_Sw (r := cX2_encode_r1) cX2_encode_s0
theorem cX2_encode_s2 : dw_S cX2_encode 48 cX2_encode_r2 := dw_Sn (w := cX2_encode_w1) (r := cX2_encode_r2) cX2_encode_s1 (by decide +kernel)
theorem cX2_encode_k1 : dw_ok cX2_encode (ByteArray.mk cX2_encode_w1.toArray) 24 := dw_Sw (r := cX2_encode_r2) cX2_encode_s1
theorem cX2_encode_s3 : dw_S cX2_encode 72 cX2_encode_r3 := dw_Sn (w := cX2_encode_w2) (r := cX2_encode_r3) cX2_encode_s2 (by decide +kernel)
theorem cX2_encode_k2 : dw_ok cX2_encode (ByteArray.mk cX2_encode_w2.toArray) 48 := dw_Sw (r := cX2_encode_r3) cX2_encode_s2
theorem cX2_encode_s4 : dw_S cX2_encode 96 cX2_encode_r4 := dw_Sn (w := cX2_encode_w3) (r := cX2_encode_r4) cX2_encode_s3 (by decide +kernel)
theorem cX2_encode_k3 : dw_ok cX2_encode (ByteArray.mk cX2_encode_w3.toArray) 72 := dw_Sw (r := cX2_encode_r4) cX2_encode_s3
theorem cX2_encode_s5 : dw_S cX2_encode 121 cX2_encode_r5 := dw_Sn (w := cX2_encode_w4) (r := cX2_encode_r5) cX2_encode_s4 (by decide +kernel)
theorem cX2_encode_k4 : dw_ok cX2_encode (ByteArray.mk cX2_encode_w4.toArray) 96 := dw_Sw (r := cX2_encode_r5) cX2_encode_s4
theorem cX2_encode_s6 : dw_S cX2_encode 145 cX2_encode_r6 := dw_Sn (w := cX2_encode_w5) (r := cX2_encode_r6) cX2_encode_s5 (by decide +kernel)
theorem cX2_encode_k5 : dw_ok cX2_encode (ByteArray.mk cX2_encode_w5.toArray) 121 := dw_Sw (r := cX2_encode_r6) cX2_encode_s5
theorem cX2_encode_k6 : dw_ok cX2_encode (ByteArray.mk cX2_encode_w6.toArray) 145 := dw_Sw (r := []) cX2_encode_s6
def cX2_encodePart_w5 : List UInt8 := [0x03, 0x15, 0x04, 0x05, 0x6c, 0x91, 0x54, 0xb1]
def cX2_encodePart_r5 : List UInt8 := cX2_encodePart_w5 ++ []
def cX2_encodePart_w4 : List UInt8 := [0x2a, 0xb4, 0x00, 0x14, 0xb4, 0x00, 0x30, 0x03, 0x15, 0x06, 0x91, 0x54, 0x84, 0x05, 0x01, 0xa7, 0xff, 0xa4, 0x2a, 0xb4, 0x00, 0x14, 0xb4, 0x00, 0x41]
def cX2_encodePart_r4 : List UInt8 := cX2_encodePart_w4 ++ cX2_encodePart_r5
def cX2_encodePart_w3 : List UInt8 := [0x15, 0x06, 0x10, 0x1e, 0xa3, 0x00, 0x21, 0x2a, 0xb4, 0x00, 0x1a, 0x03, 0x2a, 0xb4, 0x00, 0x14, 0xb4, 0x00, 0x33, 0x03, 0x15, 0x06, 0xb8, 0x00, 0x36]
def cX2_encodePart_r3 : List UInt8 := cX2_encodePart_w3 ++ cX2_encodePart_r4
def cX2_encodePart_w2 : List UInt8 := [0x2b, 0x15, 0x05, 0xb8, 0x00, 0x5f, 0x1d, 0xa0, 0x00, 0x36, 0x2a, 0x2b, 0x15, 0x05, 0xb6, 0x00, 0x62, 0x36, 0x06, 0x15, 0x06, 0x9e, 0x00, 0x28]
def cX2_encodePart_r2 : List UInt8 := cX2_encodePart_w2 ++ cX2_encodePart_r3
def cX2_encodePart_w1 : List UInt8 := [0x05, 0x2b, 0xb4, 0x00, 0x44, 0x68, 0xa2, 0x00, 0x57, 0x2b, 0xb4, 0x00, 0x5c, 0x15, 0x05, 0x2e, 0x1c, 0x9f, 0x00, 0x06, 0xa7, 0x00, 0x43, 0x84, 0x04, 0x01]
def cX2_encodePart_r1 : List UInt8 := cX2_encodePart_w1 ++ cX2_encodePart_r2
def cX2_encodePart_w0 : List UInt8 := [0x2b, 0x1c, 0xb8, 0x00, 0x58, 0x3e, 0x03, 0x36, 0x04, 0x2a, 0xb4, 0x00, 0x14, 0xb4, 0x00, 0x30, 0x03, 0x03, 0x54, 0x03, 0x36, 0x05, 0x15, 0x05]
def cX2_encodePart_r0 : List UInt8 := cX2_encodePart_w0 ++ cX2_encodePart_r1
theorem cX2_encodePart_s0 : dw_S cX2_encodePart 0 cX2_encodePart_r0 := dw_S0 (by decide +kernel)
theorem cX2_encodePart_s1 : dw_S cX2_encodePart 24 cX2_encodePart_r1 := dw_Sn (w := cX2_encodePart_w0) (r := cX2_encodePart_r1) cX2_encodePart_s0 (by decide +kernel)
theorem cX2_encodePart_k0 : dw_ok cX2_encodePart (ByteArray.mk cX2_encodePart_w0.toArray) 0 := dw_Sw (r := cX2_encodePart_r1) cX2_encodePart_s0
theorem cX2_encodePart_s2 : dw_S cX2_encodePart 50 cX2_encodePart_r2 := dw_Sn (w := cX2_encodePart_w1) (r := cX2_encodePart_r2) cX2_encodePart_s1 (by decide +kernel)
theorem cX2_encodePart_k1 : dw_ok cX2_encodePart (ByteArray.mk cX2_encodePart_w1.toArray) 24 := dw_Sw (r := cX2_encodePart_r2) cX2_encodePart_s1
theorem cX2_encodePart_s3 : dw_S cX2_encodePart 74 cX2_encodePart_r3 := dw_Sn (w := cX2_encodePart_w2) (r := cX2_encodePart_r3) cX2_encodePart_s2 (by decide +kernel)
theorem cX2_encodePart_k2 : dw_ok cX2_encodePart (ByteArray.mk cX2_encodePart_w2.toArray) 50 := dw_Sw (r := cX2_encodePart_r3) cX2_encodePart_s2
theorem cX2_encodePart_s4 : dw_S cX2_encodePart 99 cX2_encodePart_r4 := dw_Sn (w := cX2_encodePart_w3) (r := cX2_encodePart_r4) cX2_encodePart_s3 (by decide +kernel)
theorem cX2_encodePart_k3 : dw_ok cX2_encodePart (ByteArray.mk cX2_encodePart_w3.toArray) 74 := dw_Sw (r := cX2_encodePart_r4) cX2_encodePart_s3
theorem cX2_encodePart_s5 : dw_S cX2_encodePart 124 cX2_encodePart_r5 := dw_Sn (w := cX2_encodePart_w4) (r := cX2_encodePart_r5) cX2_encodePart_s4 (by decide +kernel)
theorem cX2_encodePart_k4 : dw_ok cX2_encodePart (ByteArray.mk cX2_encodePart_w4.toArray) 99 := dw_Sw (r := cX2_encodePart_r5) cX2_encodePart_s4
theorem cX2_encodePart_k5 : dw_ok cX2_encodePart (ByteArray.mk cX2_encodePart_w5.toArray) 124 := dw_Sw (r := []) cX2_encodePart_s5
def cX2_init_w2 : List UInt8 := [0x2a, 0x10, 0x0c, 0xbc, 0x0a, 0xb5, 0x00, 0x1e, 0x2a, 0x10, 0x0c, 0xbc, 0x0a, 0xb5, 0x00, 0x22, 0xb1]
def cX2_init_r2 : List UInt8 := cX2_init_w2 ++ []
def cX2_init_w1 : List UInt8 := [0xb5, 0x00, 0x14, 0x2a, 0xbb, 0x00, 0x09, 0x59, 0x10, 0x0c, 0xb7, 0x00, 0x0b, 0xb5, 0x00, 0x17, 0x2a, 0x10, 0x30, 0xbc, 0x08, 0xb5, 0x00, 0x1a]
def cX2_init_r1 : List UInt8 := cX2_init_w1 ++ cX2_init_r2
def cX2_init_w0 : List UInt8 := [0x2a, 0xb7, 0x00, 0x03, 0x2a, 0xbb, 0x00, 0x09, 0x59, 0x04, 0xb7, 0x00, 0x0b, 0xb5, 0x00, 0x0e, 0x2a, 0xbb, 0x00, 0x09, 0x59, 0x04, 0xb7, 0x00, 0x0b]
def cX2_init_r0 : List UInt8 := cX2_init_w0 ++ cX2_init_r1
theorem cX2_init_s0 : dw_S cX2_init 0 cX2_init_r0 := dw_S0 (by decide +kernel)
theorem cX2_init_s1 : dw_S cX2_init 25 cX2_init_r1 := dw_Sn (w := cX2_init_w0) (r := cX2_init_r1) cX2_init_s0 (by decide +kernel)
theorem cX2_init_k0 : dw_ok cX2_init (ByteArray.mk cX2_init_w0.toArray) 0 := dw_Sw (r := cX2_init_r1) cX2_init_s0
theorem cX2_init_s2 : dw_S cX2_init 49 cX2_init_r2 := dw_Sn (w := cX2_init_w1) (r := cX2_init_r2) cX2_init_s1 (by decide +kernel)
theorem cX2_init_k1 : dw_ok cX2_init (ByteArray.mk cX2_init_w1.toArray) 25 := dw_Sw (r := cX2_init_r2) cX2_init_s1
theorem cX2_init_k2 : dw_ok cX2_init (ByteArray.mk cX2_init_w2.toArray) 49 := dw_Sw (r := []) cX2_init_s2
def cX2_leastFirstCell_w1 : List UInt8 := [0x1c, 0x2a, 0x1d, 0xb8, 0x00, 0x5f, 0xb8, 0x00, 0x68, 0x3d, 0x84, 0x03, 0x01, 0xa7, 0xff, 0xdf, 0x1c, 0xac]
def cX2_leastFirstCell_r1 : List UInt8 := cX2_leastFirstCell_w1 ++ []
def cX2_leastFirstCell_w0 : List UInt8 := [0x10, 0x08, 0x3d, 0x03, 0x3e, 0x1d, 0x05, 0x2a, 0xb4, 0x00, 0x44, 0x68, 0xa2, 0x00, 0x1d, 0x2a, 0xb4, 0x00, 0x5c, 0x1d, 0x2e, 0x1b, 0xa0, 0x00, 0x0d]
def cX2_leastFirstCell_r0 : List UInt8 := cX2_leastFirstCell_w0 ++ cX2_leastFirstCell_r1
theorem cX2_leastFirstCell_s0 : dw_S cX2_leastFirstCell 0 cX2_leastFirstCell_r0 := dw_S0 (by decide +kernel)
theorem cX2_leastFirstCell_s1 : dw_S cX2_leastFirstCell 25 cX2_leastFirstCell_r1 := dw_Sn (w := cX2_leastFirstCell_w0) (r := cX2_leastFirstCell_r1) cX2_leastFirstCell_s0 (by decide +kernel)
theorem cX2_leastFirstCell_k0 : dw_ok cX2_leastFirstCell (ByteArray.mk cX2_leastFirstCell_w0.toArray) 0 := dw_Sw (r := cX2_leastFirstCell_r1) cX2_leastFirstCell_s0
theorem cX2_leastFirstCell_k1 : dw_ok cX2_leastFirstCell (ByteArray.mk cX2_leastFirstCell_w1.toArray) 25 := dw_Sw (r := []) cX2_leastFirstCell_s1
def cX2_tryFrom_w13 : List UInt8 := [0x84, 0x0a, 0x01, 0xa7, 0xfe, 0xf1, 0x15, 0x04, 0x99, 0x00, 0x07, 0x03, 0xa7, 0x00, 0x05, 0x15, 0x08, 0xac]
def cX2_tryFrom_r13 : List UInt8 := cX2_tryFrom_w13 ++ []
def cX2_tryFrom_w12 : List UInt8 := [0x04, 0x60, 0x7a, 0x04, 0x7e, 0x9a, 0x00, 0x0a, 0x15, 0x0c, 0x04, 0x60, 0xa7, 0x00, 0x04, 0x02, 0x36, 0x09, 0x84, 0x06, 0x01, 0xa7, 0xff, 0xc0]
def cX2_tryFrom_r12 : List UInt8 := cX2_tryFrom_w12 ++ cX2_tryFrom_r13
def cX2_tryFrom_w11 : List UInt8 := [0x15, 0x06, 0x2e, 0x68, 0x36, 0x0c, 0x15, 0x07, 0x15, 0x0c, 0x7a, 0x04, 0x7e, 0x9a, 0x00, 0x08, 0x15, 0x0c, 0xa7, 0x00, 0x17, 0x15, 0x07, 0x15, 0x0c]
def cX2_tryFrom_r11 : List UInt8 := cX2_tryFrom_w11 ++ cX2_tryFrom_r12
def cX2_tryFrom_w10 : List UInt8 := [0x03, 0x54, 0x84, 0x08, 0x01, 0x02, 0x36, 0x09, 0x15, 0x06, 0x15, 0x05, 0xa2, 0x00, 0x3f, 0x15, 0x09, 0x02, 0xa0, 0x00, 0x39, 0x05, 0x2a, 0xb4, 0x00, 0x22]
def cX2_tryFrom_r10 : List UInt8 := cX2_tryFrom_w10 ++ cX2_tryFrom_r11
def cX2_tryFrom_w9 : List UInt8 := [0x15, 0x04, 0x99, 0x00, 0x0e, 0x2d, 0x15, 0x08, 0x33, 0x9a, 0x00, 0x07, 0x04, 0xa7, 0x00, 0x04, 0x03, 0x36, 0x04, 0x2a, 0xb4, 0x00, 0x1a, 0x15, 0x08]
def cX2_tryFrom_r9 : List UInt8 := cX2_tryFrom_w9 ++ cX2_tryFrom_r10
def cX2_tryFrom_w8 : List UInt8 := [0x2b, 0xb4, 0x00, 0x74, 0x15, 0x0b, 0x2e, 0x36, 0x0b, 0x15, 0x0b, 0x15, 0x09, 0xa0, 0x00, 0x06, 0xa7, 0x00, 0x09, 0x84, 0x0c, 0x01, 0xa7, 0xff, 0x6f]
def cX2_tryFrom_r8 : List UInt8 := cX2_tryFrom_w8 ++ cX2_tryFrom_r9
def cX2_tryFrom_w7 : List UInt8 := [0x03, 0x36, 0x04, 0x2a, 0xb4, 0x00, 0x1a, 0x15, 0x08, 0x15, 0x0e, 0x91, 0x54, 0x84, 0x08, 0x01, 0x15, 0x07, 0x04, 0x15, 0x0b, 0x78, 0x80, 0x36, 0x07]
def cX2_tryFrom_r7 : List UInt8 := cX2_tryFrom_w7 ++ cX2_tryFrom_r8
def cX2_tryFrom_w6 : List UInt8 := [0x33, 0xa4, 0x00, 0x05, 0x03, 0xac, 0x15, 0x04, 0x99, 0x00, 0x10, 0x15, 0x0e, 0x2d, 0x15, 0x08, 0x33, 0xa0, 0x00, 0x07, 0x04, 0xa7, 0x00, 0x04]
def cX2_tryFrom_r6 : List UInt8 := cX2_tryFrom_w6 ++ cX2_tryFrom_r7
def cX2_tryFrom_w5 : List UInt8 := [0x15, 0x0d, 0x2e, 0x04, 0x64, 0x68, 0x2b, 0x15, 0x0b, 0xb8, 0x00, 0x5f, 0x60, 0x36, 0x0e, 0x15, 0x04, 0x99, 0x00, 0x0e, 0x15, 0x0e, 0x2d, 0x15, 0x08]
def cX2_tryFrom_r5 : List UInt8 := cX2_tryFrom_w5 ++ cX2_tryFrom_r6
def cX2_tryFrom_w4 : List UInt8 := [0xb4, 0x00, 0x22, 0x15, 0x05, 0x15, 0x0d, 0x4f, 0x84, 0x05, 0x01, 0x2a, 0xb4, 0x00, 0x1e, 0x15, 0x0d, 0x15, 0x05, 0x4f, 0x07, 0x2a, 0xb4, 0x00, 0x1e]
def cX2_tryFrom_r4 : List UInt8 := cX2_tryFrom_w4 ++ cX2_tryFrom_r5
def cX2_tryFrom_w3 : List UInt8 := [0x15, 0x0c, 0x10, 0x18, 0xa2, 0x00, 0x90, 0x15, 0x0b, 0x04, 0x7a, 0x36, 0x0d, 0x2a, 0xb4, 0x00, 0x1e, 0x15, 0x0d, 0x2e, 0x9a, 0x00, 0x18, 0x2a]
def cX2_tryFrom_r3 : List UInt8 := cX2_tryFrom_w3 ++ cX2_tryFrom_r4
def cX2_tryFrom_w2 : List UInt8 := [0x36, 0x09, 0x03, 0x36, 0x0a, 0x15, 0x0a, 0x10, 0x18, 0xa2, 0x01, 0x0e, 0x15, 0x09, 0x02, 0x9f, 0x01, 0x08, 0x15, 0x09, 0x36, 0x0b, 0x03, 0x36, 0x0c]
def cX2_tryFrom_r2 : List UInt8 := cX2_tryFrom_w2 ++ cX2_tryFrom_r3
def cX2_tryFrom_w1 : List UInt8 := [0x33, 0x9e, 0x00, 0x07, 0x04, 0xa7, 0x00, 0x04, 0x03, 0x36, 0x04, 0x03, 0x36, 0x05, 0x03, 0x36, 0x06, 0x03, 0x36, 0x07, 0x03, 0x36, 0x08, 0x1c]
def cX2_tryFrom_r1 : List UInt8 := cX2_tryFrom_w1 ++ cX2_tryFrom_r2
def cX2_tryFrom_w0 : List UInt8 := [0x2a, 0xb4, 0x00, 0x1e, 0x03, 0xb8, 0x00, 0x6e, 0x2a, 0xb4, 0x00, 0x14, 0xb4, 0x00, 0x33, 0x4e, 0x2a, 0xb4, 0x00, 0x14, 0xb4, 0x00, 0x30, 0x03]
def cX2_tryFrom_r0 : List UInt8 := cX2_tryFrom_w0 ++ cX2_tryFrom_r1
theorem cX2_tryFrom_s0 : dw_S cX2_tryFrom 0 cX2_tryFrom_r0 := dw_S0 (by decide +kernel)
theorem cX2_tryFrom_s1 : dw_S cX2_tryFrom 24 cX2_tryFrom_r1 := dw_Sn (w := cX2_tryFrom_w0) (r := cX2_tryFrom_r1) cX2_tryFrom_s0 (by decide +kernel)
theorem cX2_tryFrom_k0 : dw_ok cX2_tryFrom (ByteArray.mk cX2_tryFrom_w0.toArray) 0 := dw_Sw (r := cX2_tryFrom_r1) cX2_tryFrom_s0
theorem cX2_tryFrom_s2 : dw_S cX2_tryFrom 48 cX2_tryFrom_r2 := dw_Sn (w := cX2_tryFrom_w1) (r := cX2_tryFrom_r2) cX2_tryFrom_s1 (by decide +kernel)
theorem cX2_tryFrom_k1 : dw_ok cX2_tryFrom (ByteArray.mk cX2_tryFrom_w1.toArray) 24 := dw_Sw (r := cX2_tryFrom_r2) cX2_tryFrom_s1
theorem cX2_tryFrom_s3 : dw_S cX2_tryFrom 73 cX2_tryFrom_r3 := dw_Sn (w := cX2_tryFrom_w2) (r := cX2_tryFrom_r3) cX2_tryFrom_s2 (by decide +kernel)
theorem cX2_tryFrom_k2 : dw_ok cX2_tryFrom (ByteArray.mk cX2_tryFrom_w2.toArray) 48 := dw_Sw (r := cX2_tryFrom_r3) cX2_tryFrom_s2
theorem cX2_tryFrom_s4 : dw_S cX2_tryFrom 97 cX2_tryFrom_r4 := dw_Sn (w := cX2_tryFrom_w3) (r := cX2_tryFrom_r4) cX2_tryFrom_s3 (by decide +kernel)
theorem cX2_tryFrom_k3 : dw_ok cX2_tryFrom (ByteArray.mk cX2_tryFrom_w3.toArray) 73 := dw_Sw (r := cX2_tryFrom_r4) cX2_tryFrom_s3
theorem cX2_tryFrom_s5 : dw_S cX2_tryFrom 122 cX2_tryFrom_r5 := dw_Sn (w := cX2_tryFrom_w4) (r := cX2_tryFrom_r5) cX2_tryFrom_s4 (by decide +kernel)
theorem cX2_tryFrom_k4 : dw_ok cX2_tryFrom (ByteArray.mk cX2_tryFrom_w4.toArray) 97 := dw_Sw (r := cX2_tryFrom_r5) cX2_tryFrom_s4
theorem cX2_tryFrom_s6 : dw_S cX2_tryFrom 147 cX2_tryFrom_r6 := dw_Sn (w := cX2_tryFrom_w5) (r := cX2_tryFrom_r6) cX2_tryFrom_s5 (by decide +kernel)
theorem cX2_tryFrom_k5 : dw_ok cX2_tryFrom (ByteArray.mk cX2_tryFrom_w5.toArray) 122 := dw_Sw (r := cX2_tryFrom_r6) cX2_tryFrom_s5
theorem cX2_tryFrom_s7 : dw_S cX2_tryFrom 171 cX2_tryFrom_r7 := dw_Sn (w := cX2_tryFrom_w6) (r := cX2_tryFrom_r7) cX2_tryFrom_s6 (by decide +kernel)
theorem cX2_tryFrom_k6 : dw_ok cX2_tryFrom (ByteArray.mk cX2_tryFrom_w6.toArray) 147 := dw_Sw (r := cX2_tryFrom_r7) cX2_tryFrom_s6
theorem cX2_tryFrom_s8 : dw_S cX2_tryFrom 196 cX2_tryFrom_r8 := dw_Sn (w := cX2_tryFrom_w7) (r := cX2_tryFrom_r8) cX2_tryFrom_s7 (by decide +kernel)
theorem cX2_tryFrom_k7 : dw_ok cX2_tryFrom (ByteArray.mk cX2_tryFrom_w7.toArray) 171 := dw_Sw (r := cX2_tryFrom_r8) cX2_tryFrom_s7
theorem cX2_tryFrom_s9 : dw_S cX2_tryFrom 221 cX2_tryFrom_r9 := dw_Sn (w := cX2_tryFrom_w8) (r := cX2_tryFrom_r9) cX2_tryFrom_s8 (by decide +kernel)
theorem cX2_tryFrom_k8 : dw_ok cX2_tryFrom (ByteArray.mk cX2_tryFrom_w8.toArray) 196 := dw_Sw (r := cX2_tryFrom_r9) cX2_tryFrom_s8
theorem cX2_tryFrom_s10 : dw_S cX2_tryFrom 246 cX2_tryFrom_r10 := dw_Sn (w := cX2_tryFrom_w9) (r := cX2_tryFrom_r10) cX2_tryFrom_s9 (by decide +kernel)
theorem cX2_tryFrom_k9 : dw_ok cX2_tryFrom (ByteArray.mk cX2_tryFrom_w9.toArray) 221 := dw_Sw (r := cX2_tryFrom_r10) cX2_tryFrom_s9
theorem cX2_tryFrom_s11 : dw_S cX2_tryFrom 272 cX2_tryFrom_r11 := dw_Sn (w := cX2_tryFrom_w10) (r := cX2_tryFrom_r11) cX2_tryFrom_s10 (by decide +kernel)
theorem cX2_tryFrom_k10 : dw_ok cX2_tryFrom (ByteArray.mk cX2_tryFrom_w10.toArray) 246 := dw_Sw (r := cX2_tryFrom_r11) cX2_tryFrom_s10
theorem cX2_tryFrom_s12 : dw_S cX2_tryFrom 297 cX2_tryFrom_r12 := dw_Sn (w := cX2_tryFrom_w11) (r := cX2_tryFrom_r12) cX2_tryFrom_s11 (by decide +kernel)
theorem cX2_tryFrom_k11 : dw_ok cX2_tryFrom (ByteArray.mk cX2_tryFrom_w11.toArray) 272 := dw_Sw (r := cX2_tryFrom_r12) cX2_tryFrom_s11
theorem cX2_tryFrom_s13 : dw_S cX2_tryFrom 321 cX2_tryFrom_r13 := dw_Sn (w := cX2_tryFrom_w12) (r := cX2_tryFrom_r13) cX2_tryFrom_s12 (by decide +kernel)
theorem cX2_tryFrom_k12 : dw_ok cX2_tryFrom (ByteArray.mk cX2_tryFrom_w12.toArray) 297 := dw_Sw (r := cX2_tryFrom_r13) cX2_tryFrom_s12
theorem cX2_tryFrom_k13 : dw_ok cX2_tryFrom (ByteArray.mk cX2_tryFrom_w13.toArray) 321 := dw_Sw (r := []) cX2_tryFrom_s13
def cX3_compare_w4 : List UInt8 := [0xa7, 0xff, 0xd7, 0x2a, 0xb4, 0x00, 0x0f, 0x1b, 0x33, 0x2c, 0xb4, 0x00, 0x0f, 0x1d, 0x33, 0x64, 0xac]
def cX3_compare_r4 : List UInt8 := cX3_compare_w4 ++ []
def cX3_compare_w3 : List UInt8 := [0x60, 0x33, 0x2c, 0xb4, 0x00, 0x09, 0x15, 0x05, 0x15, 0x07, 0x60, 0x33, 0x64, 0x36, 0x08, 0x15, 0x08, 0x99, 0x00, 0x06, 0x15, 0x08, 0xac, 0x84, 0x07, 0x01]
def cX3_compare_r3 : List UInt8 := cX3_compare_w3 ++ cX3_compare_r4
def cX3_compare_w2 : List UInt8 := [0x1d, 0x33, 0xb8, 0x00, 0x1f, 0x36, 0x06, 0x03, 0x36, 0x07, 0x15, 0x07, 0x15, 0x06, 0xa2, 0x00, 0x28, 0x2a, 0xb4, 0x00, 0x09, 0x15, 0x04, 0x15, 0x07]
def cX3_compare_r2 : List UInt8 := cX3_compare_w2 ++ cX3_compare_r3
def cX3_compare_w1 : List UInt8 := [0x1d, 0x33, 0x64, 0xac, 0x1b, 0x10, 0x1e, 0x68, 0x36, 0x04, 0x1d, 0x10, 0x1e, 0x68, 0x36, 0x05, 0x2a, 0xb4, 0x00, 0x0f, 0x1b, 0x33, 0x2c, 0xb4, 0x00, 0x0f]
def cX3_compare_r1 : List UInt8 := cX3_compare_w1 ++ cX3_compare_r2
def cX3_compare_w0 : List UInt8 := [0x2a, 0xb4, 0x00, 0x12, 0x1b, 0x33, 0x2c, 0xb4, 0x00, 0x12, 0x1d, 0x33, 0x9f, 0x00, 0x11, 0x2a, 0xb4, 0x00, 0x12, 0x1b, 0x33, 0x2c, 0xb4, 0x00, 0x12]
def cX3_compare_r0 : List UInt8 := cX3_compare_w0 ++ cX3_compare_r1
theorem cX3_compare_s0 : dw_S cX3_compare 0 cX3_compare_r0 := dw_S0 (by decide +kernel)
theorem cX3_compare_s1 : dw_S cX3_compare 25 cX3_compare_r1 := dw_Sn (w := cX3_compare_w0) (r := cX3_compare_r1) cX3_compare_s0 (by decide +kernel)
theorem cX3_compare_k0 : dw_ok cX3_compare (ByteArray.mk cX3_compare_w0.toArray) 0 := dw_Sw (r := cX3_compare_r1) cX3_compare_s0
theorem cX3_compare_s2 : dw_S cX3_compare 51 cX3_compare_r2 := dw_Sn (w := cX3_compare_w1) (r := cX3_compare_r2) cX3_compare_s1 (by decide +kernel)
theorem cX3_compare_k1 : dw_ok cX3_compare (ByteArray.mk cX3_compare_w1.toArray) 25 := dw_Sw (r := cX3_compare_r2) cX3_compare_s1
theorem cX3_compare_s3 : dw_S cX3_compare 76 cX3_compare_r3 := dw_Sn (w := cX3_compare_w2) (r := cX3_compare_r3) cX3_compare_s2 (by decide +kernel)
theorem cX3_compare_k2 : dw_ok cX3_compare (ByteArray.mk cX3_compare_w2.toArray) 51 := dw_Sw (r := cX3_compare_r3) cX3_compare_s2
theorem cX3_compare_s4 : dw_S cX3_compare 102 cX3_compare_r4 := dw_Sn (w := cX3_compare_w3) (r := cX3_compare_r4) cX3_compare_s3 (by decide +kernel)
theorem cX3_compare_k3 : dw_ok cX3_compare (ByteArray.mk cX3_compare_w3.toArray) 76 := dw_Sw (r := cX3_compare_r4) cX3_compare_s3
theorem cX3_compare_k4 : dw_ok cX3_compare (ByteArray.mk cX3_compare_w4.toArray) 102 := dw_Sw (r := []) cX3_compare_s4
def cX3_find_w2 : List UInt8 := [0x9a, 0x00, 0x06, 0x15, 0x06, 0xac, 0x15, 0x07, 0x9c, 0x00, 0x0b, 0x15, 0x06, 0x04, 0x60, 0x3e, 0xa7, 0x00, 0x07, 0x15, 0x06, 0x36, 0x04, 0x84, 0x05, 0x01, 0xa7, 0xff, 0xc0, 0x02, 0x1d, 0x64, 0xac]
def cX3_find_r2 : List UInt8 := cX3_find_w2 ++ []
def cX3_find_w1 : List UInt8 := [0x1d, 0x15, 0x04, 0x60, 0x04, 0x7c, 0x36, 0x06, 0x2a, 0x2a, 0xb4, 0x00, 0x15, 0x15, 0x06, 0x2e, 0x2b, 0x1c, 0xb6, 0x00, 0x29, 0x36, 0x07, 0x15, 0x07]
def cX3_find_r1 : List UInt8 := cX3_find_w1 ++ cX3_find_r2
def cX3_find_w0 : List UInt8 := [0x03, 0x3e, 0x2a, 0xb4, 0x00, 0x25, 0x36, 0x04, 0x03, 0x36, 0x05, 0x15, 0x05, 0x10, 0x20, 0xa2, 0x00, 0x3f, 0x1d, 0x15, 0x04, 0xa2, 0x00, 0x39]
def cX3_find_r0 : List UInt8 := cX3_find_w0 ++ cX3_find_r1
theorem cX3_find_s0 : dw_S cX3_find 0 cX3_find_r0 := dw_S0 (by decide +kernel)
theorem cX3_find_s1 : dw_S cX3_find 24 cX3_find_r1 := dw_Sn (w := cX3_find_w0) (r := cX3_find_r1) cX3_find_s0 (by decide +kernel)
theorem cX3_find_k0 : dw_ok cX3_find (ByteArray.mk cX3_find_w0.toArray) 0 := dw_Sw (r := cX3_find_r1) cX3_find_s0
theorem cX3_find_s2 : dw_S cX3_find 49 cX3_find_r2 := dw_Sn (w := cX3_find_w1) (r := cX3_find_r2) cX3_find_s1 (by decide +kernel)
theorem cX3_find_k1 : dw_ok cX3_find (ByteArray.mk cX3_find_w1.toArray) 24 := dw_Sw (r := cX3_find_r2) cX3_find_s1
theorem cX3_find_k2 : dw_ok cX3_find (ByteArray.mk cX3_find_w2.toArray) 49 := dw_Sw (r := []) cX3_find_s2
def cX3_insert_w2 : List UInt8 := [0x1b, 0x2a, 0xb4, 0x00, 0x25, 0x4f, 0x2a, 0x59, 0xb4, 0x00, 0x25, 0x04, 0x60, 0xb5, 0x00, 0x25, 0xb1]
def cX3_insert_r2 : List UInt8 := cX3_insert_w2 ++ []
def cX3_insert_w1 : List UInt8 := [0xb4, 0x00, 0x15, 0x1b, 0x2a, 0xb4, 0x00, 0x15, 0x1b, 0x04, 0x60, 0x2a, 0xb4, 0x00, 0x25, 0x1b, 0x64, 0xb8, 0x00, 0x19, 0x2a, 0xb4, 0x00, 0x15]
def cX3_insert_r1 : List UInt8 := cX3_insert_w1 ++ cX3_insert_r2
def cX3_insert_w0 : List UInt8 := [0x2a, 0xb4, 0x00, 0x25, 0x2a, 0xb4, 0x00, 0x15, 0xbe, 0xa1, 0x00, 0x04, 0xb1, 0x2a, 0x2a, 0xb4, 0x00, 0x25, 0x2c, 0x1d, 0xb6, 0x00, 0x35, 0x2a]
def cX3_insert_r0 : List UInt8 := cX3_insert_w0 ++ cX3_insert_r1
theorem cX3_insert_s0 : dw_S cX3_insert 0 cX3_insert_r0 := dw_S0 (by decide +kernel)
theorem cX3_insert_s1 : dw_S cX3_insert 24 cX3_insert_r1 := dw_Sn (w := cX3_insert_w0) (r := cX3_insert_r1) cX3_insert_s0 (by decide +kernel)
theorem cX3_insert_k0 : dw_ok cX3_insert (ByteArray.mk cX3_insert_w0.toArray) 0 := dw_Sw (r := cX3_insert_r1) cX3_insert_s0
theorem cX3_insert_s2 : dw_S cX3_insert 48 cX3_insert_r2 := dw_Sn (w := cX3_insert_w1) (r := cX3_insert_r2) cX3_insert_s1 (by decide +kernel)
theorem cX3_insert_k1 : dw_ok cX3_insert (ByteArray.mk cX3_insert_w1.toArray) 24 := dw_Sw (r := cX3_insert_r2) cX3_insert_s1
theorem cX3_insert_k2 : dw_ok cX3_insert (ByteArray.mk cX3_insert_w2.toArray) 48 := dw_Sw (r := []) cX3_insert_s2
def cX3_write_w1 : List UInt8 := [0x1b, 0x2c, 0xb4, 0x00, 0x0f, 0x1d, 0x33, 0x54, 0x2a, 0xb4, 0x00, 0x12, 0x1b, 0x2c, 0xb4, 0x00, 0x12, 0x1d, 0x33, 0x54, 0xb1]
def cX3_write_r1 : List UInt8 := cX3_write_w1 ++ []
def cX3_write_w0 : List UInt8 := [0x2c, 0xb4, 0x00, 0x09, 0x1d, 0x10, 0x1e, 0x68, 0x2a, 0xb4, 0x00, 0x09, 0x1b, 0x10, 0x1e, 0x68, 0x10, 0x1e, 0xb8, 0x00, 0x19, 0x2a, 0xb4, 0x00, 0x0f]
def cX3_write_r0 : List UInt8 := cX3_write_w0 ++ cX3_write_r1
theorem cX3_write_s0 : dw_S cX3_write 0 cX3_write_r0 := dw_S0 (by decide +kernel)
theorem cX3_write_s1 : dw_S cX3_write 25 cX3_write_r1 := dw_Sn (w := cX3_write_w0) (r := cX3_write_r1) cX3_write_s0 (by decide +kernel)
theorem cX3_write_k0 : dw_ok cX3_write (ByteArray.mk cX3_write_w0.toArray) 0 := dw_Sw (r := cX3_write_r1) cX3_write_s0
theorem cX3_write_k1 : dw_ok cX3_write (ByteArray.mk cX3_write_w1.toArray) 25 := dw_Sw (r := []) cX3_write_s1
def cX4_addAt_w4 : List UInt8 := [0x1b, 0x60, 0x5c, 0x2f, 0x1d, 0x85, 0x65, 0x50, 0xb1]
def cX4_addAt_r4 : List UInt8 := cX4_addAt_w4 ++ []
def cX4_addAt_w3 : List UInt8 := [0x2a, 0xb4, 0x00, 0x15, 0x1b, 0x10, 0x08, 0x68, 0x1c, 0x60, 0x5c, 0x2f, 0x1d, 0x85, 0x65, 0x50, 0x2a, 0xb4, 0x00, 0x15, 0x1c, 0x10, 0x08, 0x68]
def cX4_addAt_r3 : List UInt8 := cX4_addAt_w3 ++ cX4_addAt_r4
def cX4_addAt_w2 : List UInt8 := [0x1d, 0x85, 0x61, 0x50, 0x1b, 0x9b, 0x00, 0x33, 0x1b, 0x15, 0x04, 0xa2, 0x00, 0x2d, 0x1c, 0x9b, 0x00, 0x29, 0x1c, 0x15, 0x04, 0xa2, 0x00, 0x23]
def cX4_addAt_r2 : List UInt8 := cX4_addAt_w2 ++ cX4_addAt_r3
def cX4_addAt_w1 : List UInt8 := [0x61, 0x50, 0x1c, 0x9b, 0x00, 0x19, 0x1c, 0x15, 0x04, 0xa2, 0x00, 0x13, 0x2a, 0xb4, 0x00, 0x15, 0x1c, 0x10, 0x08, 0x68, 0x1c, 0x60, 0x5c, 0x2f]
def cX4_addAt_r1 : List UInt8 := cX4_addAt_w1 ++ cX4_addAt_r2
def cX4_addAt_w0 : List UInt8 := [0x1b, 0x9b, 0x00, 0x19, 0x1b, 0x15, 0x04, 0xa2, 0x00, 0x13, 0x2a, 0xb4, 0x00, 0x15, 0x1b, 0x10, 0x08, 0x68, 0x1b, 0x60, 0x5c, 0x2f, 0x1d, 0x85]
def cX4_addAt_r0 : List UInt8 := cX4_addAt_w0 ++ cX4_addAt_r1
theorem cX4_addAt_s0 : dw_S cX4_addAt 0 cX4_addAt_r0 := dw_S0 (by decide +kernel)
theorem cX4_addAt_s1 : dw_S cX4_addAt 24 cX4_addAt_r1 := dw_Sn (w := cX4_addAt_w0) (r := cX4_addAt_r1) cX4_addAt_s0 (by decide +kernel)
theorem cX4_addAt_k0 : dw_ok cX4_addAt (ByteArray.mk cX4_addAt_w0.toArray) 0 := dw_Sw (r := cX4_addAt_r1) cX4_addAt_s0
theorem cX4_addAt_s2 : dw_S cX4_addAt 48 cX4_addAt_r2 := dw_Sn (w := cX4_addAt_w1) (r := cX4_addAt_r2) cX4_addAt_s1 (by decide +kernel)
theorem cX4_addAt_k1 : dw_ok cX4_addAt (ByteArray.mk cX4_addAt_w1.toArray) 24 := dw_Sw (r := cX4_addAt_r2) cX4_addAt_s1
theorem cX4_addAt_s3 : dw_S cX4_addAt 72 cX4_addAt_r3 := dw_Sn (w := cX4_addAt_w2) (r := cX4_addAt_r3) cX4_addAt_s2 (by decide +kernel)
theorem cX4_addAt_k2 : dw_ok cX4_addAt (ByteArray.mk cX4_addAt_w2.toArray) 48 := dw_Sw (r := cX4_addAt_r3) cX4_addAt_s2
theorem cX4_addAt_s4 : dw_S cX4_addAt 96 cX4_addAt_r4 := dw_Sn (w := cX4_addAt_w3) (r := cX4_addAt_r4) cX4_addAt_s3 (by decide +kernel)
theorem cX4_addAt_k3 : dw_ok cX4_addAt (ByteArray.mk cX4_addAt_w3.toArray) 72 := dw_Sw (r := cX4_addAt_r4) cX4_addAt_s3
theorem cX4_addAt_k4 : dw_ok cX4_addAt (ByteArray.mk cX4_addAt_w4.toArray) 96 := dw_Sw (r := []) cX4_addAt_s4
def cX4_findCharacteristic_w8 : List UInt8 := [0xb4, 0x00, 0x1c, 0x03, 0x2a, 0xb4, 0x00, 0x19, 0x03, 0x2a, 0xb4, 0x00, 0x1c, 0xbe, 0xb8, 0x00, 0x6c, 0x84, 0x02, 0x01, 0xa7, 0xff, 0x43, 0xb1]
def cX4_findCharacteristic_r8 : List UInt8 := cX4_findCharacteristic_w8 ++ []
def cX4_findCharacteristic_w7 : List UInt8 := [0x60, 0x2f, 0x61, 0x42, 0x84, 0x05, 0x01, 0xa7, 0xff, 0x97, 0x2a, 0xb4, 0x00, 0x1f, 0x1b, 0x1c, 0x64, 0x21, 0x75, 0x1c, 0x85, 0x6d, 0x50, 0x2a]
def cX4_findCharacteristic_r7 : List UInt8 := cX4_findCharacteristic_w7 ++ cX4_findCharacteristic_r8
def cX4_findCharacteristic_w6 : List UInt8 := [0x68, 0x15, 0x06, 0x60, 0x16, 0x07, 0x50, 0x84, 0x06, 0x01, 0xa7, 0xff, 0xb6, 0x21, 0x2a, 0xb4, 0x00, 0x1c, 0x15, 0x05, 0x10, 0x08, 0x68, 0x15, 0x05]
def cX4_findCharacteristic_r6 : List UInt8 := cX4_findCharacteristic_w6 ++ cX4_findCharacteristic_r7
def cX4_findCharacteristic_w5 : List UInt8 := [0x10, 0x08, 0x68, 0x15, 0x06, 0x60, 0x2f, 0x69, 0x61, 0x37, 0x07, 0x84, 0x09, 0x01, 0xa7, 0xff, 0xd7, 0x2a, 0xb4, 0x00, 0x1c, 0x15, 0x05, 0x10, 0x08]
def cX4_findCharacteristic_r5 : List UInt8 := cX4_findCharacteristic_w5 ++ cX4_findCharacteristic_r6
def cX4_findCharacteristic_w4 : List UInt8 := [0xa2, 0x00, 0x29, 0x16, 0x07, 0x2a, 0xb4, 0x00, 0x15, 0x15, 0x05, 0x10, 0x08, 0x68, 0x15, 0x09, 0x60, 0x2f, 0x2a, 0xb4, 0x00, 0x19, 0x15, 0x09]
def cX4_findCharacteristic_r4 : List UInt8 := cX4_findCharacteristic_w4 ++ cX4_findCharacteristic_r5
def cX4_findCharacteristic_w3 : List UInt8 := [0x15, 0x05, 0x1b, 0xa2, 0x00, 0x69, 0x03, 0x36, 0x06, 0x15, 0x06, 0x1b, 0xa2, 0x00, 0x4a, 0x09, 0x37, 0x07, 0x03, 0x36, 0x09, 0x15, 0x09, 0x1b]
def cX4_findCharacteristic_r3 : List UInt8 := cX4_findCharacteristic_w3 ++ cX4_findCharacteristic_r4
def cX4_findCharacteristic_w2 : List UInt8 := [0x2f, 0x2a, 0xb4, 0x00, 0x1f, 0x1b, 0x1c, 0x64, 0x04, 0x60, 0x2f, 0x61, 0x50, 0x84, 0x03, 0x01, 0xa7, 0xff, 0xe0, 0x09, 0x42, 0x03, 0x36, 0x05]
def cX4_findCharacteristic_r2 : List UInt8 := cX4_findCharacteristic_w2 ++ cX4_findCharacteristic_r3
def cX4_findCharacteristic_w1 : List UInt8 := [0x3d, 0x1c, 0x1b, 0xa3, 0x00, 0xbe, 0x03, 0x3e, 0x1d, 0x1b, 0xa2, 0x00, 0x21, 0x2a, 0xb4, 0x00, 0x19, 0x1d, 0x10, 0x08, 0x68, 0x1d, 0x60, 0x5c]
def cX4_findCharacteristic_r1 : List UInt8 := cX4_findCharacteristic_w1 ++ cX4_findCharacteristic_r2
def cX4_findCharacteristic_w0 : List UInt8 := [0x2a, 0xb4, 0x00, 0x1f, 0x09, 0xb8, 0x00, 0x59, 0x2a, 0xb4, 0x00, 0x19, 0x09, 0xb8, 0x00, 0x59, 0x2a, 0xb4, 0x00, 0x1f, 0x1b, 0x0a, 0x50, 0x04]
def cX4_findCharacteristic_r0 : List UInt8 := cX4_findCharacteristic_w0 ++ cX4_findCharacteristic_r1
theorem cX4_findCharacteristic_s0 : dw_S cX4_findCharacteristic 0 cX4_findCharacteristic_r0 := dw_S0 (by decide +kernel)
theorem cX4_findCharacteristic_s1 : dw_S cX4_findCharacteristic 24 cX4_findCharacteristic_r1 := dw_Sn (w := cX4_findCharacteristic_w0) (r := cX4_findCharacteristic_r1) cX4_findCharacteristic_s0 (by decide +kernel)
theorem cX4_findCharacteristic_k0 : dw_ok cX4_findCharacteristic (ByteArray.mk cX4_findCharacteristic_w0.toArray) 0 := dw_Sw (r := cX4_findCharacteristic_r1) cX4_findCharacteristic_s0
theorem cX4_findCharacteristic_s2 : dw_S cX4_findCharacteristic 48 cX4_findCharacteristic_r2 := dw_Sn (w := cX4_findCharacteristic_w1) (r := cX4_findCharacteristic_r2) cX4_findCharacteristic_s1 (by decide +kernel)
theorem cX4_findCharacteristic_k1 : dw_ok cX4_findCharacteristic (ByteArray.mk cX4_findCharacteristic_w1.toArray) 24 := dw_Sw (r := cX4_findCharacteristic_r2) cX4_findCharacteristic_s1
theorem cX4_findCharacteristic_s3 : dw_S cX4_findCharacteristic 72 cX4_findCharacteristic_r3 := dw_Sn (w := cX4_findCharacteristic_w2) (r := cX4_findCharacteristic_r3) cX4_findCharacteristic_s2 (by decide +kernel)
theorem cX4_findCharacteristic_k2 : dw_ok cX4_findCharacteristic (ByteArray.mk cX4_findCharacteristic_w2.toArray) 48 := dw_Sw (r := cX4_findCharacteristic_r3) cX4_findCharacteristic_s2
theorem cX4_findCharacteristic_s4 : dw_S cX4_findCharacteristic 96 cX4_findCharacteristic_r4 := dw_Sn (w := cX4_findCharacteristic_w3) (r := cX4_findCharacteristic_r4) cX4_findCharacteristic_s3 (by decide +kernel)
theorem cX4_findCharacteristic_k3 : dw_ok cX4_findCharacteristic (ByteArray.mk cX4_findCharacteristic_w3.toArray) 72 := dw_Sw (r := cX4_findCharacteristic_r4) cX4_findCharacteristic_s3
theorem cX4_findCharacteristic_s5 : dw_S cX4_findCharacteristic 120 cX4_findCharacteristic_r5 := dw_Sn (w := cX4_findCharacteristic_w4) (r := cX4_findCharacteristic_r5) cX4_findCharacteristic_s4 (by decide +kernel)
theorem cX4_findCharacteristic_k4 : dw_ok cX4_findCharacteristic (ByteArray.mk cX4_findCharacteristic_w4.toArray) 96 := dw_Sw (r := cX4_findCharacteristic_r5) cX4_findCharacteristic_s4
theorem cX4_findCharacteristic_s6 : dw_S cX4_findCharacteristic 145 cX4_findCharacteristic_r6 := dw_Sn (w := cX4_findCharacteristic_w5) (r := cX4_findCharacteristic_r6) cX4_findCharacteristic_s5 (by decide +kernel)
theorem cX4_findCharacteristic_k5 : dw_ok cX4_findCharacteristic (ByteArray.mk cX4_findCharacteristic_w5.toArray) 120 := dw_Sw (r := cX4_findCharacteristic_r6) cX4_findCharacteristic_s5
theorem cX4_findCharacteristic_s7 : dw_S cX4_findCharacteristic 170 cX4_findCharacteristic_r7 := dw_Sn (w := cX4_findCharacteristic_w6) (r := cX4_findCharacteristic_r7) cX4_findCharacteristic_s6 (by decide +kernel)
theorem cX4_findCharacteristic_k6 : dw_ok cX4_findCharacteristic (ByteArray.mk cX4_findCharacteristic_w6.toArray) 145 := dw_Sw (r := cX4_findCharacteristic_r7) cX4_findCharacteristic_s6
theorem cX4_findCharacteristic_s8 : dw_S cX4_findCharacteristic 194 cX4_findCharacteristic_r8 := dw_Sn (w := cX4_findCharacteristic_w7) (r := cX4_findCharacteristic_r8) cX4_findCharacteristic_s7 (by decide +kernel)
theorem cX4_findCharacteristic_k7 : dw_ok cX4_findCharacteristic (ByteArray.mk cX4_findCharacteristic_w7.toArray) 170 := dw_Sw (r := cX4_findCharacteristic_r8) cX4_findCharacteristic_s7
theorem cX4_findCharacteristic_k8 : dw_ok cX4_findCharacteristic (ByteArray.mk cX4_findCharacteristic_w8.toArray) 194 := dw_Sw (r := []) cX4_findCharacteristic_s8
def cX4_init_w2 : List UInt8 := [0xb5, 0x00, 0x1c, 0x2a, 0x10, 0x09, 0xbc, 0x0b, 0xb5, 0x00, 0x1f, 0xb1]
def cX4_init_r2 : List UInt8 := cX4_init_w2 ++ []
def cX4_init_w1 : List UInt8 := [0xb5, 0x00, 0x12, 0x2a, 0x10, 0x40, 0xbc, 0x0b, 0xb5, 0x00, 0x15, 0x2a, 0x10, 0x40, 0xbc, 0x0b, 0xb5, 0x00, 0x19, 0x2a, 0x10, 0x40, 0xbc, 0x0b]
def cX4_init_r1 : List UInt8 := cX4_init_w1 ++ cX4_init_r2
def cX4_init_w0 : List UInt8 := [0x2a, 0xb7, 0x00, 0x03, 0x2a, 0x10, 0x30, 0xbc, 0x0a, 0xb5, 0x00, 0x09, 0x2a, 0x10, 0x30, 0xbc, 0x0a, 0xb5, 0x00, 0x0f, 0x2a, 0x10, 0x30, 0xbc, 0x0a]
def cX4_init_r0 : List UInt8 := cX4_init_w0 ++ cX4_init_r1
theorem cX4_init_s0 : dw_S cX4_init 0 cX4_init_r0 := dw_S0 (by decide +kernel)
theorem cX4_init_s1 : dw_S cX4_init 25 cX4_init_r1 := dw_Sn (w := cX4_init_w0) (r := cX4_init_r1) cX4_init_s0 (by decide +kernel)
theorem cX4_init_k0 : dw_ok cX4_init (ByteArray.mk cX4_init_w0.toArray) 0 := dw_Sw (r := cX4_init_r1) cX4_init_s0
theorem cX4_init_s2 : dw_S cX4_init 49 cX4_init_r2 := dw_Sn (w := cX4_init_w1) (r := cX4_init_r2) cX4_init_s1 (by decide +kernel)
theorem cX4_init_k1 : dw_ok cX4_init (ByteArray.mk cX4_init_w1.toArray) 25 := dw_Sw (r := cX4_init_r2) cX4_init_s1
theorem cX4_init_k2 : dw_ok cX4_init (ByteArray.mk cX4_init_w2.toArray) 49 := dw_Sw (r := []) cX4_init_s2
def cX4_mark_w4 : List UInt8 := [0x60, 0xb5, 0x00, 0x37, 0x84, 0x03, 0x01, 0xa7, 0xff, 0xb1, 0xb1]
def cX4_mark_r4 : List UInt8 := cX4_mark_w4 ++ []
def cX4_mark_w3 : List UInt8 := [0xb4, 0x00, 0x37, 0x4f, 0x2b, 0x15, 0x04, 0xb8, 0x00, 0x3a, 0x36, 0x04, 0x84, 0x05, 0x01, 0xa7, 0xff, 0xd9, 0x2a, 0x59, 0xb4, 0x00, 0x37, 0x04]
def cX4_mark_r3 : List UInt8 := cX4_mark_w3 ++ cX4_mark_r4
def cX4_mark_w2 : List UInt8 := [0x15, 0x05, 0x1c, 0xa2, 0x00, 0x27, 0x2a, 0xb4, 0x00, 0x09, 0x15, 0x04, 0x2e, 0x02, 0xa0, 0x00, 0x1c, 0x2a, 0xb4, 0x00, 0x09, 0x15, 0x04, 0x2a]
def cX4_mark_r2 : List UInt8 := cX4_mark_w2 ++ cX4_mark_r3
def cX4_mark_w1 : List UInt8 := [0x1d, 0x1c, 0xa2, 0x00, 0x50, 0x2a, 0xb4, 0x00, 0x09, 0x1d, 0x2e, 0x02, 0x9f, 0x00, 0x06, 0xa7, 0x00, 0x3d, 0x1d, 0x36, 0x04, 0x03, 0x36, 0x05]
def cX4_mark_r1 : List UInt8 := cX4_mark_w1 ++ cX4_mark_r2
def cX4_mark_w0 : List UInt8 := [0x07, 0x2b, 0xb4, 0x00, 0x2d, 0x68, 0x3d, 0x2a, 0xb4, 0x00, 0x09, 0x03, 0x1c, 0x02, 0xb8, 0x00, 0x31, 0x2a, 0x03, 0xb5, 0x00, 0x37, 0x03, 0x3e]
def cX4_mark_r0 : List UInt8 := cX4_mark_w0 ++ cX4_mark_r1
theorem cX4_mark_s0 : dw_S cX4_mark 0 cX4_mark_r0 := dw_S0 (by decide +kernel)
theorem cX4_mark_s1 : dw_S cX4_mark 24 cX4_mark_r1 := dw_Sn (w := cX4_mark_w0) (r := cX4_mark_r1) cX4_mark_s0 (by decide +kernel)
theorem cX4_mark_k0 : dw_ok cX4_mark (ByteArray.mk cX4_mark_w0.toArray) 0 := dw_Sw (r := cX4_mark_r1) cX4_mark_s0
theorem cX4_mark_s2 : dw_S cX4_mark 48 cX4_mark_r2 := dw_Sn (w := cX4_mark_w1) (r := cX4_mark_r2) cX4_mark_s1 (by decide +kernel)
theorem cX4_mark_k1 : dw_ok cX4_mark (ByteArray.mk cX4_mark_w1.toArray) 24 := dw_Sw (r := cX4_mark_r2) cX4_mark_s1
theorem cX4_mark_s3 : dw_S cX4_mark 72 cX4_mark_r3 := dw_Sn (w := cX4_mark_w2) (r := cX4_mark_r3) cX4_mark_s2 (by decide +kernel)
theorem cX4_mark_k2 : dw_ok cX4_mark (ByteArray.mk cX4_mark_w2.toArray) 48 := dw_Sw (r := cX4_mark_r3) cX4_mark_s2
theorem cX4_mark_s4 : dw_S cX4_mark 96 cX4_mark_r4 := dw_Sn (w := cX4_mark_w3) (r := cX4_mark_r4) cX4_mark_s3 (by decide +kernel)
theorem cX4_mark_k3 : dw_ok cX4_mark (ByteArray.mk cX4_mark_w3.toArray) 72 := dw_Sw (r := cX4_mark_r4) cX4_mark_s3
theorem cX4_mark_k4 : dw_ok cX4_mark (ByteArray.mk cX4_mark_w4.toArray) 96 := dw_Sw (r := []) cX4_mark_s4
def cX4_numberRows_w3 : List UInt8 := [0x15, 0x06, 0x15, 0x04, 0x4f, 0x84, 0x04, 0x01, 0x84, 0x05, 0x01, 0xa7, 0xff, 0xba, 0x15, 0x04, 0xac]
def cX4_numberRows_r3 : List UInt8 := cX4_numberRows_w3 ++ []
def cX4_numberRows_w2 : List UInt8 := [0x2a, 0xb4, 0x00, 0x0f, 0x15, 0x06, 0x2e, 0x1d, 0xa0, 0x00, 0x1a, 0x2a, 0xb4, 0x00, 0x12, 0x15, 0x06, 0x2e, 0x02, 0xa0, 0x00, 0x0f, 0x2a, 0xb4, 0x00, 0x12]
def cX4_numberRows_r2 : List UInt8 := cX4_numberRows_w2 ++ cX4_numberRows_r3
def cX4_numberRows_w1 : List UInt8 := [0x68, 0xa2, 0x00, 0x41, 0x2a, 0xb4, 0x00, 0x09, 0x15, 0x05, 0x2e, 0x36, 0x06, 0x2b, 0xb4, 0x00, 0x53, 0x15, 0x05, 0x04, 0x7a, 0x2e, 0x1c, 0xa0, 0x00, 0x25]
def cX4_numberRows_r1 : List UInt8 := cX4_numberRows_w1 ++ cX4_numberRows_r2
def cX4_numberRows_w0 : List UInt8 := [0x2a, 0xb4, 0x00, 0x12, 0x03, 0x2a, 0xb4, 0x00, 0x37, 0x02, 0xb8, 0x00, 0x31, 0x03, 0x36, 0x04, 0x03, 0x36, 0x05, 0x15, 0x05, 0x07, 0x2b, 0xb4, 0x00, 0x2d]
def cX4_numberRows_r0 : List UInt8 := cX4_numberRows_w0 ++ cX4_numberRows_r1
theorem cX4_numberRows_s0 : dw_S cX4_numberRows 0 cX4_numberRows_r0 := dw_S0 (by decide +kernel)
theorem cX4_numberRows_s1 : dw_S cX4_numberRows 26 cX4_numberRows_r1 := dw_Sn (w := cX4_numberRows_w0) (r := cX4_numberRows_r1) cX4_numberRows_s0 (by decide +kernel)
theorem cX4_numberRows_k0 : dw_ok cX4_numberRows (ByteArray.mk cX4_numberRows_w0.toArray) 0 := dw_Sw (r := cX4_numberRows_r1) cX4_numberRows_s0
theorem cX4_numberRows_s2 : dw_S cX4_numberRows 52 cX4_numberRows_r2 := dw_Sn (w := cX4_numberRows_w1) (r := cX4_numberRows_r2) cX4_numberRows_s1 (by decide +kernel)
theorem cX4_numberRows_k1 : dw_ok cX4_numberRows (ByteArray.mk cX4_numberRows_w1.toArray) 26 := dw_Sw (r := cX4_numberRows_r2) cX4_numberRows_s1
theorem cX4_numberRows_s3 : dw_S cX4_numberRows 78 cX4_numberRows_r3 := dw_Sn (w := cX4_numberRows_w2) (r := cX4_numberRows_r3) cX4_numberRows_s2 (by decide +kernel)
theorem cX4_numberRows_k2 : dw_ok cX4_numberRows (ByteArray.mk cX4_numberRows_w2.toArray) 52 := dw_Sw (r := cX4_numberRows_r3) cX4_numberRows_s2
theorem cX4_numberRows_k3 : dw_ok cX4_numberRows (ByteArray.mk cX4_numberRows_w3.toArray) 78 := dw_Sw (r := []) cX4_numberRows_s3
def cX4_onward_w3 : List UInt8 := [0x15, 0x05, 0x1c, 0xa0, 0x00, 0x0a, 0x05, 0x15, 0x04, 0x68, 0xa7, 0x00, 0x0e, 0x05, 0x2a, 0xb4, 0x00, 0x2a, 0x15, 0x04, 0x2e, 0x68, 0x04, 0x60, 0xac]
def cX4_onward_r3 : List UInt8 := cX4_onward_w3 ++ []
def cX4_onward_w2 : List UInt8 := [0xb4, 0x00, 0x27, 0x1d, 0x04, 0x7a, 0x2e, 0x9e, 0x00, 0x07, 0x04, 0xa7, 0x00, 0x04, 0x03, 0xa0, 0x00, 0x07, 0x04, 0xa7, 0x00, 0x04, 0x03, 0x36, 0x05]
def cX4_onward_r2 : List UInt8 := cX4_onward_w2 ++ cX4_onward_r3
def cX4_onward_w1 : List UInt8 := [0xa7, 0x00, 0x06, 0x1b, 0x04, 0x7a, 0x3e, 0x1d, 0x04, 0x82, 0x36, 0x04, 0x1d, 0x04, 0x7e, 0x9a, 0x00, 0x07, 0x04, 0xa7, 0x00, 0x04, 0x03, 0x2a]
def cX4_onward_r1 : List UInt8 := cX4_onward_w1 ++ cX4_onward_r2
def cX4_onward_w0 : List UInt8 := [0x1b, 0x04, 0x7e, 0x9a, 0x00, 0x07, 0x04, 0xa7, 0x00, 0x04, 0x03, 0x3d, 0x1c, 0x99, 0x00, 0x0e, 0x2a, 0xb4, 0x00, 0x22, 0x1b, 0x04, 0x7a, 0x2e]
def cX4_onward_r0 : List UInt8 := cX4_onward_w0 ++ cX4_onward_r1
theorem cX4_onward_s0 : dw_S cX4_onward 0 cX4_onward_r0 := dw_S0 (by decide +kernel)
theorem cX4_onward_s1 : dw_S cX4_onward 24 cX4_onward_r1 := dw_Sn (w := cX4_onward_w0) (r := cX4_onward_r1) cX4_onward_s0 (by decide +kernel)
theorem cX4_onward_k0 : dw_ok cX4_onward (ByteArray.mk cX4_onward_w0.toArray) 0 := dw_Sw (r := cX4_onward_r1) cX4_onward_s0
theorem cX4_onward_s2 : dw_S cX4_onward 48 cX4_onward_r2 := dw_Sn (w := cX4_onward_w1) (r := cX4_onward_r2) cX4_onward_s1 (by decide +kernel)
theorem cX4_onward_k1 : dw_ok cX4_onward (ByteArray.mk cX4_onward_w1.toArray) 24 := dw_Sw (r := cX4_onward_r2) cX4_onward_s1
theorem cX4_onward_s3 : dw_S cX4_onward 73 cX4_onward_r3 := dw_Sn (w := cX4_onward_w2) (r := cX4_onward_r3) cX4_onward_s2 (by decide +kernel)
theorem cX4_onward_k2 : dw_ok cX4_onward (ByteArray.mk cX4_onward_w2.toArray) 48 := dw_Sw (r := cX4_onward_r3) cX4_onward_s2
theorem cX4_onward_k3 : dw_ok cX4_onward (ByteArray.mk cX4_onward_w3.toArray) 73 := dw_Sw (r := []) cX4_onward_s3
def cX4_paint_w7 : List UInt8 := [0x36, 0x04, 0x84, 0x06, 0x01, 0xa7, 0xff, 0x69, 0x84, 0x05, 0x01, 0xa7, 0xff, 0x51, 0xb1]
def cX4_paint_r7 : List UInt8 := cX4_paint_w7 ++ []
def cX4_paint_w6 : List UInt8 := [0x15, 0x08, 0x2e, 0x02, 0x9f, 0x00, 0x16, 0x2a, 0xb4, 0x00, 0x0f, 0x15, 0x07, 0x04, 0x2a, 0xb4, 0x00, 0x0f, 0x15, 0x08, 0x2e, 0x64, 0x4f, 0x04]
def cX4_paint_r6 : List UInt8 := cX4_paint_w6 ++ cX4_paint_r7
def cX4_paint_w5 : List UInt8 := [0x15, 0x07, 0x2e, 0x64, 0x4f, 0x04, 0x36, 0x04, 0xa7, 0x00, 0x2c, 0x2a, 0xb4, 0x00, 0x0f, 0x15, 0x07, 0x2e, 0x02, 0xa0, 0x00, 0x21, 0x2a, 0xb4, 0x00, 0x0f]
def cX4_paint_r5 : List UInt8 := cX4_paint_w5 ++ cX4_paint_r6
def cX4_paint_w4 : List UInt8 := [0x02, 0x9f, 0x00, 0x24, 0x2a, 0xb4, 0x00, 0x0f, 0x15, 0x08, 0x2e, 0x02, 0xa0, 0x00, 0x19, 0x2a, 0xb4, 0x00, 0x0f, 0x15, 0x08, 0x04, 0x2a, 0xb4, 0x00, 0x0f]
def cX4_paint_r4 : List UInt8 := cX4_paint_w4 ++ cX4_paint_r5
def cX4_paint_w3 : List UInt8 := [0x2e, 0x36, 0x08, 0x1d, 0x9a, 0x00, 0x0d, 0x2a, 0xb4, 0x00, 0x0f, 0x15, 0x07, 0x03, 0x4f, 0x04, 0x3e, 0x2a, 0xb4, 0x00, 0x0f, 0x15, 0x07, 0x2e]
def cX4_paint_r3 : List UInt8 := cX4_paint_w3 ++ cX4_paint_r4
def cX4_paint_w2 : List UInt8 := [0xa7, 0x00, 0x7e, 0x2a, 0xb4, 0x00, 0x09, 0x05, 0x15, 0x06, 0x68, 0x2e, 0x36, 0x07, 0x2a, 0xb4, 0x00, 0x09, 0x05, 0x15, 0x06, 0x68, 0x04, 0x60]
def cX4_paint_r2 : List UInt8 := cX4_paint_w2 ++ cX4_paint_r3
def cX4_paint_w1 : List UInt8 := [0x36, 0x06, 0x15, 0x06, 0x05, 0x2b, 0xb4, 0x00, 0x2d, 0x68, 0xa2, 0x00, 0x92, 0x2b, 0xb4, 0x00, 0x53, 0x15, 0x06, 0x2e, 0x1c, 0x9f, 0x00, 0x06]
def cX4_paint_r1 : List UInt8 := cX4_paint_w1 ++ cX4_paint_r2
def cX4_paint_w0 : List UInt8 := [0x03, 0x3e, 0x04, 0x36, 0x04, 0x03, 0x36, 0x05, 0x15, 0x05, 0x10, 0x30, 0xa2, 0x00, 0xae, 0x15, 0x04, 0x99, 0x00, 0xa9, 0x03, 0x36, 0x04, 0x03]
def cX4_paint_r0 : List UInt8 := cX4_paint_w0 ++ cX4_paint_r1
theorem cX4_paint_s0 : dw_S cX4_paint 0 cX4_paint_r0 := dw_S0 (by decide +kernel)
theorem cX4_paint_s1 : dw_S cX4_paint 24 cX4_paint_r1 := dw_Sn (w := cX4_paint_w0) (r := cX4_paint_r1) cX4_paint_s0 (by decide +kernel)
theorem cX4_paint_k0 : dw_ok cX4_paint (ByteArray.mk cX4_paint_w0.toArray) 0 := dw_Sw (r := cX4_paint_r1) cX4_paint_s0
theorem cX4_paint_s2 : dw_S cX4_paint 48 cX4_paint_r2 := dw_Sn (w := cX4_paint_w1) (r := cX4_paint_r2) cX4_paint_s1 (by decide +kernel)
theorem cX4_paint_k1 : dw_ok cX4_paint (ByteArray.mk cX4_paint_w1.toArray) 24 := dw_Sw (r := cX4_paint_r2) cX4_paint_s1
theorem cX4_paint_s3 : dw_S cX4_paint 72 cX4_paint_r3 := dw_Sn (w := cX4_paint_w2) (r := cX4_paint_r3) cX4_paint_s2 (by decide +kernel)
theorem cX4_paint_k2 : dw_ok cX4_paint (ByteArray.mk cX4_paint_w2.toArray) 48 := dw_Sw (r := cX4_paint_r3) cX4_paint_s2
theorem cX4_paint_s4 : dw_S cX4_paint 96 cX4_paint_r4 := dw_Sn (w := cX4_paint_w3) (r := cX4_paint_r4) cX4_paint_s3 (by decide +kernel)
theorem cX4_paint_k3 : dw_ok cX4_paint (ByteArray.mk cX4_paint_w3.toArray) 72 := dw_Sw (r := cX4_paint_r4) cX4_paint_s3
theorem cX4_paint_s5 : dw_S cX4_paint 122 cX4_paint_r5 := dw_Sn (w := cX4_paint_w4) (r := cX4_paint_r5) cX4_paint_s4 (by decide +kernel)
theorem cX4_paint_k4 : dw_ok cX4_paint (ByteArray.mk cX4_paint_w4.toArray) 96 := dw_Sw (r := cX4_paint_r5) cX4_paint_s4
theorem cX4_paint_s6 : dw_S cX4_paint 148 cX4_paint_r6 := dw_Sn (w := cX4_paint_w5) (r := cX4_paint_r6) cX4_paint_s5 (by decide +kernel)
theorem cX4_paint_k5 : dw_ok cX4_paint (ByteArray.mk cX4_paint_w5.toArray) 122 := dw_Sw (r := cX4_paint_r6) cX4_paint_s5
theorem cX4_paint_s7 : dw_S cX4_paint 172 cX4_paint_r7 := dw_Sn (w := cX4_paint_w6) (r := cX4_paint_r7) cX4_paint_s6 (by decide +kernel)
theorem cX4_paint_k6 : dw_ok cX4_paint (ByteArray.mk cX4_paint_w6.toArray) 148 := dw_Sw (r := cX4_paint_r7) cX4_paint_s6
theorem cX4_paint_k7 : dw_ok cX4_paint (ByteArray.mk cX4_paint_w7.toArray) 172 := dw_Sw (r := []) cX4_paint_s7
def cX4_signChanges_w3 : List UInt8 := [0x94, 0x9c, 0x00, 0x06, 0x84, 0x03, 0x01, 0x16, 0x07, 0x37, 0x04, 0x84, 0x06, 0x01, 0xa7, 0xff, 0xb1, 0x1d, 0xac]
def cX4_signChanges_r3 : List UInt8 := cX4_signChanges_w3 ++ []
def cX4_signChanges_w2 : List UInt8 := [0x16, 0x04, 0x09, 0x94, 0x9c, 0x00, 0x0a, 0x16, 0x07, 0x09, 0x94, 0x9d, 0x00, 0x11, 0x16, 0x04, 0x09, 0x94, 0x9e, 0x00, 0x0d, 0x16, 0x07, 0x09]
def cX4_signChanges_r2 : List UInt8 := cX4_signChanges_w2 ++ cX4_signChanges_r3
def cX4_signChanges_w1 : List UInt8 := [0x15, 0x06, 0x04, 0x7e, 0x04, 0xa0, 0x00, 0x07, 0x02, 0xa7, 0x00, 0x04, 0x04, 0x85, 0x69, 0x37, 0x07, 0x16, 0x07, 0x09, 0x94, 0x99, 0x00, 0x26]
def cX4_signChanges_r1 : List UInt8 := cX4_signChanges_w1 ++ cX4_signChanges_r2
def cX4_signChanges_w0 : List UInt8 := [0x03, 0x3e, 0x09, 0x37, 0x04, 0x03, 0x36, 0x06, 0x15, 0x06, 0x1b, 0xa3, 0x00, 0x4f, 0x2a, 0xb4, 0x00, 0x1f, 0x15, 0x06, 0x2f, 0x1c, 0x9c, 0x00, 0x0f]
def cX4_signChanges_r0 : List UInt8 := cX4_signChanges_w0 ++ cX4_signChanges_r1
theorem cX4_signChanges_s0 : dw_S cX4_signChanges 0 cX4_signChanges_r0 := dw_S0 (by decide +kernel)
theorem cX4_signChanges_s1 : dw_S cX4_signChanges 25 cX4_signChanges_r1 := dw_Sn (w := cX4_signChanges_w0) (r := cX4_signChanges_r1) cX4_signChanges_s0 (by decide +kernel)
theorem cX4_signChanges_k0 : dw_ok cX4_signChanges (ByteArray.mk cX4_signChanges_w0.toArray) 0 := dw_Sw (r := cX4_signChanges_r1) cX4_signChanges_s0
theorem cX4_signChanges_s2 : dw_S cX4_signChanges 49 cX4_signChanges_r2 := dw_Sn (w := cX4_signChanges_w1) (r := cX4_signChanges_r2) cX4_signChanges_s1 (by decide +kernel)
theorem cX4_signChanges_k1 : dw_ok cX4_signChanges (ByteArray.mk cX4_signChanges_w1.toArray) 25 := dw_Sw (r := cX4_signChanges_r2) cX4_signChanges_s1
theorem cX4_signChanges_s3 : dw_S cX4_signChanges 73 cX4_signChanges_r3 := dw_Sn (w := cX4_signChanges_w2) (r := cX4_signChanges_r3) cX4_signChanges_s2 (by decide +kernel)
theorem cX4_signChanges_k2 : dw_ok cX4_signChanges (ByteArray.mk cX4_signChanges_w2.toArray) 49 := dw_Sw (r := cX4_signChanges_r3) cX4_signChanges_s2
theorem cX4_signChanges_k3 : dw_ok cX4_signChanges (ByteArray.mk cX4_signChanges_w3.toArray) 73 := dw_Sw (r := []) cX4_signChanges_s3
def cX4_signatureOf_w2 : List UInt8 := [0xb6, 0x00, 0x4f, 0x60, 0x3d, 0x84, 0x03, 0x01, 0xa7, 0xff, 0xe0, 0x1c, 0xac]
def cX4_signatureOf_r2 : List UInt8 := cX4_signatureOf_w2 ++ []
def cX4_signatureOf_w1 : List UInt8 := [0x03, 0x3e, 0x1d, 0x2b, 0xb4, 0x00, 0x45, 0xa2, 0x00, 0x1e, 0x2a, 0x2b, 0x1d, 0xb6, 0x00, 0x48, 0x1c, 0x2a, 0x2b, 0x1d, 0x2a, 0x2b, 0x1d, 0xb6, 0x00, 0x4c]
def cX4_signatureOf_r1 : List UInt8 := cX4_signatureOf_w1 ++ cX4_signatureOf_r2
def cX4_signatureOf_w0 : List UInt8 := [0x2b, 0xb6, 0x00, 0x3e, 0x2a, 0x2b, 0xb6, 0x00, 0x41, 0x2a, 0xb4, 0x00, 0x0f, 0x03, 0x2a, 0xb4, 0x00, 0x37, 0x02, 0xb8, 0x00, 0x31, 0x03, 0x3d]
def cX4_signatureOf_r0 : List UInt8 := cX4_signatureOf_w0 ++ cX4_signatureOf_r1
theorem cX4_signatureOf_s0 : dw_S cX4_signatureOf 0 cX4_signatureOf_r0 := dw_S0 (by decide +kernel)
theorem cX4_signatureOf_s1 : dw_S cX4_signatureOf 24 cX4_signatureOf_r1 := dw_Sn (w := cX4_signatureOf_w0) (r := cX4_signatureOf_r1) cX4_signatureOf_s0 (by decide +kernel)
theorem cX4_signatureOf_k0 : dw_ok cX4_signatureOf (ByteArray.mk cX4_signatureOf_w0.toArray) 0 := dw_Sw (r := cX4_signatureOf_r1) cX4_signatureOf_s0
theorem cX4_signatureOf_s2 : dw_S cX4_signatureOf 50 cX4_signatureOf_r2 := dw_Sn (w := cX4_signatureOf_w1) (r := cX4_signatureOf_r2) cX4_signatureOf_s1 (by decide +kernel)
theorem cX4_signatureOf_k1 : dw_ok cX4_signatureOf (ByteArray.mk cX4_signatureOf_w1.toArray) 24 := dw_Sw (r := cX4_signatureOf_r2) cX4_signatureOf_s1
theorem cX4_signatureOf_k2 : dw_ok cX4_signatureOf (ByteArray.mk cX4_signatureOf_w2.toArray) 50 := dw_Sw (r := []) cX4_signatureOf_s2
def cX4_signatureOfPart_w8 : List UInt8 := [0xb6, 0x00, 0x5c, 0x15, 0x05, 0x2b, 0xb4, 0x00, 0x27, 0x15, 0x06, 0x2e, 0x60, 0x36, 0x05, 0x84, 0x06, 0x01, 0xa7, 0xff, 0x40, 0x2a, 0x15, 0x04, 0xb6, 0x00, 0x60, 0x15, 0x05, 0x64, 0xac]
def cX4_signatureOfPart_r8 : List UInt8 := cX4_signatureOfPart_w8 ++ []
def cX4_signatureOfPart_w7 : List UInt8 := [0x2a, 0x2a, 0xb4, 0x00, 0x12, 0x15, 0x09, 0x2e, 0x2a, 0xb4, 0x00, 0x12, 0x15, 0x0a, 0x2e, 0x2b, 0xb4, 0x00, 0x27, 0x15, 0x06, 0x2e, 0x15, 0x04]
def cX4_signatureOfPart_r7 : List UInt8 := cX4_signatureOfPart_w7 ++ cX4_signatureOfPart_r8
def cX4_signatureOfPart_w6 : List UInt8 := [0x15, 0x07, 0x68, 0x04, 0x60, 0x2e, 0x36, 0x09, 0x2a, 0xb4, 0x00, 0x09, 0x05, 0x2b, 0xb4, 0x00, 0x2a, 0x15, 0x07, 0x2e, 0x68, 0x2e, 0x36, 0x0a]
def cX4_signatureOfPart_r6 : List UInt8 := cX4_signatureOfPart_w6 ++ cX4_signatureOfPart_r7
def cX4_signatureOfPart_w5 : List UInt8 := [0x15, 0x09, 0x2e, 0x2b, 0xb4, 0x00, 0x27, 0x15, 0x06, 0x2e, 0x74, 0x15, 0x04, 0xb6, 0x00, 0x5c, 0xa7, 0x00, 0x47, 0x2a, 0xb4, 0x00, 0x09, 0x05]
def cX4_signatureOfPart_r5 : List UInt8 := cX4_signatureOfPart_w5 ++ cX4_signatureOfPart_r6
def cX4_signatureOfPart_w4 : List UInt8 := [0x05, 0x2b, 0xb4, 0x00, 0x2a, 0x15, 0x07, 0x04, 0x82, 0x2e, 0x68, 0x2e, 0x36, 0x09, 0x2a, 0x2a, 0xb4, 0x00, 0x12, 0x15, 0x08, 0x2e, 0x2a, 0xb4, 0x00, 0x12]
def cX4_signatureOfPart_r4 : List UInt8 := cX4_signatureOfPart_w4 ++ cX4_signatureOfPart_r5
def cX4_signatureOfPart_w3 : List UInt8 := [0x2a, 0xb4, 0x00, 0x09, 0x05, 0x15, 0x07, 0x68, 0x2e, 0x36, 0x08, 0x2a, 0xb4, 0x00, 0x0f, 0x15, 0x08, 0x2e, 0x1d, 0xa0, 0x00, 0x34, 0x2a, 0xb4, 0x00, 0x09]
def cX4_signatureOfPart_r3 : List UInt8 := cX4_signatureOfPart_w3 ++ cX4_signatureOfPart_r4
def cX4_signatureOfPart_w2 : List UInt8 := [0x2b, 0xb4, 0x00, 0x27, 0x15, 0x06, 0x2e, 0x9e, 0x00, 0x0a, 0x05, 0x15, 0x06, 0x68, 0xa7, 0x00, 0x09, 0x05, 0x15, 0x06, 0x68, 0x04, 0x60, 0x36, 0x07]
def cX4_signatureOfPart_r2 : List UInt8 := cX4_signatureOfPart_w2 ++ cX4_signatureOfPart_r3
def cX4_signatureOfPart_w1 : List UInt8 := [0x15, 0x06, 0x2b, 0xb4, 0x00, 0x2d, 0xa2, 0x00, 0xbd, 0x2b, 0xb4, 0x00, 0x53, 0x05, 0x15, 0x06, 0x68, 0x2e, 0x1c, 0x9f, 0x00, 0x06, 0xa7, 0x00, 0xa7]
def cX4_signatureOfPart_r1 : List UInt8 := cX4_signatureOfPart_w1 ++ cX4_signatureOfPart_r2
def cX4_signatureOfPart_w0 : List UInt8 := [0x2a, 0x2b, 0x1c, 0x1d, 0xb6, 0x00, 0x56, 0x04, 0x64, 0x36, 0x04, 0x2a, 0xb4, 0x00, 0x15, 0x09, 0xb8, 0x00, 0x59, 0x03, 0x36, 0x05, 0x03, 0x36, 0x06]
def cX4_signatureOfPart_r0 : List UInt8 := cX4_signatureOfPart_w0 ++ cX4_signatureOfPart_r1
theorem cX4_signatureOfPart_s0 : dw_S cX4_signatureOfPart 0 cX4_signatureOfPart_r0 := dw_S0 (by decide +kernel)
theorem cX4_signatureOfPart_s1 : dw_S cX4_signatureOfPart 25 cX4_signatureOfPart_r1 := dw_Sn (w := cX4_signatureOfPart_w0) (r := cX4_signatureOfPart_r1) cX4_signatureOfPart_s0 (by decide +kernel)
theorem cX4_signatureOfPart_k0 : dw_ok cX4_signatureOfPart (ByteArray.mk cX4_signatureOfPart_w0.toArray) 0 := dw_Sw (r := cX4_signatureOfPart_r1) cX4_signatureOfPart_s0
theorem cX4_signatureOfPart_s2 : dw_S cX4_signatureOfPart 50 cX4_signatureOfPart_r2 := dw_Sn (w := cX4_signatureOfPart_w1) (r := cX4_signatureOfPart_r2) cX4_signatureOfPart_s1 (by decide +kernel)
theorem cX4_signatureOfPart_k1 : dw_ok cX4_signatureOfPart (ByteArray.mk cX4_signatureOfPart_w1.toArray) 25 := dw_Sw (r := cX4_signatureOfPart_r2) cX4_signatureOfPart_s1
theorem cX4_signatureOfPart_s3 : dw_S cX4_signatureOfPart 75 cX4_signatureOfPart_r3 := dw_Sn (w := cX4_signatureOfPart_w2) (r := cX4_signatureOfPart_r3) cX4_signatureOfPart_s2 (by decide +kernel)
theorem cX4_signatureOfPart_k2 : dw_ok cX4_signatureOfPart (ByteArray.mk cX4_signatureOfPart_w2.toArray) 50 := dw_Sw (r := cX4_signatureOfPart_r3) cX4_signatureOfPart_s2
theorem cX4_signatureOfPart_s4 : dw_S cX4_signatureOfPart 101 cX4_signatureOfPart_r4 := dw_Sn (w := cX4_signatureOfPart_w3) (r := cX4_signatureOfPart_r4) cX4_signatureOfPart_s3 (by decide +kernel)
theorem cX4_signatureOfPart_k3 : dw_ok cX4_signatureOfPart (ByteArray.mk cX4_signatureOfPart_w3.toArray) 75 := dw_Sw (r := cX4_signatureOfPart_r4) cX4_signatureOfPart_s3
theorem cX4_signatureOfPart_s5 : dw_S cX4_signatureOfPart 127 cX4_signatureOfPart_r5 := dw_Sn (w := cX4_signatureOfPart_w4) (r := cX4_signatureOfPart_r5) cX4_signatureOfPart_s4 (by decide +kernel)
theorem cX4_signatureOfPart_k4 : dw_ok cX4_signatureOfPart (ByteArray.mk cX4_signatureOfPart_w4.toArray) 101 := dw_Sw (r := cX4_signatureOfPart_r5) cX4_signatureOfPart_s4
theorem cX4_signatureOfPart_s6 : dw_S cX4_signatureOfPart 151 cX4_signatureOfPart_r6 := dw_Sn (w := cX4_signatureOfPart_w5) (r := cX4_signatureOfPart_r6) cX4_signatureOfPart_s5 (by decide +kernel)
theorem cX4_signatureOfPart_k5 : dw_ok cX4_signatureOfPart (ByteArray.mk cX4_signatureOfPart_w5.toArray) 127 := dw_Sw (r := cX4_signatureOfPart_r6) cX4_signatureOfPart_s5
theorem cX4_signatureOfPart_s7 : dw_S cX4_signatureOfPart 175 cX4_signatureOfPart_r7 := dw_Sn (w := cX4_signatureOfPart_w6) (r := cX4_signatureOfPart_r7) cX4_signatureOfPart_s6 (by decide +kernel)
theorem cX4_signatureOfPart_k6 : dw_ok cX4_signatureOfPart (ByteArray.mk cX4_signatureOfPart_w6.toArray) 151 := dw_Sw (r := cX4_signatureOfPart_r7) cX4_signatureOfPart_s6
theorem cX4_signatureOfPart_s8 : dw_S cX4_signatureOfPart 199 cX4_signatureOfPart_r8 := dw_Sn (w := cX4_signatureOfPart_w7) (r := cX4_signatureOfPart_r8) cX4_signatureOfPart_s7 (by decide +kernel)
theorem cX4_signatureOfPart_k7 : dw_ok cX4_signatureOfPart (ByteArray.mk cX4_signatureOfPart_w7.toArray) 175 := dw_Sw (r := cX4_signatureOfPart_r8) cX4_signatureOfPart_s7
theorem cX4_signatureOfPart_k8 : dw_ok cX4_signatureOfPart (ByteArray.mk cX4_signatureOfPart_w8.toArray) 199 := dw_Sw (r := []) cX4_signatureOfPart_s8
def cX5_conjugateBy_w3 : List UInt8 := [0x59, 0xb4, 0x00, 0x1d, 0x04, 0x64, 0xb5, 0x00, 0x1d, 0x2a, 0x15, 0x04, 0xb6, 0x00, 0x53, 0x2a, 0x1b, 0xb6, 0x00, 0x3f, 0xb1]
def cX5_conjugateBy_r3 : List UInt8 := cX5_conjugateBy_w3 ++ []
def cX5_conjugateBy_w2 : List UInt8 := [0x2a, 0xb4, 0x00, 0x1d, 0x04, 0x7e, 0x9a, 0x00, 0x07, 0x1d, 0xa7, 0x00, 0x0b, 0x1d, 0x2a, 0xb4, 0x00, 0x19, 0xb8, 0x00, 0x42, 0x36, 0x04, 0x2a]
def cX5_conjugateBy_r2 : List UInt8 := cX5_conjugateBy_w2 ++ cX5_conjugateBy_r3
def cX5_conjugateBy_w1 : List UInt8 := [0x1c, 0x2a, 0xb4, 0x00, 0x19, 0x04, 0x64, 0x15, 0x04, 0x64, 0xb8, 0x00, 0x0f, 0x07, 0x15, 0x04, 0x68, 0x78, 0x80, 0x3e, 0x84, 0x04, 0x01, 0xa7, 0xff, 0xdf]
def cX5_conjugateBy_r1 : List UInt8 := cX5_conjugateBy_w1 ++ cX5_conjugateBy_r2
def cX5_conjugateBy_w0 : List UInt8 := [0x1b, 0x2a, 0xb4, 0x00, 0x19, 0xb8, 0x00, 0x13, 0x3d, 0x03, 0x3e, 0x03, 0x36, 0x04, 0x15, 0x04, 0x2a, 0xb4, 0x00, 0x19, 0xa2, 0x00, 0x1e, 0x1d]
def cX5_conjugateBy_r0 : List UInt8 := cX5_conjugateBy_w0 ++ cX5_conjugateBy_r1
theorem cX5_conjugateBy_s0 : dw_S cX5_conjugateBy 0 cX5_conjugateBy_r0 := dw_S0 (by decide +kernel)
theorem cX5_conjugateBy_s1 : dw_S cX5_conjugateBy 24 cX5_conjugateBy_r1 := dw_Sn (w := cX5_conjugateBy_w0) (r := cX5_conjugateBy_r1) cX5_conjugateBy_s0 (by decide +kernel)
theorem cX5_conjugateBy_k0 : dw_ok cX5_conjugateBy (ByteArray.mk cX5_conjugateBy_w0.toArray) 0 := dw_Sw (r := cX5_conjugateBy_r1) cX5_conjugateBy_s0
theorem cX5_conjugateBy_s2 : dw_S cX5_conjugateBy 50 cX5_conjugateBy_r2 := dw_Sn (w := cX5_conjugateBy_w1) (r := cX5_conjugateBy_r2) cX5_conjugateBy_s1 (by decide +kernel)
theorem cX5_conjugateBy_k1 : dw_ok cX5_conjugateBy (ByteArray.mk cX5_conjugateBy_w1.toArray) 24 := dw_Sw (r := cX5_conjugateBy_r2) cX5_conjugateBy_s1
theorem cX5_conjugateBy_s3 : dw_S cX5_conjugateBy 74 cX5_conjugateBy_r3 := dw_Sn (w := cX5_conjugateBy_w2) (r := cX5_conjugateBy_r3) cX5_conjugateBy_s2 (by decide +kernel)
theorem cX5_conjugateBy_k2 : dw_ok cX5_conjugateBy (ByteArray.mk cX5_conjugateBy_w2.toArray) 50 := dw_Sw (r := cX5_conjugateBy_r3) cX5_conjugateBy_s2
theorem cX5_conjugateBy_k3 : dw_ok cX5_conjugateBy (ByteArray.mk cX5_conjugateBy_w3.toArray) 74 := dw_Sw (r := []) cX5_conjugateBy_s3
def cX5_copy_w1 : List UInt8 := [0x2b, 0xb4, 0x00, 0x0b, 0x03, 0x2a, 0xb4, 0x00, 0x0b, 0x03, 0x2a, 0xb4, 0x00, 0x20, 0xb8, 0x00, 0x34, 0xb1]
def cX5_copy_r1 : List UInt8 := cX5_copy_w1 ++ []
def cX5_copy_w0 : List UInt8 := [0x2a, 0x2b, 0xb4, 0x00, 0x19, 0xb6, 0x00, 0x30, 0x2a, 0x2b, 0xb4, 0x00, 0x1d, 0xb5, 0x00, 0x1d, 0x2a, 0x2b, 0xb4, 0x00, 0x20, 0xb5, 0x00, 0x20]
def cX5_copy_r0 : List UInt8 := cX5_copy_w0 ++ cX5_copy_r1
theorem cX5_copy_s0 : dw_S cX5_copy 0 cX5_copy_r0 := dw_S0 (by decide +kernel)
theorem cX5_copy_s1 : dw_S cX5_copy 24 cX5_copy_r1 := dw_Sn (w := cX5_copy_w0) (r := cX5_copy_r1) cX5_copy_s0 (by decide +kernel)
theorem cX5_copy_k0 : dw_ok cX5_copy (ByteArray.mk cX5_copy_w0.toArray) 0 := dw_Sw (r := cX5_copy_r1) cX5_copy_s0
theorem cX5_copy_k1 : dw_ok cX5_copy (ByteArray.mk cX5_copy_w1.toArray) 24 := dw_Sw (r := []) cX5_copy_s1
def cX5_cycle_w2 : List UInt8 := [0x2a, 0xb4, 0x00, 0x0b, 0x04, 0x2a, 0xb4, 0x00, 0x0b, 0x03, 0x2a, 0xb4, 0x00, 0x20, 0xb8, 0x00, 0x34, 0x2a, 0x1b, 0xb6, 0x00, 0x3f, 0xb1]
def cX5_cycle_r2 : List UInt8 := cX5_cycle_w2 ++ []
def cX5_cycle_w1 : List UInt8 := [0x2a, 0xb4, 0x00, 0x0b, 0x03, 0x2e, 0x2a, 0xb4, 0x00, 0x19, 0xb8, 0x00, 0x42, 0x3c, 0x2a, 0x59, 0xb4, 0x00, 0x20, 0x04, 0x64, 0xb5, 0x00, 0x20]
def cX5_cycle_r1 : List UInt8 := cX5_cycle_w1 ++ cX5_cycle_r2
def cX5_cycle_w0 : List UInt8 := [0x2a, 0xb4, 0x00, 0x20, 0x9e, 0x00, 0x43, 0x2a, 0xb4, 0x00, 0x1d, 0x04, 0x7e, 0x9a, 0x00, 0x0c, 0x2a, 0xb4, 0x00, 0x0b, 0x03, 0x2e, 0xa7, 0x00, 0x10]
def cX5_cycle_r0 : List UInt8 := cX5_cycle_w0 ++ cX5_cycle_r1
theorem cX5_cycle_s0 : dw_S cX5_cycle 0 cX5_cycle_r0 := dw_S0 (by decide +kernel)
theorem cX5_cycle_s1 : dw_S cX5_cycle 25 cX5_cycle_r1 := dw_Sn (w := cX5_cycle_w0) (r := cX5_cycle_r1) cX5_cycle_s0 (by decide +kernel)
theorem cX5_cycle_k0 : dw_ok cX5_cycle (ByteArray.mk cX5_cycle_w0.toArray) 0 := dw_Sw (r := cX5_cycle_r1) cX5_cycle_s0
theorem cX5_cycle_s2 : dw_S cX5_cycle 49 cX5_cycle_r2 := dw_Sn (w := cX5_cycle_w1) (r := cX5_cycle_r2) cX5_cycle_s1 (by decide +kernel)
theorem cX5_cycle_k1 : dw_ok cX5_cycle (ByteArray.mk cX5_cycle_w1.toArray) 25 := dw_Sw (r := cX5_cycle_r2) cX5_cycle_s1
theorem cX5_cycle_k2 : dw_ok cX5_cycle (ByteArray.mk cX5_cycle_w2.toArray) 49 := dw_Sw (r := []) cX5_cycle_s2
def cX5_decycle_w1 : List UInt8 := [0x04, 0x64, 0xb5, 0x00, 0x20, 0x2a, 0x2a, 0xb4, 0x00, 0x1d, 0x04, 0x7e, 0x9a, 0x00, 0x07, 0x1b, 0xa7, 0x00, 0x0b, 0x1b, 0x2a, 0xb4, 0x00, 0x19, 0xb8, 0x00, 0x42, 0xb6, 0x00, 0x53, 0xb1]
def cX5_decycle_r1 : List UInt8 := cX5_decycle_w1 ++ []
def cX5_decycle_w0 : List UInt8 := [0x2a, 0xb4, 0x00, 0x20, 0x9e, 0x00, 0x32, 0x2a, 0xb4, 0x00, 0x0b, 0x2a, 0xb4, 0x00, 0x20, 0x04, 0x64, 0x2e, 0x3c, 0x2a, 0x59, 0xb4, 0x00, 0x20]
def cX5_decycle_r0 : List UInt8 := cX5_decycle_w0 ++ cX5_decycle_r1
theorem cX5_decycle_s0 : dw_S cX5_decycle 0 cX5_decycle_r0 := dw_S0 (by decide +kernel)
theorem cX5_decycle_s1 : dw_S cX5_decycle 24 cX5_decycle_r1 := dw_Sn (w := cX5_decycle_w0) (r := cX5_decycle_r1) cX5_decycle_s0 (by decide +kernel)
theorem cX5_decycle_k0 : dw_ok cX5_decycle (ByteArray.mk cX5_decycle_w0.toArray) 0 := dw_Sw (r := cX5_decycle_r1) cX5_decycle_s0
theorem cX5_decycle_k1 : dw_ok cX5_decycle (ByteArray.mk cX5_decycle_w1.toArray) 24 := dw_Sw (r := []) cX5_decycle_s1
def cX5_movable_w1 : List UInt8 := [0xa4, 0x00, 0x14, 0x1b, 0x1d, 0xb8, 0x00, 0x0f, 0x1b, 0x1d, 0x04, 0x60, 0xb8, 0x00, 0x0f, 0xa2, 0x00, 0x05, 0x1d, 0xac, 0x84, 0x03, 0x01, 0xa7, 0xff, 0xd3, 0x02, 0xac]
def cX5_movable_r1 : List UInt8 := cX5_movable_w1 ++ []
def cX5_movable_w0 : List UInt8 := [0x03, 0x3e, 0x1d, 0x2a, 0xb4, 0x00, 0x19, 0x04, 0x64, 0xa2, 0x00, 0x29, 0x1c, 0x1d, 0xb8, 0x00, 0x0f, 0x1c, 0x1d, 0x04, 0x60, 0xb8, 0x00, 0x0f]
def cX5_movable_r0 : List UInt8 := cX5_movable_w0 ++ cX5_movable_r1
theorem cX5_movable_s0 : dw_S cX5_movable 0 cX5_movable_r0 := dw_S0 (by decide +kernel)
theorem cX5_movable_s1 : dw_S cX5_movable 24 cX5_movable_r1 := dw_Sn (w := cX5_movable_w0) (r := cX5_movable_r1) cX5_movable_s0 (by decide +kernel)
theorem cX5_movable_k0 : dw_ok cX5_movable (ByteArray.mk cX5_movable_w0.toArray) 0 := dw_Sw (r := cX5_movable_r1) cX5_movable_s0
theorem cX5_movable_k1 : dw_ok cX5_movable (ByteArray.mk cX5_movable_w1.toArray) 24 := dw_Sw (r := []) cX5_movable_s1
def cX5_putBefore_w2 : List UInt8 := [0x1d, 0x2a, 0xb4, 0x00, 0x20, 0x04, 0x64, 0xa2, 0x00, 0x13, 0x1c, 0x99, 0x00, 0x0f, 0x2a, 0x1d, 0xb6, 0x00, 0x49, 0x3d, 0x84, 0x03, 0x01, 0xa7, 0xff, 0xe9, 0x2a, 0xb6, 0x00, 0x4d, 0xb1]
def cX5_putBefore_r2 : List UInt8 := cX5_putBefore_w2 ++ []
def cX5_putBefore_w1 : List UInt8 := [0xb8, 0x00, 0x34, 0x2a, 0xb4, 0x00, 0x0b, 0x03, 0x1b, 0x4f, 0x2a, 0x59, 0xb4, 0x00, 0x20, 0x04, 0x60, 0xb5, 0x00, 0x20, 0x04, 0x3d, 0x03, 0x3e]
def cX5_putBefore_r1 : List UInt8 := cX5_putBefore_w1 ++ cX5_putBefore_r2
def cX5_putBefore_w0 : List UInt8 := [0x2a, 0xb4, 0x00, 0x20, 0x10, 0x18, 0xa1, 0x00, 0x04, 0xb1, 0x2a, 0xb4, 0x00, 0x0b, 0x03, 0x2a, 0xb4, 0x00, 0x0b, 0x04, 0x2a, 0xb4, 0x00, 0x20]
def cX5_putBefore_r0 : List UInt8 := cX5_putBefore_w0 ++ cX5_putBefore_r1
theorem cX5_putBefore_s0 : dw_S cX5_putBefore 0 cX5_putBefore_r0 := dw_S0 (by decide +kernel)
theorem cX5_putBefore_s1 : dw_S cX5_putBefore 24 cX5_putBefore_r1 := dw_Sn (w := cX5_putBefore_w0) (r := cX5_putBefore_r1) cX5_putBefore_s0 (by decide +kernel)
theorem cX5_putBefore_k0 : dw_ok cX5_putBefore (ByteArray.mk cX5_putBefore_w0.toArray) 0 := dw_Sw (r := cX5_putBefore_r1) cX5_putBefore_s0
theorem cX5_putBefore_s2 : dw_S cX5_putBefore 48 cX5_putBefore_r2 := dw_Sn (w := cX5_putBefore_w1) (r := cX5_putBefore_r2) cX5_putBefore_s1 (by decide +kernel)
theorem cX5_putBefore_k1 : dw_ok cX5_putBefore (ByteArray.mk cX5_putBefore_w1.toArray) 24 := dw_Sw (r := cX5_putBefore_r2) cX5_putBefore_s1
theorem cX5_putBefore_k2 : dw_ok cX5_putBefore (ByteArray.mk cX5_putBefore_w2.toArray) 48 := dw_Sw (r := []) cX5_putBefore_s2
def cX5_putBehind_w2 : List UInt8 := [0xb6, 0x00, 0x49, 0x3d, 0x84, 0x03, 0xff, 0xa7, 0xff, 0xef, 0x2a, 0xb6, 0x00, 0x4d, 0xb1]
def cX5_putBehind_r2 : List UInt8 := cX5_putBehind_w2 ++ []
def cX5_putBehind_w1 : List UInt8 := [0x04, 0x60, 0xb5, 0x00, 0x20, 0x04, 0x3d, 0x2a, 0xb4, 0x00, 0x20, 0x05, 0x64, 0x3e, 0x1d, 0x9b, 0x00, 0x13, 0x1c, 0x99, 0x00, 0x0f, 0x2a, 0x1d]
def cX5_putBehind_r1 : List UInt8 := cX5_putBehind_w1 ++ cX5_putBehind_r2
def cX5_putBehind_w0 : List UInt8 := [0x2a, 0xb4, 0x00, 0x20, 0x10, 0x18, 0xa1, 0x00, 0x04, 0xb1, 0x2a, 0xb4, 0x00, 0x0b, 0x2a, 0xb4, 0x00, 0x20, 0x1b, 0x4f, 0x2a, 0x59, 0xb4, 0x00, 0x20]
def cX5_putBehind_r0 : List UInt8 := cX5_putBehind_w0 ++ cX5_putBehind_r1
theorem cX5_putBehind_s0 : dw_S cX5_putBehind 0 cX5_putBehind_r0 := dw_S0 (by decide +kernel)
theorem cX5_putBehind_s1 : dw_S cX5_putBehind 25 cX5_putBehind_r1 := dw_Sn (w := cX5_putBehind_w0) (r := cX5_putBehind_r1) cX5_putBehind_s0 (by decide +kernel)
theorem cX5_putBehind_k0 : dw_ok cX5_putBehind (ByteArray.mk cX5_putBehind_w0.toArray) 0 := dw_Sw (r := cX5_putBehind_r1) cX5_putBehind_s0
theorem cX5_putBehind_s2 : dw_S cX5_putBehind 49 cX5_putBehind_r2 := dw_Sn (w := cX5_putBehind_w1) (r := cX5_putBehind_r2) cX5_putBehind_s1 (by decide +kernel)
theorem cX5_putBehind_k1 : dw_ok cX5_putBehind (ByteArray.mk cX5_putBehind_w1.toArray) 25 := dw_Sw (r := cX5_putBehind_r2) cX5_putBehind_s1
theorem cX5_putBehind_k2 : dw_ok cX5_putBehind (ByteArray.mk cX5_putBehind_w2.toArray) 49 := dw_Sw (r := []) cX5_putBehind_s2
def cX5_sameAs_w2 : List UInt8 := [0x2e, 0x2b, 0xb4, 0x00, 0x0b, 0x1c, 0x2e, 0x9f, 0x00, 0x05, 0x03, 0xac, 0x84, 0x02, 0x01, 0xa7, 0xff, 0xe4, 0x04, 0xac]
def cX5_sameAs_r2 : List UInt8 := cX5_sameAs_w2 ++ []
def cX5_sameAs_w1 : List UInt8 := [0x2b, 0xb4, 0x00, 0x20, 0x9f, 0x00, 0x05, 0x03, 0xac, 0x03, 0x3d, 0x1c, 0x2a, 0xb4, 0x00, 0x20, 0xa2, 0x00, 0x1a, 0x2a, 0xb4, 0x00, 0x0b, 0x1c]
def cX5_sameAs_r1 : List UInt8 := cX5_sameAs_w1 ++ cX5_sameAs_r2
def cX5_sameAs_w0 : List UInt8 := [0x2a, 0xb4, 0x00, 0x19, 0x2b, 0xb4, 0x00, 0x19, 0xa0, 0x00, 0x19, 0x2a, 0xb4, 0x00, 0x1d, 0x2b, 0xb4, 0x00, 0x1d, 0xa0, 0x00, 0x0e, 0x2a, 0xb4, 0x00, 0x20]
def cX5_sameAs_r0 : List UInt8 := cX5_sameAs_w0 ++ cX5_sameAs_r1
theorem cX5_sameAs_s0 : dw_S cX5_sameAs 0 cX5_sameAs_r0 := dw_S0 (by decide +kernel)
theorem cX5_sameAs_s1 : dw_S cX5_sameAs 26 cX5_sameAs_r1 := dw_Sn (w := cX5_sameAs_w0) (r := cX5_sameAs_r1) cX5_sameAs_s0 (by decide +kernel)
theorem cX5_sameAs_k0 : dw_ok cX5_sameAs (ByteArray.mk cX5_sameAs_w0.toArray) 0 := dw_Sw (r := cX5_sameAs_r1) cX5_sameAs_s0
theorem cX5_sameAs_s2 : dw_S cX5_sameAs 50 cX5_sameAs_r2 := dw_Sn (w := cX5_sameAs_w1) (r := cX5_sameAs_r2) cX5_sameAs_s1 (by decide +kernel)
theorem cX5_sameAs_k1 : dw_ok cX5_sameAs (ByteArray.mk cX5_sameAs_w1.toArray) 26 := dw_Sw (r := cX5_sameAs_r2) cX5_sameAs_s1
theorem cX5_sameAs_k2 : dw_ok cX5_sameAs (ByteArray.mk cX5_sameAs_w2.toArray) 50 := dw_Sw (r := []) cX5_sameAs_s2
def cX5_strip_w3 : List UInt8 := [0xb4, 0x00, 0x0b, 0x2a, 0xb4, 0x00, 0x20, 0x04, 0x64, 0x2e, 0x2a, 0xb4, 0x00, 0x27, 0xa0, 0x00, 0x10, 0x2a, 0x59, 0xb4, 0x00, 0x20, 0x04, 0x64, 0xb5, 0x00, 0x20, 0xa7, 0xff, 0xdd, 0xb1]
def cX5_strip_r3 : List UInt8 := cX5_strip_w3 ++ []
def cX5_strip_w2 : List UInt8 := [0xb4, 0x00, 0x0b, 0x1b, 0x2a, 0xb4, 0x00, 0x0b, 0x03, 0x2a, 0xb4, 0x00, 0x20, 0xb8, 0x00, 0x34, 0x2a, 0xb4, 0x00, 0x20, 0x9e, 0x00, 0x22, 0x2a]
def cX5_strip_r2 : List UInt8 := cX5_strip_w2 ++ cX5_strip_r3
def cX5_strip_w1 : List UInt8 := [0xa7, 0xff, 0xe8, 0x2a, 0x59, 0xb4, 0x00, 0x1d, 0x1b, 0x60, 0xb5, 0x00, 0x1d, 0x2a, 0x59, 0xb4, 0x00, 0x20, 0x1b, 0x64, 0xb5, 0x00, 0x20, 0x2a]
def cX5_strip_r1 : List UInt8 := cX5_strip_w1 ++ cX5_strip_r2
def cX5_strip_w0 : List UInt8 := [0x03, 0x3c, 0x1b, 0x2a, 0xb4, 0x00, 0x20, 0xa2, 0x00, 0x16, 0x2a, 0xb4, 0x00, 0x0b, 0x1b, 0x2e, 0x2a, 0xb4, 0x00, 0x2d, 0xa0, 0x00, 0x09, 0x84, 0x01, 0x01]
def cX5_strip_r0 : List UInt8 := cX5_strip_w0 ++ cX5_strip_r1
theorem cX5_strip_s0 : dw_S cX5_strip 0 cX5_strip_r0 := dw_S0 (by decide +kernel)
theorem cX5_strip_s1 : dw_S cX5_strip 26 cX5_strip_r1 := dw_Sn (w := cX5_strip_w0) (r := cX5_strip_r1) cX5_strip_s0 (by decide +kernel)
theorem cX5_strip_k0 : dw_ok cX5_strip (ByteArray.mk cX5_strip_w0.toArray) 0 := dw_Sw (r := cX5_strip_r1) cX5_strip_s0
theorem cX5_strip_s2 : dw_S cX5_strip 50 cX5_strip_r2 := dw_Sn (w := cX5_strip_w1) (r := cX5_strip_r2) cX5_strip_s1 (by decide +kernel)
theorem cX5_strip_k1 : dw_ok cX5_strip (ByteArray.mk cX5_strip_w1.toArray) 26 := dw_Sw (r := cX5_strip_r2) cX5_strip_s1
theorem cX5_strip_s3 : dw_S cX5_strip 74 cX5_strip_r3 := dw_Sn (w := cX5_strip_w2) (r := cX5_strip_r3) cX5_strip_s2 (by decide +kernel)
theorem cX5_strip_k2 : dw_ok cX5_strip (ByteArray.mk cX5_strip_w2.toArray) 50 := dw_Sw (r := cX5_strip_r3) cX5_strip_s2
theorem cX5_strip_k3 : dw_ok cX5_strip (ByteArray.mk cX5_strip_w3.toArray) 74 := dw_Sw (r := []) cX5_strip_s3
def cX5_takeLetter_w3 : List UInt8 := [0x1c, 0x2a, 0xb4, 0x00, 0x19, 0xb8, 0x00, 0x45, 0xb6, 0x00, 0x3f, 0xb1]
def cX5_takeLetter_r3 : List UInt8 := cX5_takeLetter_w3 ++ []
def cX5_takeLetter_w2 : List UInt8 := [0xb8, 0x00, 0x42, 0x4f, 0x84, 0x03, 0x01, 0xa7, 0xff, 0xe2, 0x2a, 0x59, 0xb4, 0x00, 0x1d, 0x04, 0x64, 0xb5, 0x00, 0x1d, 0x2a, 0x2a, 0xb4, 0x00, 0x2d]
def cX5_takeLetter_r2 : List UInt8 := cX5_takeLetter_w2 ++ cX5_takeLetter_r3
def cX5_takeLetter_w1 : List UInt8 := [0x03, 0x3e, 0x1d, 0x2a, 0xb4, 0x00, 0x20, 0xa2, 0x00, 0x1c, 0x2a, 0xb4, 0x00, 0x0b, 0x1d, 0x2a, 0xb4, 0x00, 0x0b, 0x1d, 0x2e, 0x2a, 0xb4, 0x00, 0x19]
def cX5_takeLetter_r1 : List UInt8 := cX5_takeLetter_w1 ++ cX5_takeLetter_r2
def cX5_takeLetter_w0 : List UInt8 := [0x1b, 0xb8, 0x00, 0x3a, 0x04, 0x64, 0x3d, 0x1b, 0x9e, 0x00, 0x10, 0x2a, 0x2a, 0xb4, 0x00, 0x27, 0x1c, 0xb8, 0x00, 0x16, 0xb6, 0x00, 0x3f, 0xb1]
def cX5_takeLetter_r0 : List UInt8 := cX5_takeLetter_w0 ++ cX5_takeLetter_r1
theorem cX5_takeLetter_s0 : dw_S cX5_takeLetter 0 cX5_takeLetter_r0 := dw_S0 (by decide +kernel)
theorem cX5_takeLetter_s1 : dw_S cX5_takeLetter 24 cX5_takeLetter_r1 := dw_Sn (w := cX5_takeLetter_w0) (r := cX5_takeLetter_r1) cX5_takeLetter_s0 (by decide +kernel)
theorem cX5_takeLetter_k0 : dw_ok cX5_takeLetter (ByteArray.mk cX5_takeLetter_w0.toArray) 0 := dw_Sw (r := cX5_takeLetter_r1) cX5_takeLetter_s0
theorem cX5_takeLetter_s2 : dw_S cX5_takeLetter 49 cX5_takeLetter_r2 := dw_Sn (w := cX5_takeLetter_w1) (r := cX5_takeLetter_r2) cX5_takeLetter_s1 (by decide +kernel)
theorem cX5_takeLetter_k1 : dw_ok cX5_takeLetter (ByteArray.mk cX5_takeLetter_w1.toArray) 24 := dw_Sw (r := cX5_takeLetter_r2) cX5_takeLetter_s1
theorem cX5_takeLetter_s3 : dw_S cX5_takeLetter 74 cX5_takeLetter_r3 := dw_Sn (w := cX5_takeLetter_w2) (r := cX5_takeLetter_r3) cX5_takeLetter_s2 (by decide +kernel)
theorem cX5_takeLetter_k2 : dw_ok cX5_takeLetter (ByteArray.mk cX5_takeLetter_w2.toArray) 49 := dw_Sw (r := cX5_takeLetter_r3) cX5_takeLetter_s2
theorem cX5_takeLetter_k3 : dw_ok cX5_takeLetter (ByteArray.mk cX5_takeLetter_w3.toArray) 74 := dw_Sw (r := []) cX5_takeLetter_s3
def cX5_weigh_w3 : List UInt8 := [0x36, 0x04, 0x84, 0x05, 0x01, 0xa7, 0xff, 0xda, 0x2a, 0xb4, 0x00, 0x0b, 0x1b, 0x1c, 0x2a, 0xb4, 0x00, 0x19, 0xb8, 0x00, 0x13, 0x4f, 0x2a, 0xb4, 0x00, 0x0b, 0x1b, 0x04, 0x60, 0x1d, 0x4f, 0x04, 0xac]
def cX5_weigh_r3 : List UInt8 := cX5_weigh_w3 ++ []
def cX5_weigh_w2 : List UInt8 := [0x15, 0x04, 0x02, 0x9f, 0x00, 0x1f, 0x1c, 0x15, 0x04, 0xb8, 0x00, 0x16, 0x3d, 0x1d, 0x15, 0x04, 0xb8, 0x00, 0x16, 0x3e, 0x2a, 0x1c, 0x1d, 0xb6, 0x00, 0x50]
def cX5_weigh_r2 : List UInt8 := cX5_weigh_w2 ++ cX5_weigh_r3
def cX5_weigh_w1 : List UInt8 := [0x1c, 0x1d, 0xb6, 0x00, 0x50, 0x36, 0x04, 0x15, 0x04, 0x02, 0xa0, 0x00, 0x05, 0x03, 0xac, 0x03, 0x36, 0x05, 0x15, 0x05, 0x10, 0x0a, 0xa2, 0x00, 0x25]
def cX5_weigh_r1 : List UInt8 := cX5_weigh_w1 ++ cX5_weigh_r2
def cX5_weigh_w0 : List UInt8 := [0x2a, 0xb4, 0x00, 0x0b, 0x1b, 0x2e, 0x2a, 0xb4, 0x00, 0x19, 0xb8, 0x00, 0x13, 0x3d, 0x2a, 0xb4, 0x00, 0x0b, 0x1b, 0x04, 0x60, 0x2e, 0x3e, 0x2a]
def cX5_weigh_r0 : List UInt8 := cX5_weigh_w0 ++ cX5_weigh_r1
theorem cX5_weigh_s0 : dw_S cX5_weigh 0 cX5_weigh_r0 := dw_S0 (by decide +kernel)
theorem cX5_weigh_s1 : dw_S cX5_weigh 24 cX5_weigh_r1 := dw_Sn (w := cX5_weigh_w0) (r := cX5_weigh_r1) cX5_weigh_s0 (by decide +kernel)
theorem cX5_weigh_k0 : dw_ok cX5_weigh (ByteArray.mk cX5_weigh_w0.toArray) 0 := dw_Sw (r := cX5_weigh_r1) cX5_weigh_s0
theorem cX5_weigh_s2 : dw_S cX5_weigh 49 cX5_weigh_r2 := dw_Sn (w := cX5_weigh_w1) (r := cX5_weigh_r2) cX5_weigh_s1 (by decide +kernel)
theorem cX5_weigh_k1 : dw_ok cX5_weigh (ByteArray.mk cX5_weigh_w1.toArray) 24 := dw_Sw (r := cX5_weigh_r2) cX5_weigh_s1
theorem cX5_weigh_s3 : dw_S cX5_weigh 75 cX5_weigh_r3 := dw_Sn (w := cX5_weigh_w2) (r := cX5_weigh_r3) cX5_weigh_s2 (by decide +kernel)
theorem cX5_weigh_k2 : dw_ok cX5_weigh (ByteArray.mk cX5_weigh_w2.toArray) 49 := dw_Sw (r := cX5_weigh_r3) cX5_weigh_s2
theorem cX5_weigh_k3 : dw_ok cX5_weigh (ByteArray.mk cX5_weigh_w3.toArray) 75 := dw_Sw (r := []) cX5_weigh_s3
def cX6_collect_w3 : List UInt8 := [0xb4, 0x00, 0x31, 0xb4, 0x00, 0x4b, 0x03, 0xb6, 0x00, 0x4e, 0x84, 0x06, 0x01, 0xa7, 0xff, 0xd4, 0xb1]
def cX6_collect_r3 : List UInt8 := cX6_collect_w3 ++ []
def cX6_collect_w2 : List UInt8 := [0x2a, 0x1d, 0x15, 0x06, 0xb6, 0x00, 0x44, 0x99, 0x00, 0x1b, 0x2a, 0xb4, 0x00, 0x31, 0x2a, 0xb4, 0x00, 0x21, 0xb6, 0x00, 0x48, 0x19, 0x04, 0x2a]
def cX6_collect_r2 : List UInt8 := cX6_collect_w2 ++ cX6_collect_r3
def cX6_collect_w1 : List UInt8 := [0x2a, 0xb4, 0x00, 0x1d, 0xb6, 0x00, 0x3c, 0x2a, 0x1d, 0xb6, 0x00, 0x40, 0x36, 0x05, 0x03, 0x36, 0x06, 0x15, 0x06, 0x15, 0x05, 0xa2, 0x00, 0x2b]
def cX6_collect_r1 : List UInt8 := cX6_collect_w1 ++ cX6_collect_r2
def cX6_collect_w0 : List UInt8 := [0x2a, 0xb4, 0x00, 0x1d, 0x2b, 0x1c, 0xb6, 0x00, 0x35, 0x1d, 0x06, 0xa0, 0x00, 0x15, 0x2a, 0xb4, 0x00, 0x1d, 0xb6, 0x00, 0x39, 0x2a, 0xb4, 0x00, 0x27]
def cX6_collect_r0 : List UInt8 := cX6_collect_w0 ++ cX6_collect_r1
theorem cX6_collect_s0 : dw_S cX6_collect 0 cX6_collect_r0 := dw_S0 (by decide +kernel)
theorem cX6_collect_s1 : dw_S cX6_collect 25 cX6_collect_r1 := dw_Sn (w := cX6_collect_w0) (r := cX6_collect_r1) cX6_collect_s0 (by decide +kernel)
theorem cX6_collect_k0 : dw_ok cX6_collect (ByteArray.mk cX6_collect_w0.toArray) 0 := dw_Sw (r := cX6_collect_r1) cX6_collect_s0
theorem cX6_collect_s2 : dw_S cX6_collect 49 cX6_collect_r2 := dw_Sn (w := cX6_collect_w1) (r := cX6_collect_r2) cX6_collect_s1 (by decide +kernel)
theorem cX6_collect_k1 : dw_ok cX6_collect (ByteArray.mk cX6_collect_w1.toArray) 25 := dw_Sw (r := cX6_collect_r2) cX6_collect_s1
theorem cX6_collect_s3 : dw_S cX6_collect 73 cX6_collect_r3 := dw_Sn (w := cX6_collect_w2) (r := cX6_collect_r3) cX6_collect_s2 (by decide +kernel)
theorem cX6_collect_k2 : dw_ok cX6_collect (ByteArray.mk cX6_collect_w2.toArray) 49 := dw_Sw (r := cX6_collect_r3) cX6_collect_s2
theorem cX6_collect_k3 : dw_ok cX6_collect (ByteArray.mk cX6_collect_w3.toArray) 73 := dw_Sw (r := []) cX6_collect_s3
def cX6_countNumbers_w3 : List UInt8 := [0xb4, 0x00, 0x51, 0x05, 0x60, 0x10, 0x0c, 0xa4, 0x00, 0x07, 0x03, 0xa7, 0x00, 0x0c, 0x1c, 0x04, 0x60, 0x1c, 0x05, 0x60, 0x68, 0x07, 0x68, 0xac, 0x05, 0x1c, 0x68, 0xac]
def cX6_countNumbers_r3 : List UInt8 := cX6_countNumbers_w3 ++ []
def cX6_countNumbers_w2 : List UInt8 := [0x1c, 0x04, 0x60, 0x07, 0x68, 0xac, 0x2a, 0xb4, 0x00, 0x1d, 0xb4, 0x00, 0x51, 0x2a, 0xb4, 0x00, 0x1d, 0xb4, 0x00, 0x51, 0x68, 0xac, 0x2a, 0xb4, 0x00, 0x1d]
def cX6_countNumbers_r2 : List UInt8 := cX6_countNumbers_w2 ++ cX6_countNumbers_r3
def cX6_countNumbers_w1 : List UInt8 := [0x2a, 0xb4, 0x00, 0x1d, 0xb4, 0x00, 0x51, 0xac, 0x2a, 0xb4, 0x00, 0x1d, 0xb4, 0x00, 0x51, 0x04, 0x60, 0x10, 0x0c, 0xa4, 0x00, 0x07, 0x03, 0xa7, 0x00, 0x08]
def cX6_countNumbers_r1 : List UInt8 := cX6_countNumbers_w1 ++ cX6_countNumbers_r2
def cX6_countNumbers_w0 : List UInt8 := [0x05, 0x2a, 0xb4, 0x00, 0x1d, 0xb4, 0x00, 0x51, 0x68, 0x3d, 0x1b, 0xaa, 0x00, 0x00, 0x00, 0x69, 0x00, 0x00, 0x00, 0x00, 0x00, 0x00, 0x00, 0x03, 0x00, 0x00, 0x00, 0x1d, 0x00, 0x00, 0x00, 0x25, 0x00, 0x00, 0x00, 0x3d, 0x00, 0x00, 0x00, 0x4d]
def cX6_countNumbers_r0 : List UInt8 := cX6_countNumbers_w0 ++ cX6_countNumbers_r1
theorem cX6_countNumbers_s0 : dw_S cX6_countNumbers 0 cX6_countNumbers_r0 := dw_S0 (by decide +kernel)
theorem cX6_countNumbers_s1 : dw_S cX6_countNumbers 40 cX6_countNumbers_r1 := dw_Sn (w := cX6_countNumbers_w0) (r := cX6_countNumbers_r1) cX6_countNumbers_s0 (by decide +kernel)
theorem cX6_countNumbers_k0 : dw_ok cX6_countNumbers (ByteArray.mk cX6_countNumbers_w0.toArray) 0 := dw_Sw (r := cX6_countNumbers_r1) cX6_countNumbers_s0
theorem cX6_countNumbers_s2 : dw_S cX6_countNumbers 66 cX6_countNumbers_r2 := dw_Sn (w := cX6_countNumbers_w1) (r := cX6_countNumbers_r2) cX6_countNumbers_s1 (by decide +kernel)
theorem cX6_countNumbers_k1 : dw_ok cX6_countNumbers (ByteArray.mk cX6_countNumbers_w1.toArray) 40 := dw_Sw (r := cX6_countNumbers_r2) cX6_countNumbers_s1
theorem cX6_countNumbers_s3 : dw_S cX6_countNumbers 92 cX6_countNumbers_r3 := dw_Sn (w := cX6_countNumbers_w2) (r := cX6_countNumbers_r3) cX6_countNumbers_s2 (by decide +kernel)
theorem cX6_countNumbers_k2 : dw_ok cX6_countNumbers (ByteArray.mk cX6_countNumbers_w2.toArray) 66 := dw_Sw (r := cX6_countNumbers_r3) cX6_countNumbers_s2
theorem cX6_countNumbers_k3 : dw_ok cX6_countNumbers (ByteArray.mk cX6_countNumbers_w3.toArray) 92 := dw_Sw (r := []) cX6_countNumbers_s3
def cX6_init_w3 : List UInt8 := [0xb5, 0x00, 0x27, 0x2a, 0xbb, 0x00, 0x24, 0x59, 0xb7, 0x00, 0x26, 0xb5, 0x00, 0x2b, 0x2a, 0xbb, 0x00, 0x2e, 0x59, 0xb7, 0x00, 0x30, 0xb5, 0x00, 0x31, 0xb1]
def cX6_init_r3 : List UInt8 := cX6_init_w3 ++ []
def cX6_init_w2 : List UInt8 := [0x59, 0xb7, 0x00, 0x1c, 0xb5, 0x00, 0x1d, 0x2a, 0xbb, 0x00, 0x1a, 0x59, 0xb7, 0x00, 0x1c, 0xb5, 0x00, 0x21, 0x2a, 0xbb, 0x00, 0x24, 0x59, 0xb7, 0x00, 0x26]
def cX6_init_r2 : List UInt8 := cX6_init_w2 ++ cX6_init_r3
def cX6_init_w1 : List UInt8 := [0xb7, 0x00, 0x0b, 0xb5, 0x00, 0x14, 0x2a, 0xbb, 0x00, 0x09, 0x59, 0x11, 0x01, 0xe0, 0xb7, 0x00, 0x0b, 0xb5, 0x00, 0x17, 0x2a, 0xbb, 0x00, 0x1a]
def cX6_init_r1 : List UInt8 := cX6_init_w1 ++ cX6_init_r2
def cX6_init_w0 : List UInt8 := [0x2a, 0xb7, 0x00, 0x03, 0x2a, 0xbb, 0x00, 0x09, 0x59, 0x11, 0x01, 0x2d, 0xb7, 0x00, 0x0b, 0xb5, 0x00, 0x0e, 0x2a, 0xbb, 0x00, 0x09, 0x59, 0x11, 0x01, 0xe0]
def cX6_init_r0 : List UInt8 := cX6_init_w0 ++ cX6_init_r1
theorem cX6_init_s0 : dw_S cX6_init 0 cX6_init_r0 := dw_S0 (by decide +kernel)
theorem cX6_init_s1 : dw_S cX6_init 26 cX6_init_r1 := dw_Sn (w := cX6_init_w0) (r := cX6_init_r1) cX6_init_s0 (by decide +kernel)
theorem cX6_init_k0 : dw_ok cX6_init (ByteArray.mk cX6_init_w0.toArray) 0 := dw_Sw (r := cX6_init_r1) cX6_init_s0
theorem cX6_init_s2 : dw_S cX6_init 50 cX6_init_r2 := dw_Sn (w := cX6_init_w1) (r := cX6_init_r2) cX6_init_s1 (by decide +kernel)
theorem cX6_init_k1 : dw_ok cX6_init (ByteArray.mk cX6_init_w1.toArray) 26 := dw_Sw (r := cX6_init_r2) cX6_init_s1
theorem cX6_init_s3 : dw_S cX6_init 76 cX6_init_r3 := dw_Sn (w := cX6_init_w2) (r := cX6_init_r3) cX6_init_s2 (by decide +kernel)
theorem cX6_init_k2 : dw_ok cX6_init (ByteArray.mk cX6_init_w2.toArray) 50 := dw_Sw (r := cX6_init_r3) cX6_init_s2
theorem cX6_init_k3 : dw_ok cX6_init (ByteArray.mk cX6_init_w3.toArray) 76 := dw_Sw (r := []) cX6_init_s3
def cX6_isPair_w1 : List UInt8 := [0x99, 0x00, 0x18, 0x2a, 0x05, 0x1b, 0x68, 0x04, 0x60, 0x05, 0x1c, 0x68, 0x04, 0x60, 0xb8, 0x00, 0x70, 0x99, 0x00, 0x07, 0x04, 0xa7, 0x00, 0x04, 0x03, 0xac]
def cX6_isPair_r1 : List UInt8 := cX6_isPair_w1 ++ []
def cX6_isPair_w0 : List UInt8 := [0x2a, 0xb4, 0x00, 0x7b, 0x1b, 0x2e, 0x2a, 0xb4, 0x00, 0x7b, 0x1c, 0x2e, 0x9f, 0x00, 0x25, 0x2a, 0x05, 0x1b, 0x68, 0x05, 0x1c, 0x68, 0xb8, 0x00, 0x70]
def cX6_isPair_r0 : List UInt8 := cX6_isPair_w0 ++ cX6_isPair_r1
theorem cX6_isPair_s0 : dw_S cX6_isPair 0 cX6_isPair_r0 := dw_S0 (by decide +kernel)
theorem cX6_isPair_s1 : dw_S cX6_isPair 25 cX6_isPair_r1 := dw_Sn (w := cX6_isPair_w0) (r := cX6_isPair_r1) cX6_isPair_s0 (by decide +kernel)
theorem cX6_isPair_k0 : dw_ok cX6_isPair (ByteArray.mk cX6_isPair_w0.toArray) 0 := dw_Sw (r := cX6_isPair_r1) cX6_isPair_s0
theorem cX6_isPair_k1 : dw_ok cX6_isPair (ByteArray.mk cX6_isPair_w1.toArray) 25 := dw_Sw (r := []) cX6_isPair_s1
def cX6_isPassable_w3 : List UInt8 := [0x1d, 0xb6, 0x00, 0xa6, 0x99, 0x00, 0x07, 0x04, 0xa7, 0x00, 0x04, 0x03, 0xac]
def cX6_isPassable_r3 : List UInt8 := cX6_isPassable_w3 ++ []
def cX6_isPassable_w2 : List UInt8 := [0x15, 0x04, 0x15, 0x06, 0x9f, 0x00, 0x1f, 0x2a, 0x1b, 0xb6, 0x00, 0xa6, 0x9a, 0x00, 0x13, 0x2a, 0x1c, 0xb6, 0x00, 0xa6, 0x9a, 0x00, 0x0b, 0x2a]
def cX6_isPassable_r2 : List UInt8 := cX6_isPassable_w2 ++ cX6_isPassable_r3
def cX6_isPassable_w1 : List UInt8 := [0x2a, 0xb4, 0x00, 0x1d, 0x1d, 0xb8, 0x00, 0xa3, 0x04, 0x7a, 0x36, 0x06, 0x15, 0x04, 0x15, 0x05, 0x9f, 0x00, 0x2d, 0x15, 0x05, 0x15, 0x06, 0x9f, 0x00, 0x26]
def cX6_isPassable_r1 : List UInt8 := cX6_isPassable_w1 ++ cX6_isPassable_r2
def cX6_isPassable_w0 : List UInt8 := [0x2a, 0xb4, 0x00, 0x1d, 0x1b, 0xb8, 0x00, 0xa3, 0x04, 0x7a, 0x36, 0x04, 0x2a, 0xb4, 0x00, 0x1d, 0x1c, 0xb8, 0x00, 0xa3, 0x04, 0x7a, 0x36, 0x05]
def cX6_isPassable_r0 : List UInt8 := cX6_isPassable_w0 ++ cX6_isPassable_r1
theorem cX6_isPassable_s0 : dw_S cX6_isPassable 0 cX6_isPassable_r0 := dw_S0 (by decide +kernel)
theorem cX6_isPassable_s1 : dw_S cX6_isPassable 24 cX6_isPassable_r1 := dw_Sn (w := cX6_isPassable_w0) (r := cX6_isPassable_r1) cX6_isPassable_s0 (by decide +kernel)
theorem cX6_isPassable_k0 : dw_ok cX6_isPassable (ByteArray.mk cX6_isPassable_w0.toArray) 0 := dw_Sw (r := cX6_isPassable_r1) cX6_isPassable_s0
theorem cX6_isPassable_s2 : dw_S cX6_isPassable 50 cX6_isPassable_r2 := dw_Sn (w := cX6_isPassable_w1) (r := cX6_isPassable_r2) cX6_isPassable_s1 (by decide +kernel)
theorem cX6_isPassable_k1 : dw_ok cX6_isPassable (ByteArray.mk cX6_isPassable_w1.toArray) 24 := dw_Sw (r := cX6_isPassable_r2) cX6_isPassable_s1
theorem cX6_isPassable_s3 : dw_S cX6_isPassable 74 cX6_isPassable_r3 := dw_Sn (w := cX6_isPassable_w2) (r := cX6_isPassable_r3) cX6_isPassable_s2 (by decide +kernel)
theorem cX6_isPassable_k2 : dw_ok cX6_isPassable (ByteArray.mk cX6_isPassable_w2.toArray) 50 := dw_Sw (r := cX6_isPassable_r3) cX6_isPassable_s2
theorem cX6_isPassable_k3 : dw_ok cX6_isPassable (ByteArray.mk cX6_isPassable_w3.toArray) 74 := dw_Sw (r := []) cX6_isPassable_s3
def cX6_make_w4 : List UInt8 := [0x7a, 0x1d, 0x6c, 0x1c, 0x05, 0x7a, 0x1d, 0x70, 0x1c, 0x06, 0x7e, 0xb6, 0x00, 0x5f, 0xac, 0x2a, 0x1c, 0xb6, 0x00, 0x63, 0xac]
def cX6_make_r4 : List UInt8 := cX6_make_w4 ++ []
def cX6_make_w3 : List UInt8 := [0x99, 0x00, 0x07, 0x04, 0xa7, 0x00, 0x04, 0x03, 0xac, 0x05, 0x2a, 0xb4, 0x00, 0x1d, 0xb4, 0x00, 0x51, 0x68, 0x05, 0x60, 0x3e, 0x2a, 0x1c, 0x05]
def cX6_make_r3 : List UInt8 := cX6_make_w3 ++ cX6_make_r4
def cX6_make_w2 : List UInt8 := [0x9e, 0x00, 0x20, 0x2a, 0x1c, 0x2a, 0xb4, 0x00, 0x1d, 0xb4, 0x00, 0x51, 0x6c, 0x1c, 0x2a, 0xb4, 0x00, 0x1d, 0xb4, 0x00, 0x51, 0x70, 0xb6, 0x00, 0x5c]
def cX6_make_r2 : List UInt8 := cX6_make_w2 ++ cX6_make_r3
def cX6_make_w1 : List UInt8 := [0x2a, 0x1c, 0xb6, 0x00, 0x55, 0xac, 0x2a, 0x1c, 0x05, 0x7a, 0x1c, 0x06, 0x7e, 0xb6, 0x00, 0x59, 0xac, 0x2a, 0xb4, 0x00, 0x1d, 0xb4, 0x00, 0x51]
def cX6_make_r1 : List UInt8 := cX6_make_w1 ++ cX6_make_r2
def cX6_make_w0 : List UInt8 := [0x1b, 0xaa, 0x00, 0x00, 0x00, 0x00, 0x00, 0x77, 0x00, 0x00, 0x00, 0x00, 0x00, 0x00, 0x00, 0x03, 0x00, 0x00, 0x00, 0x1f, 0x00, 0x00, 0x00, 0x25, 0x00, 0x00, 0x00, 0x30, 0x00, 0x00, 0x00, 0x59]
def cX6_make_r0 : List UInt8 := cX6_make_w0 ++ cX6_make_r1
theorem cX6_make_s0 : dw_S cX6_make 0 cX6_make_r0 := dw_S0 (by decide +kernel)
theorem cX6_make_s1 : dw_S cX6_make 32 cX6_make_r1 := dw_Sn (w := cX6_make_w0) (r := cX6_make_r1) cX6_make_s0 (by decide +kernel)
theorem cX6_make_k0 : dw_ok cX6_make (ByteArray.mk cX6_make_w0.toArray) 0 := dw_Sw (r := cX6_make_r1) cX6_make_s0
theorem cX6_make_s2 : dw_S cX6_make 56 cX6_make_r2 := dw_Sn (w := cX6_make_w1) (r := cX6_make_r2) cX6_make_s1 (by decide +kernel)
theorem cX6_make_k1 : dw_ok cX6_make (ByteArray.mk cX6_make_w1.toArray) 32 := dw_Sw (r := cX6_make_r2) cX6_make_s1
theorem cX6_make_s3 : dw_S cX6_make 81 cX6_make_r3 := dw_Sn (w := cX6_make_w2) (r := cX6_make_r3) cX6_make_s2 (by decide +kernel)
theorem cX6_make_k2 : dw_ok cX6_make (ByteArray.mk cX6_make_w2.toArray) 56 := dw_Sw (r := cX6_make_r3) cX6_make_s2
theorem cX6_make_s4 : dw_S cX6_make 105 cX6_make_r4 := dw_Sn (w := cX6_make_w3) (r := cX6_make_r4) cX6_make_s3 (by decide +kernel)
theorem cX6_make_k3 : dw_ok cX6_make (ByteArray.mk cX6_make_w3.toArray) 81 := dw_Sw (r := cX6_make_r4) cX6_make_s3
theorem cX6_make_k4 : dw_ok cX6_make (ByteArray.mk cX6_make_w4.toArray) 105 := dw_Sw (r := []) cX6_make_s4
def cX6_mayMeet_w4 : List UInt8 := [0x15, 0x06, 0xa0, 0x00, 0x07, 0x04, 0xa7, 0x00, 0x04, 0x03, 0xac]
def cX6_mayMeet_r4 : List UInt8 := cX6_mayMeet_w4 ++ []
def cX6_mayMeet_w3 : List UInt8 := [0x2e, 0xa0, 0x00, 0x1d, 0x1d, 0x15, 0x05, 0x9f, 0x00, 0x17, 0x1d, 0x15, 0x06, 0x9f, 0x00, 0x11, 0x15, 0x04, 0x15, 0x05, 0x9f, 0x00, 0x0a, 0x15, 0x04]
def cX6_mayMeet_r3 : List UInt8 := cX6_mayMeet_w3 ++ cX6_mayMeet_r4
def cX6_mayMeet_w2 : List UInt8 := [0x1c, 0x68, 0x04, 0x60, 0x2e, 0x36, 0x06, 0x2a, 0xb4, 0x00, 0x1d, 0xb4, 0x00, 0x96, 0x1b, 0x2e, 0x2a, 0xb4, 0x00, 0x1d, 0xb4, 0x00, 0x96, 0x1c]
def cX6_mayMeet_r2 : List UInt8 := cX6_mayMeet_w2 ++ cX6_mayMeet_r3
def cX6_mayMeet_w1 : List UInt8 := [0x2e, 0x36, 0x04, 0x2a, 0xb4, 0x00, 0x27, 0xb4, 0x00, 0x93, 0x05, 0x1c, 0x68, 0x2e, 0x36, 0x05, 0x2a, 0xb4, 0x00, 0x27, 0xb4, 0x00, 0x93, 0x05]
def cX6_mayMeet_r1 : List UInt8 := cX6_mayMeet_w1 ++ cX6_mayMeet_r2
def cX6_mayMeet_w0 : List UInt8 := [0x2a, 0xb4, 0x00, 0x27, 0xb4, 0x00, 0x93, 0x05, 0x1b, 0x68, 0x2e, 0x3e, 0x2a, 0xb4, 0x00, 0x27, 0xb4, 0x00, 0x93, 0x05, 0x1b, 0x68, 0x04, 0x60]
def cX6_mayMeet_r0 : List UInt8 := cX6_mayMeet_w0 ++ cX6_mayMeet_r1
theorem cX6_mayMeet_s0 : dw_S cX6_mayMeet 0 cX6_mayMeet_r0 := dw_S0 (by decide +kernel)
theorem cX6_mayMeet_s1 : dw_S cX6_mayMeet 24 cX6_mayMeet_r1 := dw_Sn (w := cX6_mayMeet_w0) (r := cX6_mayMeet_r1) cX6_mayMeet_s0 (by decide +kernel)
theorem cX6_mayMeet_k0 : dw_ok cX6_mayMeet (ByteArray.mk cX6_mayMeet_w0.toArray) 0 := dw_Sw (r := cX6_mayMeet_r1) cX6_mayMeet_s0
theorem cX6_mayMeet_s2 : dw_S cX6_mayMeet 48 cX6_mayMeet_r2 := dw_Sn (w := cX6_mayMeet_w1) (r := cX6_mayMeet_r2) cX6_mayMeet_s1 (by decide +kernel)
theorem cX6_mayMeet_k1 : dw_ok cX6_mayMeet (ByteArray.mk cX6_mayMeet_w1.toArray) 24 := dw_Sw (r := cX6_mayMeet_r2) cX6_mayMeet_s1
theorem cX6_mayMeet_s3 : dw_S cX6_mayMeet 72 cX6_mayMeet_r3 := dw_Sn (w := cX6_mayMeet_w2) (r := cX6_mayMeet_r3) cX6_mayMeet_s2 (by decide +kernel)
theorem cX6_mayMeet_k2 : dw_ok cX6_mayMeet (ByteArray.mk cX6_mayMeet_w2.toArray) 48 := dw_Sw (r := cX6_mayMeet_r3) cX6_mayMeet_s2
theorem cX6_mayMeet_s4 : dw_S cX6_mayMeet 97 cX6_mayMeet_r4 := dw_Sn (w := cX6_mayMeet_w3) (r := cX6_mayMeet_r4) cX6_mayMeet_s3 (by decide +kernel)
theorem cX6_mayMeet_k3 : dw_ok cX6_mayMeet (ByteArray.mk cX6_mayMeet_w3.toArray) 72 := dw_Sw (r := cX6_mayMeet_r4) cX6_mayMeet_s3
theorem cX6_mayMeet_k4 : dw_ok cX6_mayMeet (ByteArray.mk cX6_mayMeet_w4.toArray) 97 := dw_Sw (r := []) cX6_mayMeet_s4
def cX6_oneComes_w3 : List UInt8 := [0x02, 0x4f, 0x1d, 0x1c, 0x04, 0x7e, 0x60, 0x36, 0x04, 0x2a, 0x1b, 0x1d, 0xa0, 0x00, 0x07, 0x02, 0xa7, 0x00, 0x04, 0x1b, 0x15, 0x04, 0x15, 0x04, 0x04, 0x82, 0xb6, 0x00, 0x7e, 0x04, 0xac]
def cX6_oneComes_r3 : List UInt8 := cX6_oneComes_w3 ++ []
def cX6_oneComes_w2 : List UInt8 := [0x2a, 0xb4, 0x00, 0x21, 0xb4, 0x00, 0x7b, 0x2a, 0xb4, 0x00, 0x1d, 0xb4, 0x00, 0x51, 0x1c, 0x05, 0x7e, 0x9a, 0x00, 0x07, 0x04, 0xa7, 0x00, 0x04]
def cX6_oneComes_r2 : List UInt8 := cX6_oneComes_w2 ++ cX6_oneComes_r3
def cX6_oneComes_w1 : List UInt8 := [0x03, 0xac, 0x2a, 0xb4, 0x00, 0x21, 0x2a, 0xb4, 0x00, 0x1d, 0xb6, 0x00, 0x6a, 0x2a, 0xb4, 0x00, 0x21, 0x59, 0xb4, 0x00, 0x51, 0x04, 0x60, 0xb5, 0x00, 0x51]
def cX6_oneComes_r1 : List UInt8 := cX6_oneComes_w1 ++ cX6_oneComes_r2
def cX6_oneComes_w0 : List UInt8 := [0x05, 0x2a, 0xb4, 0x00, 0x1d, 0xb4, 0x00, 0x51, 0x68, 0x3e, 0x1b, 0x1d, 0xa0, 0x00, 0x0f, 0x2a, 0xb4, 0x00, 0x1d, 0xb4, 0x00, 0x78, 0x9a, 0x00, 0x05]
def cX6_oneComes_r0 : List UInt8 := cX6_oneComes_w0 ++ cX6_oneComes_r1
theorem cX6_oneComes_s0 : dw_S cX6_oneComes 0 cX6_oneComes_r0 := dw_S0 (by decide +kernel)
theorem cX6_oneComes_s1 : dw_S cX6_oneComes 25 cX6_oneComes_r1 := dw_Sn (w := cX6_oneComes_w0) (r := cX6_oneComes_r1) cX6_oneComes_s0 (by decide +kernel)
theorem cX6_oneComes_k0 : dw_ok cX6_oneComes (ByteArray.mk cX6_oneComes_w0.toArray) 0 := dw_Sw (r := cX6_oneComes_r1) cX6_oneComes_s0
theorem cX6_oneComes_s2 : dw_S cX6_oneComes 51 cX6_oneComes_r2 := dw_Sn (w := cX6_oneComes_w1) (r := cX6_oneComes_r2) cX6_oneComes_s1 (by decide +kernel)
theorem cX6_oneComes_k1 : dw_ok cX6_oneComes (ByteArray.mk cX6_oneComes_w1.toArray) 25 := dw_Sw (r := cX6_oneComes_r2) cX6_oneComes_s1
theorem cX6_oneComes_s3 : dw_S cX6_oneComes 75 cX6_oneComes_r3 := dw_Sn (w := cX6_oneComes_w2) (r := cX6_oneComes_r3) cX6_oneComes_s2 (by decide +kernel)
theorem cX6_oneComes_k2 : dw_ok cX6_oneComes (ByteArray.mk cX6_oneComes_w2.toArray) 51 := dw_Sw (r := cX6_oneComes_r3) cX6_oneComes_s2
theorem cX6_oneComes_k3 : dw_ok cX6_oneComes (ByteArray.mk cX6_oneComes_w3.toArray) 75 := dw_Sw (r := []) cX6_oneComes_s3
def cX6_reach_w3 : List UInt8 := [0x2a, 0xb4, 0x00, 0x0e, 0x1d, 0x07, 0x2a, 0xb4, 0x00, 0x0e, 0xb6, 0x00, 0xac, 0x84, 0x03, 0x01, 0xa7, 0xff, 0xbb, 0xb1]
def cX6_reach_r3 : List UInt8 := cX6_reach_w3 ++ []
def cX6_reach_w2 : List UInt8 := [0x1d, 0x03, 0x2a, 0xb4, 0x00, 0x0e, 0xb6, 0x00, 0xac, 0x2a, 0x2a, 0xb4, 0x00, 0x0e, 0x1d, 0x05, 0x2a, 0xb4, 0x00, 0x0e, 0xb6, 0x00, 0xac, 0x2a]
def cX6_reach_r2 : List UInt8 := cX6_reach_w2 ++ cX6_reach_r3
def cX6_reach_w1 : List UInt8 := [0xb4, 0x00, 0xa9, 0xa2, 0x00, 0x40, 0x2a, 0xb4, 0x00, 0x0e, 0xb4, 0x00, 0xa9, 0x11, 0x01, 0x2c, 0xa3, 0x00, 0x33, 0x2a, 0x2a, 0xb4, 0x00, 0x0e]
def cX6_reach_r1 : List UInt8 := cX6_reach_w1 ++ cX6_reach_r2
def cX6_reach_w0 : List UInt8 := [0x2a, 0xb4, 0x00, 0x0e, 0x03, 0xb5, 0x00, 0xa9, 0x2a, 0xb4, 0x00, 0x0e, 0x2b, 0x1c, 0xb6, 0x00, 0x4e, 0x03, 0x3e, 0x1d, 0x2a, 0xb4, 0x00, 0x0e]
def cX6_reach_r0 : List UInt8 := cX6_reach_w0 ++ cX6_reach_r1
theorem cX6_reach_s0 : dw_S cX6_reach 0 cX6_reach_r0 := dw_S0 (by decide +kernel)
theorem cX6_reach_s1 : dw_S cX6_reach 24 cX6_reach_r1 := dw_Sn (w := cX6_reach_w0) (r := cX6_reach_r1) cX6_reach_s0 (by decide +kernel)
theorem cX6_reach_k0 : dw_ok cX6_reach (ByteArray.mk cX6_reach_w0.toArray) 0 := dw_Sw (r := cX6_reach_r1) cX6_reach_s0
theorem cX6_reach_s2 : dw_S cX6_reach 48 cX6_reach_r2 := dw_Sn (w := cX6_reach_w1) (r := cX6_reach_r2) cX6_reach_s1 (by decide +kernel)
theorem cX6_reach_k1 : dw_ok cX6_reach (ByteArray.mk cX6_reach_w1.toArray) 24 := dw_Sw (r := cX6_reach_r2) cX6_reach_s1
theorem cX6_reach_s3 : dw_S cX6_reach 72 cX6_reach_r3 := dw_Sn (w := cX6_reach_w2) (r := cX6_reach_r3) cX6_reach_s2 (by decide +kernel)
theorem cX6_reach_k2 : dw_ok cX6_reach (ByteArray.mk cX6_reach_w2.toArray) 48 := dw_Sw (r := cX6_reach_r3) cX6_reach_s2
theorem cX6_reach_k3 : dw_ok cX6_reach (ByteArray.mk cX6_reach_w3.toArray) 72 := dw_Sw (r := []) cX6_reach_s3
def cX6_threePass_w4 : List UInt8 := [0x1c, 0x04, 0x7a, 0x2e, 0xb6, 0x00, 0xa0, 0x2a, 0xb4, 0x00, 0x21, 0x1d, 0x04, 0x7a, 0x2a, 0xb4, 0x00, 0x1d, 0xb4, 0x00, 0x74, 0x1d, 0x04, 0x7a, 0x2e, 0xb6, 0x00, 0xa0, 0x04, 0xac]
def cX6_threePass_r4 : List UInt8 := cX6_threePass_w4 ++ []
def cX6_threePass_w3 : List UInt8 := [0xb4, 0x00, 0x74, 0x1b, 0x04, 0x7a, 0x2e, 0xb6, 0x00, 0xa0, 0x2a, 0xb4, 0x00, 0x21, 0x1c, 0x04, 0x7a, 0x2a, 0xb4, 0x00, 0x1d, 0xb4, 0x00, 0x74]
def cX6_threePass_r3 : List UInt8 := cX6_threePass_w3 ++ cX6_threePass_r4
def cX6_threePass_w2 : List UInt8 := [0x03, 0xac, 0x2a, 0xb4, 0x00, 0x21, 0x2a, 0xb4, 0x00, 0x1d, 0xb6, 0x00, 0x6a, 0x2a, 0xb4, 0x00, 0x21, 0x1b, 0x04, 0x7a, 0x2a, 0xb4, 0x00, 0x1d]
def cX6_threePass_r2 : List UInt8 := cX6_threePass_w2 ++ cX6_threePass_r3
def cX6_threePass_w1 : List UInt8 := [0x1d, 0xa2, 0x00, 0x19, 0x2a, 0xb4, 0x00, 0x1d, 0x1d, 0xb8, 0x00, 0x99, 0x1b, 0xa0, 0x00, 0x0d, 0x2a, 0x1b, 0x1c, 0x1d, 0xb6, 0x00, 0x9d, 0x9a, 0x00, 0x05]
def cX6_threePass_r1 : List UInt8 := cX6_threePass_w1 ++ cX6_threePass_r2
def cX6_threePass_w0 : List UInt8 := [0x2a, 0xb4, 0x00, 0x1d, 0x1b, 0xb8, 0x00, 0x99, 0x3d, 0x2a, 0xb4, 0x00, 0x1d, 0x1c, 0xb8, 0x00, 0x99, 0x3e, 0x1b, 0x1c, 0xa2, 0x00, 0x1e, 0x1b]
def cX6_threePass_r0 : List UInt8 := cX6_threePass_w0 ++ cX6_threePass_r1
theorem cX6_threePass_s0 : dw_S cX6_threePass 0 cX6_threePass_r0 := dw_S0 (by decide +kernel)
theorem cX6_threePass_s1 : dw_S cX6_threePass 24 cX6_threePass_r1 := dw_Sn (w := cX6_threePass_w0) (r := cX6_threePass_r1) cX6_threePass_s0 (by decide +kernel)
theorem cX6_threePass_k0 : dw_ok cX6_threePass (ByteArray.mk cX6_threePass_w0.toArray) 0 := dw_Sw (r := cX6_threePass_r1) cX6_threePass_s0
theorem cX6_threePass_s2 : dw_S cX6_threePass 50 cX6_threePass_r2 := dw_Sn (w := cX6_threePass_w1) (r := cX6_threePass_r2) cX6_threePass_s1 (by decide +kernel)
theorem cX6_threePass_k1 : dw_ok cX6_threePass (ByteArray.mk cX6_threePass_w1.toArray) 24 := dw_Sw (r := cX6_threePass_r2) cX6_threePass_s1
theorem cX6_threePass_s3 : dw_S cX6_threePass 74 cX6_threePass_r3 := dw_Sn (w := cX6_threePass_w2) (r := cX6_threePass_r3) cX6_threePass_s2 (by decide +kernel)
theorem cX6_threePass_k2 : dw_ok cX6_threePass (ByteArray.mk cX6_threePass_w2.toArray) 50 := dw_Sw (r := cX6_threePass_r3) cX6_threePass_s2
theorem cX6_threePass_s4 : dw_S cX6_threePass 98 cX6_threePass_r4 := dw_Sn (w := cX6_threePass_w3) (r := cX6_threePass_r4) cX6_threePass_s3 (by decide +kernel)
theorem cX6_threePass_k3 : dw_ok cX6_threePass (ByteArray.mk cX6_threePass_w3.toArray) 74 := dw_Sw (r := cX6_threePass_r4) cX6_threePass_s3
theorem cX6_threePass_k4 : dw_ok cX6_threePass (ByteArray.mk cX6_threePass_w4.toArray) 98 := dw_Sw (r := []) cX6_threePass_s4
def cX6_twoCome_w10 : List UInt8 := [0x04, 0x60, 0xb6, 0x00, 0x7e, 0x2a, 0xb4, 0x00, 0x2b, 0x2a, 0xb4, 0x00, 0x21, 0xb6, 0x00, 0x8f, 0xac]
def cX6_twoCome_r10 : List UInt8 := cX6_twoCome_w10 ++ []
def cX6_twoCome_w9 : List UInt8 := [0x15, 0x04, 0x04, 0x60, 0xa7, 0x00, 0x07, 0x15, 0x05, 0x04, 0x60, 0x15, 0x07, 0x99, 0x00, 0x0a, 0x15, 0x05, 0x04, 0x60, 0xa7, 0x00, 0x07, 0x15, 0x04]
def cX6_twoCome_r9 : List UInt8 := cX6_twoCome_w9 ++ cX6_twoCome_r10
def cX6_twoCome_w8 : List UInt8 := [0x1c, 0xa7, 0x00, 0x0f, 0x1c, 0x15, 0x04, 0xa0, 0x00, 0x08, 0x15, 0x05, 0xa7, 0x00, 0x04, 0x02, 0x36, 0x08, 0x2a, 0x15, 0x08, 0x15, 0x07, 0x99, 0x00, 0x0a]
def cX6_twoCome_r8 : List UInt8 := cX6_twoCome_w8 ++ cX6_twoCome_r9
def cX6_twoCome_w7 : List UInt8 := [0x15, 0x05, 0xb6, 0x00, 0x7e, 0x1d, 0x05, 0x7e, 0x9a, 0x00, 0x07, 0x04, 0xa7, 0x00, 0x04, 0x03, 0x36, 0x07, 0x1c, 0x15, 0x04, 0xa2, 0x00, 0x07]
def cX6_twoCome_r7 : List UInt8 := cX6_twoCome_w7 ++ cX6_twoCome_r8
def cX6_twoCome_w6 : List UInt8 := [0x7e, 0x9a, 0x00, 0x07, 0x02, 0xa7, 0x00, 0x04, 0x04, 0x4f, 0x2a, 0x1b, 0x15, 0x04, 0xa0, 0x00, 0x07, 0x02, 0xa7, 0x00, 0x04, 0x1b, 0x15, 0x04]
def cX6_twoCome_r6 : List UInt8 := cX6_twoCome_w6 ++ cX6_twoCome_r7
def cX6_twoCome_w5 : List UInt8 := [0x04, 0xa7, 0x00, 0x04, 0x02, 0x4f, 0x2a, 0xb4, 0x00, 0x21, 0xb4, 0x00, 0x7b, 0x2a, 0xb4, 0x00, 0x1d, 0xb4, 0x00, 0x51, 0x04, 0x60, 0x1d, 0x04]
def cX6_twoCome_r5 : List UInt8 := cX6_twoCome_w5 ++ cX6_twoCome_r6
def cX6_twoCome_w4 : List UInt8 := [0x05, 0x60, 0xb5, 0x00, 0x51, 0x2a, 0xb4, 0x00, 0x21, 0xb4, 0x00, 0x7b, 0x2a, 0xb4, 0x00, 0x1d, 0xb4, 0x00, 0x51, 0x1d, 0x04, 0x7e, 0x9a, 0x00, 0x07]
def cX6_twoCome_r4 : List UInt8 := cX6_twoCome_w4 ++ cX6_twoCome_r5
def cX6_twoCome_w3 : List UInt8 := [0x9a, 0x00, 0x05, 0x03, 0xac, 0x2a, 0xb4, 0x00, 0x21, 0x2a, 0xb4, 0x00, 0x1d, 0xb6, 0x00, 0x6a, 0x2a, 0xb4, 0x00, 0x21, 0x59, 0xb4, 0x00, 0x51]
def cX6_twoCome_r3 : List UInt8 := cX6_twoCome_w3 ++ cX6_twoCome_r4
def cX6_twoCome_w2 : List UInt8 := [0xb4, 0x00, 0x78, 0xa3, 0x00, 0x18, 0x1b, 0x15, 0x04, 0xa2, 0x00, 0x14, 0x1c, 0x15, 0x04, 0xa2, 0x00, 0x0e, 0x2a, 0x1b, 0x1c, 0xb6, 0x00, 0x8c]
def cX6_twoCome_r2 : List UInt8 := cX6_twoCome_w2 ++ cX6_twoCome_r3
def cX6_twoCome_w1 : List UInt8 := [0xa7, 0x00, 0x04, 0x03, 0x1c, 0x15, 0x04, 0x04, 0x60, 0xa0, 0x00, 0x07, 0x04, 0xa7, 0x00, 0x04, 0x03, 0x60, 0x36, 0x06, 0x15, 0x06, 0x2a, 0xb4, 0x00, 0x1d]
def cX6_twoCome_r1 : List UInt8 := cX6_twoCome_w1 ++ cX6_twoCome_r2
def cX6_twoCome_w0 : List UInt8 := [0x05, 0x2a, 0xb4, 0x00, 0x1d, 0xb4, 0x00, 0x51, 0x68, 0x36, 0x04, 0x15, 0x04, 0x05, 0x60, 0x36, 0x05, 0x1b, 0x15, 0x04, 0xa0, 0x00, 0x07, 0x04]
def cX6_twoCome_r0 : List UInt8 := cX6_twoCome_w0 ++ cX6_twoCome_r1
theorem cX6_twoCome_s0 : dw_S cX6_twoCome 0 cX6_twoCome_r0 := dw_S0 (by decide +kernel)
theorem cX6_twoCome_s1 : dw_S cX6_twoCome 24 cX6_twoCome_r1 := dw_Sn (w := cX6_twoCome_w0) (r := cX6_twoCome_r1) cX6_twoCome_s0 (by decide +kernel)
theorem cX6_twoCome_k0 : dw_ok cX6_twoCome (ByteArray.mk cX6_twoCome_w0.toArray) 0 := dw_Sw (r := cX6_twoCome_r1) cX6_twoCome_s0
theorem cX6_twoCome_s2 : dw_S cX6_twoCome 50 cX6_twoCome_r2 := dw_Sn (w := cX6_twoCome_w1) (r := cX6_twoCome_r2) cX6_twoCome_s1 (by decide +kernel)
theorem cX6_twoCome_k1 : dw_ok cX6_twoCome (ByteArray.mk cX6_twoCome_w1.toArray) 24 := dw_Sw (r := cX6_twoCome_r2) cX6_twoCome_s1
theorem cX6_twoCome_s3 : dw_S cX6_twoCome 74 cX6_twoCome_r3 := dw_Sn (w := cX6_twoCome_w2) (r := cX6_twoCome_r3) cX6_twoCome_s2 (by decide +kernel)
theorem cX6_twoCome_k2 : dw_ok cX6_twoCome (ByteArray.mk cX6_twoCome_w2.toArray) 50 := dw_Sw (r := cX6_twoCome_r3) cX6_twoCome_s2
theorem cX6_twoCome_s4 : dw_S cX6_twoCome 98 cX6_twoCome_r4 := dw_Sn (w := cX6_twoCome_w3) (r := cX6_twoCome_r4) cX6_twoCome_s3 (by decide +kernel)
theorem cX6_twoCome_k3 : dw_ok cX6_twoCome (ByteArray.mk cX6_twoCome_w3.toArray) 74 := dw_Sw (r := cX6_twoCome_r4) cX6_twoCome_s3
theorem cX6_twoCome_s5 : dw_S cX6_twoCome 123 cX6_twoCome_r5 := dw_Sn (w := cX6_twoCome_w4) (r := cX6_twoCome_r5) cX6_twoCome_s4 (by decide +kernel)
theorem cX6_twoCome_k4 : dw_ok cX6_twoCome (ByteArray.mk cX6_twoCome_w4.toArray) 98 := dw_Sw (r := cX6_twoCome_r5) cX6_twoCome_s4
theorem cX6_twoCome_s6 : dw_S cX6_twoCome 147 cX6_twoCome_r6 := dw_Sn (w := cX6_twoCome_w5) (r := cX6_twoCome_r6) cX6_twoCome_s5 (by decide +kernel)
theorem cX6_twoCome_k5 : dw_ok cX6_twoCome (ByteArray.mk cX6_twoCome_w5.toArray) 123 := dw_Sw (r := cX6_twoCome_r6) cX6_twoCome_s5
theorem cX6_twoCome_s7 : dw_S cX6_twoCome 171 cX6_twoCome_r7 := dw_Sn (w := cX6_twoCome_w6) (r := cX6_twoCome_r7) cX6_twoCome_s6 (by decide +kernel)
theorem cX6_twoCome_k6 : dw_ok cX6_twoCome (ByteArray.mk cX6_twoCome_w6.toArray) 147 := dw_Sw (r := cX6_twoCome_r7) cX6_twoCome_s6
theorem cX6_twoCome_s8 : dw_S cX6_twoCome 195 cX6_twoCome_r8 := dw_Sn (w := cX6_twoCome_w7) (r := cX6_twoCome_r8) cX6_twoCome_s7 (by decide +kernel)
theorem cX6_twoCome_k7 : dw_ok cX6_twoCome (ByteArray.mk cX6_twoCome_w7.toArray) 171 := dw_Sw (r := cX6_twoCome_r8) cX6_twoCome_s7
theorem cX6_twoCome_s9 : dw_S cX6_twoCome 221 cX6_twoCome_r9 := dw_Sn (w := cX6_twoCome_w8) (r := cX6_twoCome_r9) cX6_twoCome_s8 (by decide +kernel)
theorem cX6_twoCome_k8 : dw_ok cX6_twoCome (ByteArray.mk cX6_twoCome_w8.toArray) 195 := dw_Sw (r := cX6_twoCome_r9) cX6_twoCome_s8
theorem cX6_twoCome_s10 : dw_S cX6_twoCome 246 cX6_twoCome_r10 := dw_Sn (w := cX6_twoCome_w9) (r := cX6_twoCome_r10) cX6_twoCome_s9 (by decide +kernel)
theorem cX6_twoCome_k9 : dw_ok cX6_twoCome (ByteArray.mk cX6_twoCome_w9.toArray) 221 := dw_Sw (r := cX6_twoCome_r10) cX6_twoCome_s9
theorem cX6_twoCome_k10 : dw_ok cX6_twoCome (ByteArray.mk cX6_twoCome_w10.toArray) 246 := dw_Sw (r := []) cX6_twoCome_s10
def cX6_twoGo_w1 : List UInt8 := [0xb4, 0x00, 0x1d, 0xb6, 0x00, 0x6a, 0x2a, 0xb4, 0x00, 0x21, 0x1b, 0xb6, 0x00, 0x6d, 0x2a, 0xb4, 0x00, 0x21, 0x1c, 0xb6, 0x00, 0x6d, 0x04, 0xac]
def cX6_twoGo_r1 : List UInt8 := cX6_twoGo_w1 ++ []
def cX6_twoGo_w0 : List UInt8 := [0x1c, 0x1b, 0xa2, 0x00, 0x0f, 0x2a, 0xb4, 0x00, 0x1d, 0x1b, 0x1c, 0xb8, 0x00, 0x89, 0x9a, 0x00, 0x05, 0x03, 0xac, 0x2a, 0xb4, 0x00, 0x21, 0x2a]
def cX6_twoGo_r0 : List UInt8 := cX6_twoGo_w0 ++ cX6_twoGo_r1
theorem cX6_twoGo_s0 : dw_S cX6_twoGo 0 cX6_twoGo_r0 := dw_S0 (by decide +kernel)
theorem cX6_twoGo_s1 : dw_S cX6_twoGo 24 cX6_twoGo_r1 := dw_Sn (w := cX6_twoGo_w0) (r := cX6_twoGo_r1) cX6_twoGo_s0 (by decide +kernel)
theorem cX6_twoGo_k0 : dw_ok cX6_twoGo (ByteArray.mk cX6_twoGo_w0.toArray) 0 := dw_Sw (r := cX6_twoGo_r1) cX6_twoGo_s0
theorem cX6_twoGo_k1 : dw_ok cX6_twoGo (ByteArray.mk cX6_twoGo_w1.toArray) 24 := dw_Sw (r := []) cX6_twoGo_s1
def cX7_append_w3 : List UInt8 := [0xb8, 0x00, 0x3a, 0x2a, 0x59, 0xb4, 0x00, 0x27, 0x2b, 0xb4, 0x00, 0x27, 0x60, 0xb5, 0x00, 0x27, 0x2a, 0x59, 0xb4, 0x00, 0x2a, 0x2b, 0xb4, 0x00, 0x2a, 0x60, 0xb5, 0x00, 0x2a, 0xb1]
def cX7_append_r3 : List UInt8 := cX7_append_w3 ++ []
def cX7_append_w2 : List UInt8 := [0x2e, 0x60, 0x4f, 0x84, 0x03, 0x01, 0xa7, 0xff, 0xd3, 0x2b, 0xb4, 0x00, 0x12, 0x03, 0x2a, 0xb4, 0x00, 0x12, 0x2a, 0xb4, 0x00, 0x27, 0x2b, 0xb4, 0x00, 0x27]
def cX7_append_r2 : List UInt8 := cX7_append_w2 ++ cX7_append_r3
def cX7_append_w1 : List UInt8 := [0x1d, 0x60, 0x1c, 0x2b, 0xb4, 0x00, 0x09, 0x1d, 0x2e, 0x60, 0x4f, 0x2a, 0xb4, 0x00, 0x0f, 0x1c, 0x1d, 0x60, 0x1c, 0x2b, 0xb4, 0x00, 0x0f, 0x1d]
def cX7_append_r1 : List UInt8 := cX7_append_w1 ++ cX7_append_r2
def cX7_append_w0 : List UInt8 := [0x05, 0x2a, 0xb4, 0x00, 0x27, 0x68, 0x3d, 0x03, 0x3e, 0x1d, 0x05, 0x2b, 0xb4, 0x00, 0x27, 0x68, 0xa2, 0x00, 0x29, 0x2a, 0xb4, 0x00, 0x09, 0x1c]
def cX7_append_r0 : List UInt8 := cX7_append_w0 ++ cX7_append_r1
theorem cX7_append_s0 : dw_S cX7_append 0 cX7_append_r0 := dw_S0 (by decide +kernel)
theorem cX7_append_s1 : dw_S cX7_append 24 cX7_append_r1 := dw_Sn (w := cX7_append_w0) (r := cX7_append_r1) cX7_append_s0 (by decide +kernel)
theorem cX7_append_k0 : dw_ok cX7_append (ByteArray.mk cX7_append_w0.toArray) 0 := dw_Sw (r := cX7_append_r1) cX7_append_s0
theorem cX7_append_s2 : dw_S cX7_append 48 cX7_append_r2 := dw_Sn (w := cX7_append_w1) (r := cX7_append_r2) cX7_append_s1 (by decide +kernel)
theorem cX7_append_k1 : dw_ok cX7_append (ByteArray.mk cX7_append_w1.toArray) 24 := dw_Sw (r := cX7_append_r2) cX7_append_s1
theorem cX7_append_s3 : dw_S cX7_append 74 cX7_append_r3 := dw_Sn (w := cX7_append_w2) (r := cX7_append_r3) cX7_append_s2 (by decide +kernel)
theorem cX7_append_k2 : dw_ok cX7_append (ByteArray.mk cX7_append_w2.toArray) 48 := dw_Sw (r := cX7_append_r3) cX7_append_s2
theorem cX7_append_k3 : dw_ok cX7_append (ByteArray.mk cX7_append_w3.toArray) 74 := dw_Sw (r := []) cX7_append_s3
def cX7_close_w8 : List UInt8 := [0x2a, 0x19, 0x06, 0x15, 0x07, 0x2e, 0x19, 0x05, 0x15, 0x07, 0x2e, 0xb6, 0x00, 0x36, 0x84, 0x07, 0x01, 0xa7, 0xff, 0xd2, 0xb1]
def cX7_close_r8 : List UInt8 := cX7_close_w8 ++ []
def cX7_close_w7 : List UInt8 := [0xa2, 0x00, 0x2d, 0x19, 0x06, 0x15, 0x07, 0x2e, 0x02, 0xa0, 0x00, 0x10, 0x2a, 0x59, 0xb4, 0x00, 0x2a, 0x04, 0x60, 0xb5, 0x00, 0x2a, 0xa7, 0x00, 0x11]
def cX7_close_r7 : List UInt8 := cX7_close_w7 ++ cX7_close_r8
def cX7_close_w6 : List UInt8 := [0x02, 0x4f, 0x2a, 0x59, 0xb4, 0x00, 0x27, 0x04, 0x60, 0xb5, 0x00, 0x27, 0x84, 0x07, 0x01, 0xa7, 0xff, 0x80, 0x03, 0x36, 0x07, 0x15, 0x07, 0x15, 0x04]
def cX7_close_r6 : List UInt8 := cX7_close_w6 ++ cX7_close_r7
def cX7_close_w5 : List UInt8 := [0x4f, 0x19, 0x06, 0x15, 0x09, 0x04, 0x60, 0x15, 0x0a, 0x4f, 0x2a, 0xb4, 0x00, 0x12, 0x15, 0x07, 0x15, 0x08, 0x9e, 0x00, 0x07, 0x04, 0xa7, 0x00, 0x04]
def cX7_close_r5 : List UInt8 := cX7_close_w5 ++ cX7_close_r6
def cX7_close_w4 : List UInt8 := [0x15, 0x0a, 0xb6, 0x00, 0x70, 0x2a, 0x19, 0x05, 0x19, 0x06, 0x15, 0x09, 0x04, 0x60, 0x15, 0x0b, 0xb6, 0x00, 0x70, 0x19, 0x06, 0x15, 0x09, 0x15, 0x0b]
def cX7_close_r4 : List UInt8 := cX7_close_w4 ++ cX7_close_r5
def cX7_close_w3 : List UInt8 := [0x68, 0xa7, 0x00, 0x09, 0x05, 0x15, 0x07, 0x68, 0x04, 0x60, 0x36, 0x0a, 0x15, 0x0a, 0x04, 0x82, 0x36, 0x0b, 0x2a, 0x19, 0x05, 0x19, 0x06, 0x15, 0x09]
def cX7_close_r3 : List UInt8 := cX7_close_w3 ++ cX7_close_r4
def cX7_close_w2 : List UInt8 := [0x2b, 0x1c, 0x15, 0x07, 0x60, 0x33, 0x36, 0x08, 0x15, 0x08, 0xb8, 0x00, 0x6a, 0x04, 0x64, 0x36, 0x09, 0x15, 0x08, 0x9e, 0x00, 0x0a, 0x05, 0x15, 0x07]
def cX7_close_r2 : List UInt8 := cX7_close_w2 ++ cX7_close_r3
def cX7_close_w1 : List UInt8 := [0x15, 0x04, 0x02, 0xb8, 0x00, 0x54, 0x2a, 0xb6, 0x00, 0x67, 0x03, 0x36, 0x07, 0x15, 0x07, 0x1d, 0xa2, 0x00, 0x80, 0x15, 0x07, 0x10, 0x0c, 0xa2, 0x00, 0x79]
def cX7_close_r1 : List UInt8 := cX7_close_w1 ++ cX7_close_r2
def cX7_close_w0 : List UInt8 := [0x2a, 0xb4, 0x00, 0x15, 0x3a, 0x05, 0x2a, 0xb4, 0x00, 0x1e, 0x3a, 0x06, 0x19, 0x05, 0x03, 0x15, 0x04, 0x02, 0xb8, 0x00, 0x54, 0x19, 0x06, 0x03]
def cX7_close_r0 : List UInt8 := cX7_close_w0 ++ cX7_close_r1
theorem cX7_close_s0 : dw_S cX7_close 0 cX7_close_r0 := dw_S0 (by decide +kernel)
theorem cX7_close_s1 : dw_S cX7_close 24 cX7_close_r1 := dw_Sn (w := cX7_close_w0) (r := cX7_close_r1) cX7_close_s0 (by decide +kernel)
theorem cX7_close_k0 : dw_ok cX7_close (ByteArray.mk cX7_close_w0.toArray) 0 := dw_Sw (r := cX7_close_r1) cX7_close_s0
theorem cX7_close_s2 : dw_S cX7_close 50 cX7_close_r2 := dw_Sn (w := cX7_close_w1) (r := cX7_close_r2) cX7_close_s1 (by decide +kernel)
theorem cX7_close_k1 : dw_ok cX7_close (ByteArray.mk cX7_close_w1.toArray) 24 := dw_Sw (r := cX7_close_r2) cX7_close_s1
theorem cX7_close_s3 : dw_S cX7_close 75 cX7_close_r3 := dw_Sn (w := cX7_close_w2) (r := cX7_close_r3) cX7_close_s2 (by decide +kernel)
theorem cX7_close_k2 : dw_ok cX7_close (ByteArray.mk cX7_close_w2.toArray) 50 := dw_Sw (r := cX7_close_r3) cX7_close_s2
theorem cX7_close_s4 : dw_S cX7_close 100 cX7_close_r4 := dw_Sn (w := cX7_close_w3) (r := cX7_close_r4) cX7_close_s3 (by decide +kernel)
theorem cX7_close_k3 : dw_ok cX7_close (ByteArray.mk cX7_close_w3.toArray) 75 := dw_Sw (r := cX7_close_r4) cX7_close_s3
theorem cX7_close_s5 : dw_S cX7_close 125 cX7_close_r5 := dw_Sn (w := cX7_close_w4) (r := cX7_close_r5) cX7_close_s4 (by decide +kernel)
theorem cX7_close_k4 : dw_ok cX7_close (ByteArray.mk cX7_close_w4.toArray) 100 := dw_Sw (r := cX7_close_r5) cX7_close_s4
theorem cX7_close_s6 : dw_S cX7_close 150 cX7_close_r6 := dw_Sn (w := cX7_close_w5) (r := cX7_close_r6) cX7_close_s5 (by decide +kernel)
theorem cX7_close_k5 : dw_ok cX7_close (ByteArray.mk cX7_close_w5.toArray) 125 := dw_Sw (r := cX7_close_r6) cX7_close_s5
theorem cX7_close_s7 : dw_S cX7_close 175 cX7_close_r7 := dw_Sn (w := cX7_close_w6) (r := cX7_close_r7) cX7_close_s6 (by decide +kernel)
theorem cX7_close_k6 : dw_ok cX7_close (ByteArray.mk cX7_close_w6.toArray) 150 := dw_Sw (r := cX7_close_r7) cX7_close_s6
theorem cX7_close_s8 : dw_S cX7_close 200 cX7_close_r8 := dw_Sn (w := cX7_close_w7) (r := cX7_close_r8) cX7_close_s7 (by decide +kernel)
theorem cX7_close_k7 : dw_ok cX7_close (ByteArray.mk cX7_close_w7.toArray) 175 := dw_Sw (r := cX7_close_r8) cX7_close_s7
theorem cX7_close_k8 : dw_ok cX7_close (ByteArray.mk cX7_close_w8.toArray) 200 := dw_Sw (r := []) cX7_close_s8
def cX7_copy_w2 : List UInt8 := [0x68, 0xb8, 0x00, 0x3a, 0x2b, 0xb4, 0x00, 0x12, 0x03, 0x2a, 0xb4, 0x00, 0x12, 0x03, 0x2a, 0xb4, 0x00, 0x27, 0xb8, 0x00, 0x3a, 0xb1]
def cX7_copy_r2 : List UInt8 := cX7_copy_w2 ++ []
def cX7_copy_w1 : List UInt8 := [0x03, 0x05, 0x2a, 0xb4, 0x00, 0x27, 0x68, 0xb8, 0x00, 0x3a, 0x2b, 0xb4, 0x00, 0x0f, 0x03, 0x2a, 0xb4, 0x00, 0x0f, 0x03, 0x05, 0x2a, 0xb4, 0x00, 0x27]
def cX7_copy_r1 : List UInt8 := cX7_copy_w1 ++ cX7_copy_r2
def cX7_copy_w0 : List UInt8 := [0x2a, 0x2b, 0xb4, 0x00, 0x27, 0xb5, 0x00, 0x27, 0x2a, 0x2b, 0xb4, 0x00, 0x2a, 0xb5, 0x00, 0x2a, 0x2b, 0xb4, 0x00, 0x09, 0x03, 0x2a, 0xb4, 0x00, 0x09]
def cX7_copy_r0 : List UInt8 := cX7_copy_w0 ++ cX7_copy_r1
theorem cX7_copy_s0 : dw_S cX7_copy 0 cX7_copy_r0 := dw_S0 (by decide +kernel)
theorem cX7_copy_s1 : dw_S cX7_copy 25 cX7_copy_r1 := dw_Sn (w := cX7_copy_w0) (r := cX7_copy_r1) cX7_copy_s0 (by decide +kernel)
theorem cX7_copy_k0 : dw_ok cX7_copy (ByteArray.mk cX7_copy_w0.toArray) 0 := dw_Sw (r := cX7_copy_r1) cX7_copy_s0
theorem cX7_copy_s2 : dw_S cX7_copy 50 cX7_copy_r2 := dw_Sn (w := cX7_copy_w1) (r := cX7_copy_r2) cX7_copy_s1 (by decide +kernel)
theorem cX7_copy_k1 : dw_ok cX7_copy (ByteArray.mk cX7_copy_w1.toArray) 25 := dw_Sw (r := cX7_copy_r2) cX7_copy_s1
theorem cX7_copy_k2 : dw_ok cX7_copy (ByteArray.mk cX7_copy_w2.toArray) 50 := dw_Sw (r := []) cX7_copy_s2
def cX7_cut_w1 : List UInt8 := [0x2a, 0xb4, 0x00, 0x0f, 0x1b, 0x2e, 0x2a, 0xb4, 0x00, 0x09, 0x1b, 0x2e, 0xb6, 0x00, 0x36, 0xb1]
def cX7_cut_r1 : List UInt8 := cX7_cut_w1 ++ []
def cX7_cut_w0 : List UInt8 := [0x2a, 0xb4, 0x00, 0x09, 0x1b, 0x2e, 0x1b, 0xa0, 0x00, 0x10, 0x2a, 0x59, 0xb4, 0x00, 0x2a, 0x04, 0x60, 0xb5, 0x00, 0x2a, 0xa7, 0x00, 0x13, 0x2a]
def cX7_cut_r0 : List UInt8 := cX7_cut_w0 ++ cX7_cut_r1
theorem cX7_cut_s0 : dw_S cX7_cut 0 cX7_cut_r0 := dw_S0 (by decide +kernel)
theorem cX7_cut_s1 : dw_S cX7_cut 24 cX7_cut_r1 := dw_Sn (w := cX7_cut_w0) (r := cX7_cut_r1) cX7_cut_s0 (by decide +kernel)
theorem cX7_cut_k0 : dw_ok cX7_cut (ByteArray.mk cX7_cut_w0.toArray) 0 := dw_Sw (r := cX7_cut_r1) cX7_cut_s0
theorem cX7_cut_k1 : dw_ok cX7_cut (ByteArray.mk cX7_cut_w1.toArray) 24 := dw_Sw (r := []) cX7_cut_s1
def cX7_init_w2 : List UInt8 := [0xb5, 0x00, 0x1b, 0x2a, 0x10, 0x18, 0xbc, 0x0a, 0xb5, 0x00, 0x1e, 0xb1]
def cX7_init_r2 : List UInt8 := cX7_init_w2 ++ []
def cX7_init_w1 : List UInt8 := [0xb5, 0x00, 0x12, 0x2a, 0x10, 0x18, 0xbc, 0x0a, 0xb5, 0x00, 0x15, 0x2a, 0x10, 0x18, 0xbc, 0x0a, 0xb5, 0x00, 0x18, 0x2a, 0x10, 0x18, 0xbc, 0x0a]
def cX7_init_r1 : List UInt8 := cX7_init_w1 ++ cX7_init_r2
def cX7_init_w0 : List UInt8 := [0x2a, 0xb7, 0x00, 0x03, 0x2a, 0x10, 0x18, 0xbc, 0x0a, 0xb5, 0x00, 0x09, 0x2a, 0x10, 0x18, 0xbc, 0x0a, 0xb5, 0x00, 0x0f, 0x2a, 0x10, 0x0c, 0xbc, 0x0a]
def cX7_init_r0 : List UInt8 := cX7_init_w0 ++ cX7_init_r1
theorem cX7_init_s0 : dw_S cX7_init 0 cX7_init_r0 := dw_S0 (by decide +kernel)
theorem cX7_init_s1 : dw_S cX7_init 25 cX7_init_r1 := dw_Sn (w := cX7_init_w0) (r := cX7_init_r1) cX7_init_s0 (by decide +kernel)
theorem cX7_init_k0 : dw_ok cX7_init (ByteArray.mk cX7_init_w0.toArray) 0 := dw_Sw (r := cX7_init_r1) cX7_init_s0
theorem cX7_init_s2 : dw_S cX7_init 49 cX7_init_r2 := dw_Sn (w := cX7_init_w1) (r := cX7_init_r2) cX7_init_s1 (by decide +kernel)
theorem cX7_init_k1 : dw_ok cX7_init (ByteArray.mk cX7_init_w1.toArray) 25 := dw_Sw (r := cX7_init_r2) cX7_init_s1
theorem cX7_init_k2 : dw_ok cX7_init (ByteArray.mk cX7_init_w2.toArray) 49 := dw_Sw (r := []) cX7_init_s2
def cX7_load_w9 : List UInt8 := [0x15, 0x0d, 0x36, 0x08, 0xa7, 0x00, 0x0b, 0x2a, 0x15, 0x09, 0x15, 0x0d, 0xb6, 0x00, 0x36, 0x15, 0x0d, 0x36, 0x09, 0x84, 0x0a, 0x01, 0xa7, 0xff, 0x38, 0xb1]
def cX7_load_r9 : List UInt8 := cX7_load_w9 ++ []
def cX7_load_w8 : List UInt8 := [0x15, 0x07, 0x15, 0x0d, 0x4f, 0x84, 0x07, 0x01, 0x2a, 0xb4, 0x00, 0x18, 0x15, 0x0d, 0x2a, 0xb4, 0x00, 0x2d, 0x4f, 0x15, 0x08, 0x02, 0xa0, 0x00, 0x0a]
def cX7_load_r8 : List UInt8 := cX7_load_w8 ++ cX7_load_r9
def cX7_load_w7 : List UInt8 := [0x02, 0x4f, 0xa7, 0x00, 0x06, 0x84, 0x06, 0xff, 0x05, 0x15, 0x0c, 0x68, 0x15, 0x0b, 0x04, 0x7a, 0x04, 0x7e, 0x60, 0x36, 0x0d, 0x2a, 0xb4, 0x00, 0x15]
def cX7_load_r7 : List UInt8 := cX7_load_w7 ++ cX7_load_r8
def cX7_load_w6 : List UInt8 := [0x15, 0x0c, 0x04, 0x60, 0x36, 0x05, 0x84, 0x06, 0x01, 0x2a, 0xb4, 0x00, 0x12, 0x15, 0x0c, 0x15, 0x0b, 0x04, 0x7e, 0x9a, 0x00, 0x07, 0x04, 0xa7, 0x00, 0x04]
def cX7_load_r6 : List UInt8 := cX7_load_w6 ++ cX7_load_r7
def cX7_load_w5 : List UInt8 := [0x15, 0x04, 0x36, 0x04, 0xa7, 0x00, 0x74, 0x15, 0x04, 0x15, 0x0b, 0x05, 0x7a, 0x60, 0x04, 0x64, 0x36, 0x0c, 0x15, 0x0c, 0x15, 0x05, 0xa1, 0x00, 0x22]
def cX7_load_r5 : List UInt8 := cX7_load_w5 ++ cX7_load_r6
def cX7_load_w4 : List UInt8 := [0xb6, 0x00, 0x36, 0x2a, 0x59, 0xb4, 0x00, 0x2d, 0x04, 0x60, 0xb5, 0x00, 0x2d, 0x02, 0x36, 0x08, 0x15, 0x06, 0x9a, 0x00, 0x08, 0x15, 0x05, 0xa7, 0x00, 0x05]
def cX7_load_r4 : List UInt8 := cX7_load_w4 ++ cX7_load_r5
def cX7_load_w3 : List UInt8 := [0x15, 0x08, 0x02, 0xa0, 0x00, 0x10, 0x2a, 0x59, 0xb4, 0x00, 0x2a, 0x04, 0x60, 0xb5, 0x00, 0x2a, 0xa7, 0x00, 0x0b, 0x2a, 0x15, 0x09, 0x15, 0x08]
def cX7_load_r3 : List UInt8 := cX7_load_w3 ++ cX7_load_r4
def cX7_load_w2 : List UInt8 := [0x2b, 0xb4, 0x00, 0x30, 0x1c, 0x33, 0xa2, 0x00, 0xc3, 0x2b, 0xb4, 0x00, 0x33, 0x1d, 0x15, 0x0a, 0x60, 0x33, 0x36, 0x0b, 0x15, 0x0b, 0x9a, 0x00, 0x3c]
def cX7_load_r2 : List UInt8 := cX7_load_w2 ++ cX7_load_r3
def cX7_load_w1 : List UInt8 := [0x3e, 0x03, 0x36, 0x04, 0x03, 0x36, 0x05, 0x03, 0x36, 0x06, 0x03, 0x36, 0x07, 0x02, 0x36, 0x08, 0x02, 0x36, 0x09, 0x03, 0x36, 0x0a, 0x15, 0x0a]
def cX7_load_r1 : List UInt8 := cX7_load_w1 ++ cX7_load_r2
def cX7_load_w0 : List UInt8 := [0x2a, 0x2b, 0xb4, 0x00, 0x21, 0x1c, 0x33, 0xb5, 0x00, 0x27, 0x2a, 0x03, 0xb5, 0x00, 0x2a, 0x2a, 0x03, 0xb5, 0x00, 0x2d, 0x1c, 0x10, 0x1e, 0x68]
def cX7_load_r0 : List UInt8 := cX7_load_w0 ++ cX7_load_r1
theorem cX7_load_s0 : dw_S cX7_load 0 cX7_load_r0 := dw_S0 (by decide +kernel)
theorem cX7_load_s1 : dw_S cX7_load 24 cX7_load_r1 := dw_Sn (w := cX7_load_w0) (r := cX7_load_r1) cX7_load_s0 (by decide +kernel)
theorem cX7_load_k0 : dw_ok cX7_load (ByteArray.mk cX7_load_w0.toArray) 0 := dw_Sw (r := cX7_load_r1) cX7_load_s0
theorem cX7_load_s2 : dw_S cX7_load 48 cX7_load_r2 := dw_Sn (w := cX7_load_w1) (r := cX7_load_r2) cX7_load_s1 (by decide +kernel)
theorem cX7_load_k1 : dw_ok cX7_load (ByteArray.mk cX7_load_w1.toArray) 24 := dw_Sw (r := cX7_load_r2) cX7_load_s1
theorem cX7_load_s3 : dw_S cX7_load 73 cX7_load_r3 := dw_Sn (w := cX7_load_w2) (r := cX7_load_r3) cX7_load_s2 (by decide +kernel)
theorem cX7_load_k2 : dw_ok cX7_load (ByteArray.mk cX7_load_w2.toArray) 48 := dw_Sw (r := cX7_load_r3) cX7_load_s2
theorem cX7_load_s4 : dw_S cX7_load 97 cX7_load_r4 := dw_Sn (w := cX7_load_w3) (r := cX7_load_r4) cX7_load_s3 (by decide +kernel)
theorem cX7_load_k3 : dw_ok cX7_load (ByteArray.mk cX7_load_w3.toArray) 73 := dw_Sw (r := cX7_load_r4) cX7_load_s3
theorem cX7_load_s5 : dw_S cX7_load 123 cX7_load_r5 := dw_Sn (w := cX7_load_w4) (r := cX7_load_r5) cX7_load_s4 (by decide +kernel)
theorem cX7_load_k4 : dw_ok cX7_load (ByteArray.mk cX7_load_w4.toArray) 97 := dw_Sw (r := cX7_load_r5) cX7_load_s4
theorem cX7_load_s6 : dw_S cX7_load 148 cX7_load_r6 := dw_Sn (w := cX7_load_w5) (r := cX7_load_r6) cX7_load_s5 (by decide +kernel)
theorem cX7_load_k5 : dw_ok cX7_load (ByteArray.mk cX7_load_w5.toArray) 123 := dw_Sw (r := cX7_load_r6) cX7_load_s5
theorem cX7_load_s7 : dw_S cX7_load 174 cX7_load_r7 := dw_Sn (w := cX7_load_w6) (r := cX7_load_r7) cX7_load_s6 (by decide +kernel)
theorem cX7_load_k6 : dw_ok cX7_load (ByteArray.mk cX7_load_w6.toArray) 148 := dw_Sw (r := cX7_load_r7) cX7_load_s6
theorem cX7_load_s8 : dw_S cX7_load 199 cX7_load_r8 := dw_Sn (w := cX7_load_w7) (r := cX7_load_r8) cX7_load_s7 (by decide +kernel)
theorem cX7_load_k7 : dw_ok cX7_load (ByteArray.mk cX7_load_w7.toArray) 174 := dw_Sw (r := cX7_load_r8) cX7_load_s7
theorem cX7_load_s9 : dw_S cX7_load 224 cX7_load_r9 := dw_Sn (w := cX7_load_w8) (r := cX7_load_r9) cX7_load_s8 (by decide +kernel)
theorem cX7_load_k8 : dw_ok cX7_load (ByteArray.mk cX7_load_w8.toArray) 199 := dw_Sw (r := cX7_load_r9) cX7_load_s8
theorem cX7_load_k9 : dw_ok cX7_load (ByteArray.mk cX7_load_w9.toArray) 224 := dw_Sw (r := []) cX7_load_s9
def cX7_markParts_w7 : List UInt8 := [0xa7, 0xff, 0x96, 0x2a, 0x59, 0xb4, 0x00, 0x5a, 0x04, 0x60, 0xb5, 0x00, 0x5a, 0x84, 0x02, 0x01, 0xa7, 0xff, 0x5e, 0xb1]
def cX7_markParts_r7 : List UInt8 := cX7_markParts_w7 ++ []
def cX7_markParts_w6 : List UInt8 := [0xb4, 0x00, 0x1b, 0x15, 0x06, 0x2a, 0xb4, 0x00, 0x5a, 0x4f, 0x2a, 0xb4, 0x00, 0x1e, 0x1d, 0x15, 0x06, 0x4f, 0x84, 0x03, 0x01, 0x84, 0x04, 0x01]
def cX7_markParts_r6 : List UInt8 := cX7_markParts_w6 ++ cX7_markParts_r7
def cX7_markParts_w5 : List UInt8 := [0x4f, 0x2a, 0xb4, 0x00, 0x1e, 0x1d, 0x15, 0x05, 0x4f, 0x84, 0x03, 0x01, 0x2a, 0xb4, 0x00, 0x1b, 0x15, 0x06, 0x2e, 0x02, 0xa0, 0x00, 0x19, 0x2a]
def cX7_markParts_r5 : List UInt8 := cX7_markParts_w5 ++ cX7_markParts_r6
def cX7_markParts_w4 : List UInt8 := [0x2e, 0x04, 0x82, 0x36, 0x06, 0x2a, 0xb4, 0x00, 0x1b, 0x15, 0x05, 0x2e, 0x02, 0xa0, 0x00, 0x19, 0x2a, 0xb4, 0x00, 0x1b, 0x15, 0x05, 0x2a, 0xb4, 0x00, 0x5a]
def cX7_markParts_r4 : List UInt8 := cX7_markParts_w4 ++ cX7_markParts_r5
def cX7_markParts_w3 : List UInt8 := [0x1b, 0xa2, 0x00, 0x64, 0x2a, 0xb4, 0x00, 0x09, 0x2a, 0xb4, 0x00, 0x1e, 0x15, 0x04, 0x2e, 0x2e, 0x36, 0x05, 0x2a, 0xb4, 0x00, 0x1e, 0x15, 0x04]
def cX7_markParts_r3 : List UInt8 := cX7_markParts_w3 ++ cX7_markParts_r4
def cX7_markParts_w2 : List UInt8 := [0x03, 0x1c, 0x4f, 0x2a, 0xb4, 0x00, 0x1b, 0x1c, 0x2a, 0xb4, 0x00, 0x5a, 0x4f, 0x03, 0x36, 0x04, 0x15, 0x04, 0x1d, 0xa2, 0x00, 0x6a, 0x15, 0x04]
def cX7_markParts_r2 : List UInt8 := cX7_markParts_w2 ++ cX7_markParts_r3
def cX7_markParts_w1 : List UInt8 := [0x1c, 0x1b, 0xa2, 0x00, 0xa3, 0x2a, 0xb4, 0x00, 0x1b, 0x1c, 0x2e, 0x02, 0x9f, 0x00, 0x06, 0xa7, 0x00, 0x90, 0x04, 0x3e, 0x2a, 0xb4, 0x00, 0x1e]
def cX7_markParts_r1 : List UInt8 := cX7_markParts_w1 ++ cX7_markParts_r2
def cX7_markParts_w0 : List UInt8 := [0x05, 0x2a, 0xb4, 0x00, 0x27, 0x68, 0x3c, 0x2a, 0xb4, 0x00, 0x1b, 0x03, 0x1b, 0x02, 0xb8, 0x00, 0x54, 0x2a, 0x03, 0xb5, 0x00, 0x5a, 0x03, 0x3d]
def cX7_markParts_r0 : List UInt8 := cX7_markParts_w0 ++ cX7_markParts_r1
theorem cX7_markParts_s0 : dw_S cX7_markParts 0 cX7_markParts_r0 := dw_S0 (by decide +kernel)
theorem cX7_markParts_s1 : dw_S cX7_markParts 24 cX7_markParts_r1 := dw_Sn (w := cX7_markParts_w0) (r := cX7_markParts_r1) cX7_markParts_s0 (by decide +kernel)
theorem cX7_markParts_k0 : dw_ok cX7_markParts (ByteArray.mk cX7_markParts_w0.toArray) 0 := dw_Sw (r := cX7_markParts_r1) cX7_markParts_s0
theorem cX7_markParts_s2 : dw_S cX7_markParts 48 cX7_markParts_r2 := dw_Sn (w := cX7_markParts_w1) (r := cX7_markParts_r2) cX7_markParts_s1 (by decide +kernel)
theorem cX7_markParts_k1 : dw_ok cX7_markParts (ByteArray.mk cX7_markParts_w1.toArray) 24 := dw_Sw (r := cX7_markParts_r2) cX7_markParts_s1
theorem cX7_markParts_s3 : dw_S cX7_markParts 72 cX7_markParts_r3 := dw_Sn (w := cX7_markParts_w2) (r := cX7_markParts_r3) cX7_markParts_s2 (by decide +kernel)
theorem cX7_markParts_k2 : dw_ok cX7_markParts (ByteArray.mk cX7_markParts_w2.toArray) 48 := dw_Sw (r := cX7_markParts_r3) cX7_markParts_s2
theorem cX7_markParts_s4 : dw_S cX7_markParts 96 cX7_markParts_r4 := dw_Sn (w := cX7_markParts_w3) (r := cX7_markParts_r4) cX7_markParts_s3 (by decide +kernel)
theorem cX7_markParts_k3 : dw_ok cX7_markParts (ByteArray.mk cX7_markParts_w3.toArray) 72 := dw_Sw (r := cX7_markParts_r4) cX7_markParts_s3
theorem cX7_markParts_s5 : dw_S cX7_markParts 122 cX7_markParts_r5 := dw_Sn (w := cX7_markParts_w4) (r := cX7_markParts_r5) cX7_markParts_s4 (by decide +kernel)
theorem cX7_markParts_k4 : dw_ok cX7_markParts (ByteArray.mk cX7_markParts_w4.toArray) 96 := dw_Sw (r := cX7_markParts_r5) cX7_markParts_s4
theorem cX7_markParts_s6 : dw_S cX7_markParts 146 cX7_markParts_r6 := dw_Sn (w := cX7_markParts_w5) (r := cX7_markParts_r6) cX7_markParts_s5 (by decide +kernel)
theorem cX7_markParts_k5 : dw_ok cX7_markParts (ByteArray.mk cX7_markParts_w5.toArray) 122 := dw_Sw (r := cX7_markParts_r6) cX7_markParts_s5
theorem cX7_markParts_s7 : dw_S cX7_markParts 170 cX7_markParts_r7 := dw_Sn (w := cX7_markParts_w6) (r := cX7_markParts_r7) cX7_markParts_s6 (by decide +kernel)
theorem cX7_markParts_k6 : dw_ok cX7_markParts (ByteArray.mk cX7_markParts_w6.toArray) 146 := dw_Sw (r := cX7_markParts_r7) cX7_markParts_s6
theorem cX7_markParts_k7 : dw_ok cX7_markParts (ByteArray.mk cX7_markParts_w7.toArray) 170 := dw_Sw (r := []) cX7_markParts_s7
def cX7_markRings_w3 : List UInt8 := [0x2a, 0xb4, 0x00, 0x09, 0x1d, 0x2e, 0x3e, 0x84, 0x04, 0x01, 0xa7, 0xff, 0xdc, 0x2a, 0x59, 0xb4, 0x00, 0x2d, 0x04, 0x60, 0xb5, 0x00, 0x2d, 0x84, 0x02, 0x01, 0xa7, 0xff, 0xb5, 0xb1]
def cX7_markRings_r3 : List UInt8 := cX7_markRings_w3 ++ []
def cX7_markRings_w2 : List UInt8 := [0x1b, 0xa2, 0x00, 0x24, 0x2a, 0xb4, 0x00, 0x18, 0x1d, 0x2e, 0x02, 0xa0, 0x00, 0x1a, 0x2a, 0xb4, 0x00, 0x18, 0x1d, 0x2a, 0xb4, 0x00, 0x2d, 0x4f]
def cX7_markRings_r2 : List UInt8 := cX7_markRings_w2 ++ cX7_markRings_r3
def cX7_markRings_w1 : List UInt8 := [0x1c, 0x1b, 0xa2, 0x00, 0x4c, 0x2a, 0xb4, 0x00, 0x18, 0x1c, 0x2e, 0x02, 0x9f, 0x00, 0x06, 0xa7, 0x00, 0x39, 0x1c, 0x3e, 0x03, 0x36, 0x04, 0x15, 0x04]
def cX7_markRings_r1 : List UInt8 := cX7_markRings_w1 ++ cX7_markRings_r2
def cX7_markRings_w0 : List UInt8 := [0x05, 0x2a, 0xb4, 0x00, 0x27, 0x68, 0x3c, 0x2a, 0xb4, 0x00, 0x18, 0x03, 0x1b, 0x02, 0xb8, 0x00, 0x54, 0x2a, 0x03, 0xb5, 0x00, 0x2d, 0x03, 0x3d]
def cX7_markRings_r0 : List UInt8 := cX7_markRings_w0 ++ cX7_markRings_r1
theorem cX7_markRings_s0 : dw_S cX7_markRings 0 cX7_markRings_r0 := dw_S0 (by decide +kernel)
theorem cX7_markRings_s1 : dw_S cX7_markRings 24 cX7_markRings_r1 := dw_Sn (w := cX7_markRings_w0) (r := cX7_markRings_r1) cX7_markRings_s0 (by decide +kernel)
theorem cX7_markRings_k0 : dw_ok cX7_markRings (ByteArray.mk cX7_markRings_w0.toArray) 0 := dw_Sw (r := cX7_markRings_r1) cX7_markRings_s0
theorem cX7_markRings_s2 : dw_S cX7_markRings 49 cX7_markRings_r2 := dw_Sn (w := cX7_markRings_w1) (r := cX7_markRings_r2) cX7_markRings_s1 (by decide +kernel)
theorem cX7_markRings_k1 : dw_ok cX7_markRings (ByteArray.mk cX7_markRings_w1.toArray) 24 := dw_Sw (r := cX7_markRings_r2) cX7_markRings_s1
theorem cX7_markRings_s3 : dw_S cX7_markRings 73 cX7_markRings_r3 := dw_Sn (w := cX7_markRings_w2) (r := cX7_markRings_r3) cX7_markRings_s2 (by decide +kernel)
theorem cX7_markRings_k2 : dw_ok cX7_markRings (ByteArray.mk cX7_markRings_w2.toArray) 49 := dw_Sw (r := cX7_markRings_r3) cX7_markRings_s2
theorem cX7_markRings_k3 : dw_ok cX7_markRings (ByteArray.mk cX7_markRings_w3.toArray) 73 := dw_Sw (r := []) cX7_markRings_s3
def cX7_partOnce_w3 : List UInt8 := [0x04, 0xac, 0x2a, 0x1c, 0x1d, 0xb6, 0x00, 0x47, 0x84, 0x03, 0x01, 0xa7, 0xff, 0xc7, 0x84, 0x02, 0x01, 0xa7, 0xff, 0xb3, 0x03, 0xac]
def cX7_partOnce_r3 : List UInt8 := cX7_partOnce_w3 ++ []
def cX7_partOnce_w2 : List UInt8 := [0x1d, 0x2e, 0x9f, 0x00, 0x06, 0xa7, 0x00, 0x1d, 0x2a, 0x1c, 0x1d, 0xb6, 0x00, 0x47, 0x2a, 0xb6, 0x00, 0x64, 0x2a, 0xb4, 0x00, 0x5a, 0x1b, 0xa4, 0x00, 0x05]
def cX7_partOnce_r2 : List UInt8 := cX7_partOnce_w2 ++ cX7_partOnce_r3
def cX7_partOnce_w1 : List UInt8 := [0x1c, 0x04, 0x60, 0x3e, 0x1d, 0x05, 0x2a, 0xb4, 0x00, 0x27, 0x68, 0xa2, 0x00, 0x35, 0x2a, 0xb4, 0x00, 0x18, 0x1c, 0x2e, 0x2a, 0xb4, 0x00, 0x18]
def cX7_partOnce_r1 : List UInt8 := cX7_partOnce_w1 ++ cX7_partOnce_r2
def cX7_partOnce_w0 : List UInt8 := [0x2a, 0xb6, 0x00, 0x61, 0x2a, 0xb6, 0x00, 0x64, 0x2a, 0xb4, 0x00, 0x5a, 0x3c, 0x03, 0x3d, 0x1c, 0x05, 0x2a, 0xb4, 0x00, 0x27, 0x68, 0xa2, 0x00, 0x49]
def cX7_partOnce_r0 : List UInt8 := cX7_partOnce_w0 ++ cX7_partOnce_r1
theorem cX7_partOnce_s0 : dw_S cX7_partOnce 0 cX7_partOnce_r0 := dw_S0 (by decide +kernel)
theorem cX7_partOnce_s1 : dw_S cX7_partOnce 25 cX7_partOnce_r1 := dw_Sn (w := cX7_partOnce_w0) (r := cX7_partOnce_r1) cX7_partOnce_s0 (by decide +kernel)
theorem cX7_partOnce_k0 : dw_ok cX7_partOnce (ByteArray.mk cX7_partOnce_w0.toArray) 0 := dw_Sw (r := cX7_partOnce_r1) cX7_partOnce_s0
theorem cX7_partOnce_s2 : dw_S cX7_partOnce 49 cX7_partOnce_r2 := dw_Sn (w := cX7_partOnce_w1) (r := cX7_partOnce_r2) cX7_partOnce_s1 (by decide +kernel)
theorem cX7_partOnce_k1 : dw_ok cX7_partOnce (ByteArray.mk cX7_partOnce_w1.toArray) 25 := dw_Sw (r := cX7_partOnce_r2) cX7_partOnce_s1
theorem cX7_partOnce_s3 : dw_S cX7_partOnce 75 cX7_partOnce_r3 := dw_Sn (w := cX7_partOnce_w2) (r := cX7_partOnce_r3) cX7_partOnce_s2 (by decide +kernel)
theorem cX7_partOnce_k2 : dw_ok cX7_partOnce (ByteArray.mk cX7_partOnce_w2.toArray) 49 := dw_Sw (r := cX7_partOnce_r3) cX7_partOnce_s2
theorem cX7_partOnce_k3 : dw_ok cX7_partOnce (ByteArray.mk cX7_partOnce_w3.toArray) 75 := dw_Sw (r := []) cX7_partOnce_s3
def cX7_removeCrossing_w2 : List UInt8 := [0xb4, 0x00, 0x27, 0x68, 0x04, 0x60, 0x05, 0x1b, 0x68, 0x04, 0x60, 0xb6, 0x00, 0x44, 0x2a, 0xb4, 0x00, 0x12, 0x1b, 0x2a, 0xb4, 0x00, 0x12, 0x2a, 0xb4, 0x00, 0x27, 0x2e, 0x4f, 0xb1]
def cX7_removeCrossing_r2 : List UInt8 := cX7_removeCrossing_w2 ++ []
def cX7_removeCrossing_w1 : List UInt8 := [0x1b, 0x2a, 0xb4, 0x00, 0x27, 0x9f, 0x00, 0x30, 0x2a, 0x05, 0x2a, 0xb4, 0x00, 0x27, 0x68, 0x05, 0x1b, 0x68, 0xb6, 0x00, 0x44, 0x2a, 0x05, 0x2a]
def cX7_removeCrossing_r1 : List UInt8 := cX7_removeCrossing_w1 ++ cX7_removeCrossing_r2
def cX7_removeCrossing_w0 : List UInt8 := [0x2a, 0x05, 0x1b, 0x68, 0xb6, 0x00, 0x40, 0x2a, 0x05, 0x1b, 0x68, 0x04, 0x60, 0xb6, 0x00, 0x40, 0x2a, 0x59, 0xb4, 0x00, 0x27, 0x04, 0x64, 0xb5, 0x00, 0x27]
def cX7_removeCrossing_r0 : List UInt8 := cX7_removeCrossing_w0 ++ cX7_removeCrossing_r1
theorem cX7_removeCrossing_s0 : dw_S cX7_removeCrossing 0 cX7_removeCrossing_r0 := dw_S0 (by decide +kernel)
theorem cX7_removeCrossing_s1 : dw_S cX7_removeCrossing 26 cX7_removeCrossing_r1 := dw_Sn (w := cX7_removeCrossing_w0) (r := cX7_removeCrossing_r1) cX7_removeCrossing_s0 (by decide +kernel)
theorem cX7_removeCrossing_k0 : dw_ok cX7_removeCrossing (ByteArray.mk cX7_removeCrossing_w0.toArray) 0 := dw_Sw (r := cX7_removeCrossing_r1) cX7_removeCrossing_s0
theorem cX7_removeCrossing_s2 : dw_S cX7_removeCrossing 50 cX7_removeCrossing_r2 := dw_Sn (w := cX7_removeCrossing_w1) (r := cX7_removeCrossing_r2) cX7_removeCrossing_s1 (by decide +kernel)
theorem cX7_removeCrossing_k1 : dw_ok cX7_removeCrossing (ByteArray.mk cX7_removeCrossing_w1.toArray) 26 := dw_Sw (r := cX7_removeCrossing_r2) cX7_removeCrossing_s1
theorem cX7_removeCrossing_k2 : dw_ok cX7_removeCrossing (ByteArray.mk cX7_removeCrossing_w2.toArray) 50 := dw_Sw (r := []) cX7_removeCrossing_s2
def cX7_rename_w1 : List UInt8 := [0x1b, 0x2e, 0x1c, 0xb6, 0x00, 0x36, 0x2a, 0x1c, 0x2a, 0xb4, 0x00, 0x09, 0x1b, 0x2e, 0xb6, 0x00, 0x36, 0xb1]
def cX7_rename_r1 : List UInt8 := cX7_rename_w1 ++ []
def cX7_rename_w0 : List UInt8 := [0x2a, 0xb4, 0x00, 0x09, 0x1b, 0x2e, 0x1b, 0xa0, 0x00, 0x0c, 0x2a, 0x1c, 0x1c, 0xb6, 0x00, 0x36, 0xa7, 0x00, 0x19, 0x2a, 0x2a, 0xb4, 0x00, 0x0f]
def cX7_rename_r0 : List UInt8 := cX7_rename_w0 ++ cX7_rename_r1
theorem cX7_rename_s0 : dw_S cX7_rename 0 cX7_rename_r0 := dw_S0 (by decide +kernel)
theorem cX7_rename_s1 : dw_S cX7_rename 24 cX7_rename_r1 := dw_Sn (w := cX7_rename_w0) (r := cX7_rename_r1) cX7_rename_s0 (by decide +kernel)
theorem cX7_rename_k0 : dw_ok cX7_rename (ByteArray.mk cX7_rename_w0.toArray) 0 := dw_Sw (r := cX7_rename_r1) cX7_rename_s0
theorem cX7_rename_k1 : dw_ok cX7_rename (ByteArray.mk cX7_rename_w1.toArray) 24 := dw_Sw (r := []) cX7_rename_s1
def cX7_swapPlaces_w2 : List UInt8 := [0x36, 0x06, 0x2a, 0x1d, 0x1c, 0xb6, 0x00, 0x36, 0x2a, 0x1c, 0x15, 0x04, 0xb6, 0x00, 0x36, 0x2a, 0x15, 0x05, 0x1b, 0xb6, 0x00, 0x36, 0x2a, 0x1b, 0x15, 0x06, 0xb6, 0x00, 0x36, 0xb1]
def cX7_swapPlaces_r2 : List UInt8 := cX7_swapPlaces_w2 ++ []
def cX7_swapPlaces_w1 : List UInt8 := [0x2a, 0xb4, 0x00, 0x0f, 0x1c, 0x2e, 0x1b, 0x1c, 0xb8, 0x00, 0x4d, 0x36, 0x05, 0x2a, 0xb4, 0x00, 0x09, 0x1c, 0x2e, 0x1b, 0x1c, 0xb8, 0x00, 0x4d]
def cX7_swapPlaces_r1 : List UInt8 := cX7_swapPlaces_w1 ++ cX7_swapPlaces_r2
def cX7_swapPlaces_w0 : List UInt8 := [0x2a, 0xb4, 0x00, 0x0f, 0x1b, 0x2e, 0x1b, 0x1c, 0xb8, 0x00, 0x4d, 0x3e, 0x2a, 0xb4, 0x00, 0x09, 0x1b, 0x2e, 0x1b, 0x1c, 0xb8, 0x00, 0x4d, 0x36, 0x04]
def cX7_swapPlaces_r0 : List UInt8 := cX7_swapPlaces_w0 ++ cX7_swapPlaces_r1
theorem cX7_swapPlaces_s0 : dw_S cX7_swapPlaces 0 cX7_swapPlaces_r0 := dw_S0 (by decide +kernel)
theorem cX7_swapPlaces_s1 : dw_S cX7_swapPlaces 25 cX7_swapPlaces_r1 := dw_Sn (w := cX7_swapPlaces_w0) (r := cX7_swapPlaces_r1) cX7_swapPlaces_s0 (by decide +kernel)
theorem cX7_swapPlaces_k0 : dw_ok cX7_swapPlaces (ByteArray.mk cX7_swapPlaces_w0.toArray) 0 := dw_Sw (r := cX7_swapPlaces_r1) cX7_swapPlaces_s0
theorem cX7_swapPlaces_s2 : dw_S cX7_swapPlaces 49 cX7_swapPlaces_r2 := dw_Sn (w := cX7_swapPlaces_w1) (r := cX7_swapPlaces_r2) cX7_swapPlaces_s1 (by decide +kernel)
theorem cX7_swapPlaces_k1 : dw_ok cX7_swapPlaces (ByteArray.mk cX7_swapPlaces_w1.toArray) 25 := dw_Sw (r := cX7_swapPlaces_r2) cX7_swapPlaces_s1
theorem cX7_swapPlaces_k2 : dw_ok cX7_swapPlaces (ByteArray.mk cX7_swapPlaces_w2.toArray) 49 := dw_Sw (r := []) cX7_swapPlaces_s2
def cX7_turn_w2 : List UInt8 := [0x1c, 0x1d, 0x4f, 0x2a, 0xb4, 0x00, 0x12, 0x1c, 0x04, 0x7a, 0x2a, 0xb4, 0x00, 0x12, 0x1c, 0x04, 0x7a, 0x2e, 0x74, 0x4f, 0x84, 0x02, 0x01, 0xa7, 0xff, 0xb9, 0xb1]
def cX7_turn_r2 : List UInt8 := cX7_turn_w2 ++ []
def cX7_turn_w1 : List UInt8 := [0xa0, 0x00, 0x2e, 0x2a, 0xb4, 0x00, 0x09, 0x1c, 0x2e, 0x3e, 0x2a, 0xb4, 0x00, 0x09, 0x1c, 0x2a, 0xb4, 0x00, 0x0f, 0x1c, 0x2e, 0x4f, 0x2a, 0xb4, 0x00, 0x0f]
def cX7_turn_r1 : List UInt8 := cX7_turn_w1 ++ cX7_turn_r2
def cX7_turn_w0 : List UInt8 := [0x03, 0x3d, 0x1c, 0x05, 0x2a, 0xb4, 0x00, 0x27, 0x68, 0xa2, 0x00, 0x43, 0x1b, 0x02, 0x9f, 0x00, 0x0d, 0x2a, 0xb4, 0x00, 0x18, 0x1c, 0x2e, 0x1b]
def cX7_turn_r0 : List UInt8 := cX7_turn_w0 ++ cX7_turn_r1
theorem cX7_turn_s0 : dw_S cX7_turn 0 cX7_turn_r0 := dw_S0 (by decide +kernel)
theorem cX7_turn_s1 : dw_S cX7_turn 24 cX7_turn_r1 := dw_Sn (w := cX7_turn_w0) (r := cX7_turn_r1) cX7_turn_s0 (by decide +kernel)
theorem cX7_turn_k0 : dw_ok cX7_turn (ByteArray.mk cX7_turn_w0.toArray) 0 := dw_Sw (r := cX7_turn_r1) cX7_turn_s0
theorem cX7_turn_s2 : dw_S cX7_turn 50 cX7_turn_r2 := dw_Sn (w := cX7_turn_w1) (r := cX7_turn_r2) cX7_turn_s1 (by decide +kernel)
theorem cX7_turn_k1 : dw_ok cX7_turn (ByteArray.mk cX7_turn_w1.toArray) 24 := dw_Sw (r := cX7_turn_r2) cX7_turn_s1
theorem cX7_turn_k2 : dw_ok cX7_turn (ByteArray.mk cX7_turn_w2.toArray) 50 := dw_Sw (r := []) cX7_turn_s2
def cX8_addCircles_w4 : List UInt8 := [0x2e, 0x68, 0x15, 0x06, 0x04, 0x7e, 0x9a, 0x00, 0x07, 0x04, 0xa7, 0x00, 0x04, 0x02, 0x68, 0x60, 0x4f, 0x84, 0x06, 0x01, 0xa7, 0xff, 0xae, 0xb1]
def cX8_addCircles_r4 : List UInt8 := cX8_addCircles_w4 ++ []
def cX8_addCircles_w3 : List UInt8 := [0x15, 0x07, 0x02, 0x9f, 0x00, 0x26, 0x2a, 0xb4, 0x00, 0x1e, 0x15, 0x07, 0x5c, 0x2e, 0x1c, 0x2a, 0xb4, 0x00, 0x23, 0x15, 0x05, 0x32, 0x15, 0x06]
def cX8_addCircles_r3 : List UInt8 := cX8_addCircles_w3 ++ cX8_addCircles_r4
def cX8_addCircles_w2 : List UInt8 := [0x1d, 0x85, 0x15, 0x05, 0x85, 0x65, 0x05, 0x15, 0x06, 0x68, 0x85, 0x61, 0x15, 0x04, 0x85, 0x15, 0x05, 0x85, 0x65, 0xb8, 0x00, 0x69, 0x36, 0x07]
def cX8_addCircles_r2 : List UInt8 := cX8_addCircles_w2 ++ cX8_addCircles_r3
def cX8_addCircles_w1 : List UInt8 := [0x15, 0x04, 0x5c, 0x2e, 0x1c, 0x60, 0x4f, 0x03, 0x36, 0x06, 0x15, 0x06, 0x15, 0x05, 0xa3, 0x00, 0x51, 0x15, 0x05, 0x10, 0x18, 0xa2, 0x00, 0x4a]
def cX8_addCircles_r1 : List UInt8 := cX8_addCircles_w1 ++ cX8_addCircles_r2
def cX8_addCircles_w0 : List UInt8 := [0x1b, 0x04, 0x64, 0x36, 0x05, 0x15, 0x05, 0x9a, 0x00, 0x18, 0x15, 0x04, 0x2a, 0xb4, 0x00, 0x1a, 0xbe, 0xa2, 0x00, 0x0e, 0x2a, 0xb4, 0x00, 0x1a]
def cX8_addCircles_r0 : List UInt8 := cX8_addCircles_w0 ++ cX8_addCircles_r1
theorem cX8_addCircles_s0 : dw_S cX8_addCircles 0 cX8_addCircles_r0 := dw_S0 (by decide +kernel)
theorem cX8_addCircles_s1 : dw_S cX8_addCircles 24 cX8_addCircles_r1 := dw_Sn (w := cX8_addCircles_w0) (r := cX8_addCircles_r1) cX8_addCircles_s0 (by decide +kernel)
theorem cX8_addCircles_k0 : dw_ok cX8_addCircles (ByteArray.mk cX8_addCircles_w0.toArray) 0 := dw_Sw (r := cX8_addCircles_r1) cX8_addCircles_s0
theorem cX8_addCircles_s2 : dw_S cX8_addCircles 48 cX8_addCircles_r2 := dw_Sn (w := cX8_addCircles_w1) (r := cX8_addCircles_r2) cX8_addCircles_s1 (by decide +kernel)
theorem cX8_addCircles_k1 : dw_ok cX8_addCircles (ByteArray.mk cX8_addCircles_w1.toArray) 24 := dw_Sw (r := cX8_addCircles_r2) cX8_addCircles_s1
theorem cX8_addCircles_s3 : dw_S cX8_addCircles 72 cX8_addCircles_r3 := dw_Sn (w := cX8_addCircles_w2) (r := cX8_addCircles_r3) cX8_addCircles_s2 (by decide +kernel)
theorem cX8_addCircles_k2 : dw_ok cX8_addCircles (ByteArray.mk cX8_addCircles_w2.toArray) 48 := dw_Sw (r := cX8_addCircles_r3) cX8_addCircles_s2
theorem cX8_addCircles_s4 : dw_S cX8_addCircles 96 cX8_addCircles_r4 := dw_Sn (w := cX8_addCircles_w3) (r := cX8_addCircles_r4) cX8_addCircles_s3 (by decide +kernel)
theorem cX8_addCircles_k3 : dw_ok cX8_addCircles (ByteArray.mk cX8_addCircles_w3.toArray) 72 := dw_Sw (r := cX8_addCircles_r4) cX8_addCircles_s3
theorem cX8_addCircles_k4 : dw_ok cX8_addCircles (ByteArray.mk cX8_addCircles_w4.toArray) 96 := dw_Sw (r := []) cX8_addCircles_s4
def cX8_countStates_w4 : List UInt8 := [0xa7, 0xff, 0xc6, 0x2a, 0x03, 0x03, 0x2a, 0xb4, 0x00, 0x2d, 0xb4, 0x00, 0x63, 0xb6, 0x00, 0x7e, 0xb1]
def cX8_countStates_r4 : List UInt8 := cX8_countStates_w4 ++ []
def cX8_countStates_w3 : List UInt8 := [0x4f, 0x2a, 0xb4, 0x00, 0x29, 0x05, 0x1d, 0x68, 0x04, 0x60, 0x05, 0x2a, 0xb4, 0x00, 0x2d, 0xb4, 0x00, 0x7b, 0x1d, 0x2e, 0x68, 0x4f, 0x84, 0x03, 0x01]
def cX8_countStates_r3 : List UInt8 := cX8_countStates_w3 ++ cX8_countStates_r4
def cX8_countStates_w2 : List UInt8 := [0x68, 0xa2, 0x00, 0x33, 0x2a, 0xb4, 0x00, 0x29, 0x05, 0x1d, 0x68, 0x05, 0x2a, 0xb4, 0x00, 0x2d, 0xb4, 0x00, 0x60, 0x1d, 0x2e, 0x68, 0x04, 0x60]
def cX8_countStates_r2 : List UInt8 := cX8_countStates_w2 ++ cX8_countStates_r3
def cX8_countStates_w1 : List UInt8 := [0xb6, 0x00, 0x75, 0xb5, 0x00, 0x79, 0x2a, 0xb4, 0x00, 0x26, 0x03, 0xb8, 0x00, 0x41, 0x03, 0x3e, 0x1d, 0x05, 0x2a, 0xb4, 0x00, 0x2d, 0xb4, 0x00, 0x4f]
def cX8_countStates_r1 : List UInt8 := cX8_countStates_w1 ++ cX8_countStates_r2
def cX8_countStates_w0 : List UInt8 := [0x2a, 0x04, 0x2b, 0x1c, 0xb6, 0x00, 0x3d, 0x99, 0x00, 0x04, 0xb1, 0x2a, 0xb4, 0x00, 0x2d, 0x2b, 0x1c, 0xb6, 0x00, 0x47, 0x2a, 0x2a, 0xb4, 0x00, 0x2d]
def cX8_countStates_r0 : List UInt8 := cX8_countStates_w0 ++ cX8_countStates_r1
theorem cX8_countStates_s0 : dw_S cX8_countStates 0 cX8_countStates_r0 := dw_S0 (by decide +kernel)
theorem cX8_countStates_s1 : dw_S cX8_countStates 25 cX8_countStates_r1 := dw_Sn (w := cX8_countStates_w0) (r := cX8_countStates_r1) cX8_countStates_s0 (by decide +kernel)
theorem cX8_countStates_k0 : dw_ok cX8_countStates (ByteArray.mk cX8_countStates_w0.toArray) 0 := dw_Sw (r := cX8_countStates_r1) cX8_countStates_s0
theorem cX8_countStates_s2 : dw_S cX8_countStates 50 cX8_countStates_r2 := dw_Sn (w := cX8_countStates_w1) (r := cX8_countStates_r2) cX8_countStates_s1 (by decide +kernel)
theorem cX8_countStates_k1 : dw_ok cX8_countStates (ByteArray.mk cX8_countStates_w1.toArray) 25 := dw_Sw (r := cX8_countStates_r2) cX8_countStates_s1
theorem cX8_countStates_s3 : dw_S cX8_countStates 74 cX8_countStates_r3 := dw_Sn (w := cX8_countStates_w2) (r := cX8_countStates_r3) cX8_countStates_s2 (by decide +kernel)
theorem cX8_countStates_k2 : dw_ok cX8_countStates (ByteArray.mk cX8_countStates_w2.toArray) 50 := dw_Sw (r := cX8_countStates_r3) cX8_countStates_s2
theorem cX8_countStates_s4 : dw_S cX8_countStates 99 cX8_countStates_r4 := dw_Sn (w := cX8_countStates_w3) (r := cX8_countStates_r4) cX8_countStates_s3 (by decide +kernel)
theorem cX8_countStates_k3 : dw_ok cX8_countStates (ByteArray.mk cX8_countStates_w3.toArray) 74 := dw_Sw (r := cX8_countStates_r4) cX8_countStates_s3
theorem cX8_countStates_k4 : dw_ok cX8_countStates (ByteArray.mk cX8_countStates_w4.toArray) 99 := dw_Sw (r := []) cX8_countStates_s4
def cX8_init_w6 : List UInt8 := [0x64, 0x32, 0x1c, 0x04, 0x64, 0x2e, 0x2a, 0xb4, 0x00, 0x23, 0x1b, 0x04, 0x64, 0x32, 0x1c, 0x2e, 0x60, 0x4f, 0x84, 0x02, 0x01, 0xa7, 0xff, 0xd9, 0x84, 0x01, 0x01, 0xa7, 0xff, 0xc2, 0xb1]
def cX8_init_r6 : List UInt8 := cX8_init_w6 ++ []
def cX8_init_w5 : List UInt8 := [0x32, 0x03, 0x04, 0x4f, 0x04, 0x3d, 0x1c, 0x1b, 0xa3, 0x00, 0x28, 0x2a, 0xb4, 0x00, 0x23, 0x1b, 0x32, 0x1c, 0x2a, 0xb4, 0x00, 0x23, 0x1b, 0x04]
def cX8_init_r5 : List UInt8 := cX8_init_w5 ++ cX8_init_r6
def cX8_init_w4 : List UInt8 := [0x59, 0xb7, 0x00, 0x2c, 0x53, 0x84, 0x01, 0x01, 0xa7, 0xff, 0xe7, 0x03, 0x3c, 0x1b, 0x10, 0x18, 0xa2, 0x00, 0x3e, 0x2a, 0xb4, 0x00, 0x23, 0x1b]
def cX8_init_r4 : List UInt8 := cX8_init_w4 ++ cX8_init_r5
def cX8_init_w3 : List UInt8 := [0x59, 0xb7, 0x00, 0x2c, 0xb5, 0x00, 0x2d, 0x03, 0x3c, 0x1b, 0x2a, 0xb4, 0x00, 0x16, 0xbe, 0xa2, 0x00, 0x16, 0x2a, 0xb4, 0x00, 0x16, 0x1b, 0xbb, 0x00, 0x14]
def cX8_init_r3 : List UInt8 := cX8_init_w3 ++ cX8_init_r4
def cX8_init_w2 : List UInt8 := [0xb5, 0x00, 0x23, 0x2a, 0x11, 0x01, 0x38, 0xbc, 0x0a, 0xb5, 0x00, 0x26, 0x2a, 0x10, 0x30, 0xbc, 0x0a, 0xb5, 0x00, 0x29, 0x2a, 0xbb, 0x00, 0x14]
def cX8_init_r2 : List UInt8 := cX8_init_w2 ++ cX8_init_r3
def cX8_init_w1 : List UInt8 := [0x2a, 0x10, 0x0d, 0xbc, 0x0a, 0xb5, 0x00, 0x1a, 0x2a, 0x11, 0x14, 0xa9, 0xbc, 0x0a, 0xb5, 0x00, 0x1e, 0x2a, 0x10, 0x18, 0x10, 0x18, 0xc5, 0x00, 0x21, 0x02]
def cX8_init_r1 : List UInt8 := cX8_init_w1 ++ cX8_init_r2
def cX8_init_w0 : List UInt8 := [0x2a, 0xb7, 0x00, 0x03, 0x2a, 0xbb, 0x00, 0x09, 0x59, 0x05, 0xb7, 0x00, 0x0b, 0xb5, 0x00, 0x0e, 0x2a, 0x10, 0x0d, 0xbd, 0x00, 0x14, 0xb5, 0x00, 0x16]
def cX8_init_r0 : List UInt8 := cX8_init_w0 ++ cX8_init_r1
theorem cX8_init_s0 : dw_S cX8_init 0 cX8_init_r0 := dw_S0 (by decide +kernel)
theorem cX8_init_s1 : dw_S cX8_init 25 cX8_init_r1 := dw_Sn (w := cX8_init_w0) (r := cX8_init_r1) cX8_init_s0 (by decide +kernel)
theorem cX8_init_k0 : dw_ok cX8_init (ByteArray.mk cX8_init_w0.toArray) 0 := dw_Sw (r := cX8_init_r1) cX8_init_s0
theorem cX8_init_s2 : dw_S cX8_init 51 cX8_init_r2 := dw_Sn (w := cX8_init_w1) (r := cX8_init_r2) cX8_init_s1 (by decide +kernel)
theorem cX8_init_k1 : dw_ok cX8_init (ByteArray.mk cX8_init_w1.toArray) 25 := dw_Sw (r := cX8_init_r2) cX8_init_s1
theorem cX8_init_s3 : dw_S cX8_init 75 cX8_init_r3 := dw_Sn (w := cX8_init_w2) (r := cX8_init_r3) cX8_init_s2 (by decide +kernel)
theorem cX8_init_k2 : dw_ok cX8_init (ByteArray.mk cX8_init_w2.toArray) 51 := dw_Sw (r := cX8_init_r3) cX8_init_s2
theorem cX8_init_s4 : dw_S cX8_init 101 cX8_init_r4 := dw_Sn (w := cX8_init_w3) (r := cX8_init_r4) cX8_init_s3 (by decide +kernel)
theorem cX8_init_k3 : dw_ok cX8_init (ByteArray.mk cX8_init_w3.toArray) 75 := dw_Sw (r := cX8_init_r4) cX8_init_s3
theorem cX8_init_s5 : dw_S cX8_init 125 cX8_init_r5 := dw_Sn (w := cX8_init_w4) (r := cX8_init_r5) cX8_init_s4 (by decide +kernel)
theorem cX8_init_k4 : dw_ok cX8_init (ByteArray.mk cX8_init_w4.toArray) 101 := dw_Sw (r := cX8_init_r5) cX8_init_s4
theorem cX8_init_s6 : dw_S cX8_init 149 cX8_init_r6 := dw_Sn (w := cX8_init_w5) (r := cX8_init_r6) cX8_init_s5 (by decide +kernel)
theorem cX8_init_k5 : dw_ok cX8_init (ByteArray.mk cX8_init_w5.toArray) 125 := dw_Sw (r := cX8_init_r6) cX8_init_s5
theorem cX8_init_k6 : dw_ok cX8_init (ByteArray.mk cX8_init_w6.toArray) 149 := dw_Sw (r := []) cX8_init_s6
def cX8_jonesAt_w6 : List UInt8 := [0x84, 0x05, 0x01, 0xa7, 0xff, 0x75, 0x2a, 0xb4, 0x00, 0x79, 0x04, 0x7e, 0x9a, 0x00, 0x08, 0x15, 0x04, 0xa7, 0x00, 0x06, 0x15, 0x04, 0x74, 0xac]
def cX8_jonesAt_r6 : List UInt8 := cX8_jonesAt_w6 ++ []
def cX8_jonesAt_w5 : List UInt8 := [0x15, 0x04, 0x15, 0x07, 0x04, 0x7e, 0x9a, 0x00, 0x08, 0x15, 0x0a, 0xa7, 0x00, 0x06, 0x15, 0x0a, 0x74, 0x60, 0x36, 0x04, 0x84, 0x06, 0x01, 0xa7, 0xff, 0x8a]
def cX8_jonesAt_r5 : List UInt8 := cX8_jonesAt_w5 ++ cX8_jonesAt_r6
def cX8_jonesAt_w4 : List UInt8 := [0x10, 0x18, 0x68, 0x15, 0x06, 0x60, 0x2e, 0x2a, 0xb4, 0x00, 0x23, 0x15, 0x07, 0x32, 0x16, 0x08, 0x14, 0x00, 0x8a, 0x6d, 0x88, 0x2e, 0x68, 0x36, 0x0a]
def cX8_jonesAt_r4 : List UInt8 := cX8_jonesAt_w4 ++ cX8_jonesAt_r5
def cX8_jonesAt_w3 : List UInt8 := [0x16, 0x08, 0x09, 0x94, 0x9b, 0x00, 0x41, 0x16, 0x08, 0x07, 0x15, 0x07, 0x68, 0x85, 0x94, 0x9d, 0x00, 0x36, 0x2a, 0xb4, 0x00, 0x26, 0x15, 0x05]
def cX8_jonesAt_r3 : List UInt8 := cX8_jonesAt_w3 ++ cX8_jonesAt_r4
def cX8_jonesAt_w2 : List UInt8 := [0x05, 0x15, 0x05, 0x68, 0x64, 0x05, 0x15, 0x07, 0x68, 0x60, 0x85, 0x20, 0x65, 0x37, 0x08, 0x16, 0x08, 0x14, 0x00, 0x8a, 0x71, 0x09, 0x94, 0x9a, 0x00, 0x48]
def cX8_jonesAt_r2 : List UInt8 := cX8_jonesAt_w2 ++ cX8_jonesAt_r3
def cX8_jonesAt_w1 : List UInt8 := [0xa3, 0x00, 0x85, 0x04, 0x36, 0x06, 0x15, 0x06, 0x10, 0x18, 0xa2, 0x00, 0x75, 0x15, 0x06, 0x04, 0x64, 0x36, 0x07, 0x2a, 0xb4, 0x00, 0x2d, 0xb4, 0x00, 0x4f]
def cX8_jonesAt_r1 : List UInt8 := cX8_jonesAt_w1 ++ cX8_jonesAt_r2
def cX8_jonesAt_w0 : List UInt8 := [0x1b, 0x85, 0x06, 0x2a, 0xb4, 0x00, 0x79, 0x68, 0x85, 0x61, 0x41, 0x03, 0x36, 0x04, 0x03, 0x36, 0x05, 0x15, 0x05, 0x2a, 0xb4, 0x00, 0x2d, 0xb4, 0x00, 0x4f]
def cX8_jonesAt_r0 : List UInt8 := cX8_jonesAt_w0 ++ cX8_jonesAt_r1
theorem cX8_jonesAt_s0 : dw_S cX8_jonesAt 0 cX8_jonesAt_r0 := dw_S0 (by decide +kernel)
theorem cX8_jonesAt_s1 : dw_S cX8_jonesAt 26 cX8_jonesAt_r1 := dw_Sn (w := cX8_jonesAt_w0) (r := cX8_jonesAt_r1) cX8_jonesAt_s0 (by decide +kernel)
theorem cX8_jonesAt_k0 : dw_ok cX8_jonesAt (ByteArray.mk cX8_jonesAt_w0.toArray) 0 := dw_Sw (r := cX8_jonesAt_r1) cX8_jonesAt_s0
theorem cX8_jonesAt_s2 : dw_S cX8_jonesAt 52 cX8_jonesAt_r2 := dw_Sn (w := cX8_jonesAt_w1) (r := cX8_jonesAt_r2) cX8_jonesAt_s1 (by decide +kernel)
theorem cX8_jonesAt_k1 : dw_ok cX8_jonesAt (ByteArray.mk cX8_jonesAt_w1.toArray) 26 := dw_Sw (r := cX8_jonesAt_r2) cX8_jonesAt_s1
theorem cX8_jonesAt_s3 : dw_S cX8_jonesAt 78 cX8_jonesAt_r3 := dw_Sn (w := cX8_jonesAt_w2) (r := cX8_jonesAt_r3) cX8_jonesAt_s2 (by decide +kernel)
theorem cX8_jonesAt_k2 : dw_ok cX8_jonesAt (ByteArray.mk cX8_jonesAt_w2.toArray) 52 := dw_Sw (r := cX8_jonesAt_r3) cX8_jonesAt_s2
theorem cX8_jonesAt_s4 : dw_S cX8_jonesAt 102 cX8_jonesAt_r4 := dw_Sn (w := cX8_jonesAt_w3) (r := cX8_jonesAt_r4) cX8_jonesAt_s3 (by decide +kernel)
theorem cX8_jonesAt_k3 : dw_ok cX8_jonesAt (ByteArray.mk cX8_jonesAt_w3.toArray) 78 := dw_Sw (r := cX8_jonesAt_r4) cX8_jonesAt_s3
theorem cX8_jonesAt_s5 : dw_S cX8_jonesAt 127 cX8_jonesAt_r5 := dw_Sn (w := cX8_jonesAt_w4) (r := cX8_jonesAt_r5) cX8_jonesAt_s4 (by decide +kernel)
theorem cX8_jonesAt_k4 : dw_ok cX8_jonesAt (ByteArray.mk cX8_jonesAt_w4.toArray) 102 := dw_Sw (r := cX8_jonesAt_r5) cX8_jonesAt_s4
theorem cX8_jonesAt_s6 : dw_S cX8_jonesAt 153 cX8_jonesAt_r6 := dw_Sn (w := cX8_jonesAt_w5) (r := cX8_jonesAt_r6) cX8_jonesAt_s5 (by decide +kernel)
theorem cX8_jonesAt_k5 : dw_ok cX8_jonesAt (ByteArray.mk cX8_jonesAt_w5.toArray) 127 := dw_Sw (r := cX8_jonesAt_r6) cX8_jonesAt_s5
theorem cX8_jonesAt_k6 : dw_ok cX8_jonesAt (ByteArray.mk cX8_jonesAt_w6.toArray) 153 := dw_Sw (r := []) cX8_jonesAt_s6
def cX8_takeBoth_w7 : List UInt8 := [0x15, 0x0a, 0xb6, 0x00, 0x86, 0x84, 0x08, 0x01, 0xa7, 0xff, 0x84, 0xb1]
def cX8_takeBoth_r7 : List UInt8 := cX8_takeBoth_w7 ++ []
def cX8_takeBoth_w6 : List UInt8 := [0x1b, 0x04, 0x60, 0x1c, 0x15, 0x08, 0x60, 0x1d, 0x15, 0x0c, 0x60, 0xb6, 0x00, 0x7e, 0x2a, 0x15, 0x04, 0x15, 0x0b, 0xb6, 0x00, 0x86, 0x2a, 0x15, 0x05]
def cX8_takeBoth_r6 : List UInt8 := cX8_takeBoth_w6 ++ cX8_takeBoth_r7
def cX8_takeBoth_w5 : List UInt8 := [0x15, 0x06, 0x36, 0x0b, 0x2a, 0x15, 0x05, 0x15, 0x0a, 0xb6, 0x00, 0x82, 0x2a, 0x15, 0x04, 0x15, 0x0b, 0xb6, 0x00, 0x82, 0x60, 0x36, 0x0c, 0x2a]
def cX8_takeBoth_r5 : List UInt8 := cX8_takeBoth_w5 ++ cX8_takeBoth_r6
def cX8_takeBoth_w4 : List UInt8 := [0x15, 0x09, 0x99, 0x00, 0x08, 0x15, 0x06, 0xa7, 0x00, 0x05, 0x15, 0x07, 0x36, 0x0a, 0x15, 0x09, 0x99, 0x00, 0x08, 0x15, 0x07, 0xa7, 0x00, 0x05]
def cX8_takeBoth_r4 : List UInt8 := cX8_takeBoth_w4 ++ cX8_takeBoth_r5
def cX8_takeBoth_w3 : List UInt8 := [0x04, 0xa7, 0x00, 0x04, 0x03, 0x15, 0x08, 0x9a, 0x00, 0x07, 0x04, 0xa7, 0x00, 0x04, 0x03, 0xa0, 0x00, 0x07, 0x04, 0xa7, 0x00, 0x04, 0x03, 0x36, 0x09]
def cX8_takeBoth_r3 : List UInt8 := cX8_takeBoth_w3 ++ cX8_takeBoth_r4
def cX8_takeBoth_w2 : List UInt8 := [0x68, 0x06, 0x60, 0x36, 0x07, 0x03, 0x36, 0x08, 0x15, 0x08, 0x05, 0xa2, 0x00, 0x7c, 0x2a, 0xb4, 0x00, 0x2d, 0xb4, 0x00, 0x53, 0x1b, 0x2e, 0x9e, 0x00, 0x07]
def cX8_takeBoth_r2 : List UInt8 := cX8_takeBoth_w2 ++ cX8_takeBoth_r3
def cX8_takeBoth_w1 : List UInt8 := [0x60, 0x4f, 0xb1, 0x07, 0x1b, 0x68, 0x36, 0x04, 0x07, 0x1b, 0x68, 0x04, 0x60, 0x36, 0x05, 0x07, 0x1b, 0x68, 0x05, 0x60, 0x36, 0x06, 0x07, 0x1b]
def cX8_takeBoth_r1 : List UInt8 := cX8_takeBoth_w1 ++ cX8_takeBoth_r2
def cX8_takeBoth_w0 : List UInt8 := [0x1b, 0x2a, 0xb4, 0x00, 0x2d, 0xb4, 0x00, 0x4f, 0xa1, 0x00, 0x13, 0x2a, 0xb4, 0x00, 0x26, 0x1c, 0x10, 0x18, 0x68, 0x1d, 0x60, 0x5c, 0x2e, 0x04]
def cX8_takeBoth_r0 : List UInt8 := cX8_takeBoth_w0 ++ cX8_takeBoth_r1
theorem cX8_takeBoth_s0 : dw_S cX8_takeBoth 0 cX8_takeBoth_r0 := dw_S0 (by decide +kernel)
theorem cX8_takeBoth_s1 : dw_S cX8_takeBoth 24 cX8_takeBoth_r1 := dw_Sn (w := cX8_takeBoth_w0) (r := cX8_takeBoth_r1) cX8_takeBoth_s0 (by decide +kernel)
theorem cX8_takeBoth_k0 : dw_ok cX8_takeBoth (ByteArray.mk cX8_takeBoth_w0.toArray) 0 := dw_Sw (r := cX8_takeBoth_r1) cX8_takeBoth_s0
theorem cX8_takeBoth_s2 : dw_S cX8_takeBoth 48 cX8_takeBoth_r2 := dw_Sn (w := cX8_takeBoth_w1) (r := cX8_takeBoth_r2) cX8_takeBoth_s1 (by decide +kernel)
theorem cX8_takeBoth_k1 : dw_ok cX8_takeBoth (ByteArray.mk cX8_takeBoth_w1.toArray) 24 := dw_Sw (r := cX8_takeBoth_r2) cX8_takeBoth_s1
theorem cX8_takeBoth_s3 : dw_S cX8_takeBoth 74 cX8_takeBoth_r3 := dw_Sn (w := cX8_takeBoth_w2) (r := cX8_takeBoth_r3) cX8_takeBoth_s2 (by decide +kernel)
theorem cX8_takeBoth_k2 : dw_ok cX8_takeBoth (ByteArray.mk cX8_takeBoth_w2.toArray) 48 := dw_Sw (r := cX8_takeBoth_r3) cX8_takeBoth_s2
theorem cX8_takeBoth_s4 : dw_S cX8_takeBoth 99 cX8_takeBoth_r4 := dw_Sn (w := cX8_takeBoth_w3) (r := cX8_takeBoth_r4) cX8_takeBoth_s3 (by decide +kernel)
theorem cX8_takeBoth_k3 : dw_ok cX8_takeBoth (ByteArray.mk cX8_takeBoth_w3.toArray) 74 := dw_Sw (r := cX8_takeBoth_r4) cX8_takeBoth_s3
theorem cX8_takeBoth_s5 : dw_S cX8_takeBoth 123 cX8_takeBoth_r5 := dw_Sn (w := cX8_takeBoth_w4) (r := cX8_takeBoth_r5) cX8_takeBoth_s4 (by decide +kernel)
theorem cX8_takeBoth_k4 : dw_ok cX8_takeBoth (ByteArray.mk cX8_takeBoth_w4.toArray) 99 := dw_Sw (r := cX8_takeBoth_r5) cX8_takeBoth_s4
theorem cX8_takeBoth_s6 : dw_S cX8_takeBoth 147 cX8_takeBoth_r6 := dw_Sn (w := cX8_takeBoth_w5) (r := cX8_takeBoth_r6) cX8_takeBoth_s5 (by decide +kernel)
theorem cX8_takeBoth_k5 : dw_ok cX8_takeBoth (ByteArray.mk cX8_takeBoth_w5.toArray) 123 := dw_Sw (r := cX8_takeBoth_r6) cX8_takeBoth_s5
theorem cX8_takeBoth_s7 : dw_S cX8_takeBoth 172 cX8_takeBoth_r7 := dw_Sn (w := cX8_takeBoth_w6) (r := cX8_takeBoth_r7) cX8_takeBoth_s6 (by decide +kernel)
theorem cX8_takeBoth_k6 : dw_ok cX8_takeBoth (ByteArray.mk cX8_takeBoth_w6.toArray) 147 := dw_Sw (r := cX8_takeBoth_r7) cX8_takeBoth_s6
theorem cX8_takeBoth_k7 : dw_ok cX8_takeBoth (ByteArray.mk cX8_takeBoth_w7.toArray) 172 := dw_Sw (r := []) cX8_takeBoth_s7
def cX8_tie_w1 : List UInt8 := [0x1c, 0x2e, 0x4f, 0x2a, 0xb4, 0x00, 0x29, 0x2a, 0xb4, 0x00, 0x29, 0x1c, 0x2e, 0x2a, 0xb4, 0x00, 0x29, 0x1b, 0x2e, 0x4f, 0x03, 0xac]
def cX8_tie_r1 : List UInt8 := cX8_tie_w1 ++ []
def cX8_tie_w0 : List UInt8 := [0x2a, 0xb4, 0x00, 0x29, 0x1b, 0x2e, 0x1c, 0xa0, 0x00, 0x05, 0x04, 0xac, 0x2a, 0xb4, 0x00, 0x29, 0x2a, 0xb4, 0x00, 0x29, 0x1b, 0x2e, 0x2a, 0xb4, 0x00, 0x29]
def cX8_tie_r0 : List UInt8 := cX8_tie_w0 ++ cX8_tie_r1
theorem cX8_tie_s0 : dw_S cX8_tie 0 cX8_tie_r0 := dw_S0 (by decide +kernel)
theorem cX8_tie_s1 : dw_S cX8_tie 26 cX8_tie_r1 := dw_Sn (w := cX8_tie_w0) (r := cX8_tie_r1) cX8_tie_s0 (by decide +kernel)
theorem cX8_tie_k0 : dw_ok cX8_tie (ByteArray.mk cX8_tie_w0.toArray) 0 := dw_Sw (r := cX8_tie_r1) cX8_tie_s0
theorem cX8_tie_k1 : dw_ok cX8_tie (ByteArray.mk cX8_tie_w1.toArray) 26 := dw_Sw (r := []) cX8_tie_s1
def cX8_twoIndex_w2 : List UInt8 := [0x16, 0x04, 0x14, 0x00, 0x73, 0x69, 0x16, 0x06, 0x61, 0x88, 0xac]
def cX8_twoIndex_r2 : List UInt8 := cX8_twoIndex_w2 ++ []
def cX8_twoIndex_w1 : List UInt8 := [0x94, 0x9c, 0x00, 0x13, 0x16, 0x06, 0x09, 0x94, 0x9b, 0x00, 0x0c, 0x16, 0x06, 0x14, 0x00, 0x73, 0x94, 0x9b, 0x00, 0x07, 0x02, 0xa7, 0x00, 0x0d]
def cX8_twoIndex_r1 : List UInt8 := cX8_twoIndex_w1 ++ cX8_twoIndex_r2
def cX8_twoIndex_w0 : List UInt8 := [0x1e, 0x14, 0x00, 0x6d, 0x65, 0x37, 0x04, 0x20, 0x14, 0x00, 0x6f, 0x65, 0x37, 0x06, 0x16, 0x04, 0x09, 0x94, 0x9b, 0x00, 0x1c, 0x16, 0x04, 0x14, 0x00, 0x71]
def cX8_twoIndex_r0 : List UInt8 := cX8_twoIndex_w0 ++ cX8_twoIndex_r1
theorem cX8_twoIndex_s0 : dw_S cX8_twoIndex 0 cX8_twoIndex_r0 := dw_S0 (by decide +kernel)
theorem cX8_twoIndex_s1 : dw_S cX8_twoIndex 26 cX8_twoIndex_r1 := dw_Sn (w := cX8_twoIndex_w0) (r := cX8_twoIndex_r1) cX8_twoIndex_s0 (by decide +kernel)
theorem cX8_twoIndex_k0 : dw_ok cX8_twoIndex (ByteArray.mk cX8_twoIndex_w0.toArray) 0 := dw_Sw (r := cX8_twoIndex_r1) cX8_twoIndex_s0
theorem cX8_twoIndex_s2 : dw_S cX8_twoIndex 50 cX8_twoIndex_r2 := dw_Sn (w := cX8_twoIndex_w1) (r := cX8_twoIndex_r2) cX8_twoIndex_s1 (by decide +kernel)
theorem cX8_twoIndex_k1 : dw_ok cX8_twoIndex (ByteArray.mk cX8_twoIndex_w1.toArray) 26 := dw_Sw (r := cX8_twoIndex_r2) cX8_twoIndex_s1
theorem cX8_twoIndex_k2 : dw_ok cX8_twoIndex (ByteArray.mk cX8_twoIndex_w2.toArray) 50 := dw_Sw (r := []) cX8_twoIndex_s2
def cX8_unfold_w10 : List UInt8 := [0x15, 0x07, 0x15, 0x04, 0xb6, 0x00, 0x66, 0xb1]
def cX8_unfold_r10 : List UInt8 := cX8_unfold_w10 ++ []
def cX8_unfold_w9 : List UInt8 := [0x36, 0x0c, 0x84, 0x0d, 0x01, 0xa7, 0xff, 0x5f, 0x84, 0x0b, 0x01, 0xa7, 0xff, 0x3b, 0x2a, 0x15, 0x0a, 0x19, 0x05, 0xb4, 0x00, 0x63, 0x60, 0x1c]
def cX8_unfold_r9 : List UInt8 := cX8_unfold_w9 ++ cX8_unfold_r10
def cX8_unfold_w8 : List UInt8 := [0x04, 0x15, 0x0e, 0x78, 0x80, 0x36, 0x08, 0x15, 0x09, 0x04, 0x15, 0x0c, 0x78, 0x80, 0x36, 0x09, 0x19, 0x05, 0xb4, 0x00, 0x60, 0x15, 0x0c, 0x2e]
def cX8_unfold_r8 : List UInt8 := cX8_unfold_w8 ++ cX8_unfold_r9
def cX8_unfold_w7 : List UInt8 := [0x19, 0x05, 0x15, 0x0e, 0xb6, 0x00, 0x5d, 0x15, 0x07, 0x05, 0x15, 0x0f, 0x68, 0x60, 0x36, 0x07, 0x15, 0x0c, 0x04, 0x82, 0x36, 0x0c, 0x15, 0x08]
def cX8_unfold_r7 : List UInt8 := cX8_unfold_w7 ++ cX8_unfold_r8
def cX8_unfold_w6 : List UInt8 := [0x15, 0x0e, 0xb6, 0x00, 0x5a, 0x2a, 0x1b, 0x04, 0x60, 0x1c, 0x15, 0x0f, 0x68, 0x15, 0x07, 0x15, 0x0f, 0x60, 0x15, 0x04, 0x04, 0x60, 0xb6, 0x00, 0x4b]
def cX8_unfold_r6 : List UInt8 := cX8_unfold_w6 ++ cX8_unfold_r7
def cX8_unfold_w5 : List UInt8 := [0xa2, 0x00, 0x31, 0x2a, 0xb4, 0x00, 0x16, 0x1b, 0x04, 0x60, 0x32, 0x19, 0x05, 0xb6, 0x00, 0x56, 0x2a, 0xb4, 0x00, 0x16, 0x1b, 0x04, 0x60, 0x32]
def cX8_unfold_r5 : List UInt8 := cX8_unfold_w5 ++ cX8_unfold_r6
def cX8_unfold_w4 : List UInt8 := [0x04, 0x7e, 0x04, 0xa0, 0x00, 0x5c, 0x19, 0x05, 0xb4, 0x00, 0x53, 0x15, 0x0e, 0x2e, 0x36, 0x0f, 0x1b, 0x04, 0x60, 0x2a, 0xb4, 0x00, 0x16, 0xbe]
def cX8_unfold_r4 : List UInt8 := cX8_unfold_w4 ++ cX8_unfold_r5
def cX8_unfold_w3 : List UInt8 := [0x7a, 0x04, 0x7e, 0x9a, 0x00, 0x96, 0x15, 0x0c, 0x04, 0x7a, 0x36, 0x0e, 0x15, 0x08, 0x15, 0x0e, 0x7a, 0x04, 0x7e, 0x9a, 0x00, 0x64, 0x15, 0x0c]
def cX8_unfold_r3 : List UInt8 := cX8_unfold_w3 ++ cX8_unfold_r4
def cX8_unfold_w2 : List UInt8 := [0xa7, 0x00, 0xb1, 0x84, 0x0a, 0x01, 0x15, 0x0b, 0x36, 0x0c, 0x03, 0x36, 0x0d, 0x15, 0x0d, 0x15, 0x06, 0xa2, 0x00, 0xa0, 0x15, 0x09, 0x15, 0x0c]
def cX8_unfold_r2 : List UInt8 := cX8_unfold_w2 ++ cX8_unfold_r3
def cX8_unfold_w1 : List UInt8 := [0x36, 0x09, 0x03, 0x36, 0x0a, 0x03, 0x36, 0x0b, 0x15, 0x0b, 0x15, 0x06, 0xa2, 0x00, 0xc4, 0x15, 0x09, 0x15, 0x0b, 0x7a, 0x04, 0x7e, 0x99, 0x00, 0x06]
def cX8_unfold_r1 : List UInt8 := cX8_unfold_w1 ++ cX8_unfold_r2
def cX8_unfold_w0 : List UInt8 := [0x2a, 0xb4, 0x00, 0x16, 0x1b, 0x32, 0x3a, 0x05, 0x05, 0x19, 0x05, 0xb4, 0x00, 0x4f, 0x68, 0x36, 0x06, 0x1d, 0x36, 0x07, 0x03, 0x36, 0x08, 0x03]
def cX8_unfold_r0 : List UInt8 := cX8_unfold_w0 ++ cX8_unfold_r1
theorem cX8_unfold_s0 : dw_S cX8_unfold 0 cX8_unfold_r0 := dw_S0 (by decide +kernel)
theorem cX8_unfold_s1 : dw_S cX8_unfold 24 cX8_unfold_r1 := dw_Sn (w := cX8_unfold_w0) (r := cX8_unfold_r1) cX8_unfold_s0 (by decide +kernel)
theorem cX8_unfold_k0 : dw_ok cX8_unfold (ByteArray.mk cX8_unfold_w0.toArray) 0 := dw_Sw (r := cX8_unfold_r1) cX8_unfold_s0
theorem cX8_unfold_s2 : dw_S cX8_unfold 49 cX8_unfold_r2 := dw_Sn (w := cX8_unfold_w1) (r := cX8_unfold_r2) cX8_unfold_s1 (by decide +kernel)
theorem cX8_unfold_k1 : dw_ok cX8_unfold (ByteArray.mk cX8_unfold_w1.toArray) 24 := dw_Sw (r := cX8_unfold_r2) cX8_unfold_s1
theorem cX8_unfold_s3 : dw_S cX8_unfold 73 cX8_unfold_r3 := dw_Sn (w := cX8_unfold_w2) (r := cX8_unfold_r3) cX8_unfold_s2 (by decide +kernel)
theorem cX8_unfold_k2 : dw_ok cX8_unfold (ByteArray.mk cX8_unfold_w2.toArray) 49 := dw_Sw (r := cX8_unfold_r3) cX8_unfold_s2
theorem cX8_unfold_s4 : dw_S cX8_unfold 97 cX8_unfold_r4 := dw_Sn (w := cX8_unfold_w3) (r := cX8_unfold_r4) cX8_unfold_s3 (by decide +kernel)
theorem cX8_unfold_k3 : dw_ok cX8_unfold (ByteArray.mk cX8_unfold_w3.toArray) 73 := dw_Sw (r := cX8_unfold_r4) cX8_unfold_s3
theorem cX8_unfold_s5 : dw_S cX8_unfold 121 cX8_unfold_r5 := dw_Sn (w := cX8_unfold_w4) (r := cX8_unfold_r5) cX8_unfold_s4 (by decide +kernel)
theorem cX8_unfold_k4 : dw_ok cX8_unfold (ByteArray.mk cX8_unfold_w4.toArray) 97 := dw_Sw (r := cX8_unfold_r5) cX8_unfold_s4
theorem cX8_unfold_s6 : dw_S cX8_unfold 145 cX8_unfold_r6 := dw_Sn (w := cX8_unfold_w5) (r := cX8_unfold_r6) cX8_unfold_s5 (by decide +kernel)
theorem cX8_unfold_k5 : dw_ok cX8_unfold (ByteArray.mk cX8_unfold_w5.toArray) 121 := dw_Sw (r := cX8_unfold_r6) cX8_unfold_s5
theorem cX8_unfold_s7 : dw_S cX8_unfold 170 cX8_unfold_r7 := dw_Sn (w := cX8_unfold_w6) (r := cX8_unfold_r7) cX8_unfold_s6 (by decide +kernel)
theorem cX8_unfold_k6 : dw_ok cX8_unfold (ByteArray.mk cX8_unfold_w6.toArray) 145 := dw_Sw (r := cX8_unfold_r7) cX8_unfold_s6
theorem cX8_unfold_s8 : dw_S cX8_unfold 194 cX8_unfold_r8 := dw_Sn (w := cX8_unfold_w7) (r := cX8_unfold_r8) cX8_unfold_s7 (by decide +kernel)
theorem cX8_unfold_k7 : dw_ok cX8_unfold (ByteArray.mk cX8_unfold_w7.toArray) 170 := dw_Sw (r := cX8_unfold_r8) cX8_unfold_s7
theorem cX8_unfold_s9 : dw_S cX8_unfold 218 cX8_unfold_r9 := dw_Sn (w := cX8_unfold_w8) (r := cX8_unfold_r9) cX8_unfold_s8 (by decide +kernel)
theorem cX8_unfold_k8 : dw_ok cX8_unfold (ByteArray.mk cX8_unfold_w8.toArray) 194 := dw_Sw (r := cX8_unfold_r9) cX8_unfold_s8
theorem cX8_unfold_s10 : dw_S cX8_unfold 242 cX8_unfold_r10 := dw_Sn (w := cX8_unfold_w9) (r := cX8_unfold_r10) cX8_unfold_s9 (by decide +kernel)
theorem cX8_unfold_k9 : dw_ok cX8_unfold (ByteArray.mk cX8_unfold_w9.toArray) 218 := dw_Sw (r := cX8_unfold_r10) cX8_unfold_s9
theorem cX8_unfold_k10 : dw_ok cX8_unfold (ByteArray.mk cX8_unfold_w10.toArray) 242 := dw_Sw (r := []) cX8_unfold_s10
def cX8_unfoldCode_w1 : List UInt8 := [0xb8, 0x00, 0x41, 0x2a, 0xb4, 0x00, 0x16, 0x03, 0x32, 0x2b, 0x1c, 0xb6, 0x00, 0x47, 0x2a, 0x03, 0x04, 0x03, 0x03, 0xb6, 0x00, 0x4b, 0xb1]
def cX8_unfoldCode_r1 : List UInt8 := cX8_unfoldCode_w1 ++ []
def cX8_unfoldCode_w0 : List UInt8 := [0x2a, 0x03, 0x2b, 0x1c, 0xb6, 0x00, 0x3d, 0x99, 0x00, 0x04, 0xb1, 0x2a, 0xb4, 0x00, 0x1a, 0x03, 0xb8, 0x00, 0x41, 0x2a, 0xb4, 0x00, 0x1e, 0x03]
def cX8_unfoldCode_r0 : List UInt8 := cX8_unfoldCode_w0 ++ cX8_unfoldCode_r1
theorem cX8_unfoldCode_s0 : dw_S cX8_unfoldCode 0 cX8_unfoldCode_r0 := dw_S0 (by decide +kernel)
theorem cX8_unfoldCode_s1 : dw_S cX8_unfoldCode 24 cX8_unfoldCode_r1 := dw_Sn (w := cX8_unfoldCode_w0) (r := cX8_unfoldCode_r1) cX8_unfoldCode_s0 (by decide +kernel)
theorem cX8_unfoldCode_k0 : dw_ok cX8_unfoldCode (ByteArray.mk cX8_unfoldCode_w0.toArray) 0 := dw_Sw (r := cX8_unfoldCode_r1) cX8_unfoldCode_s0
theorem cX8_unfoldCode_k1 : dw_ok cX8_unfoldCode (ByteArray.mk cX8_unfoldCode_w1.toArray) 24 := dw_Sw (r := []) cX8_unfoldCode_s1
def cX9_enter_w5 : List UInt8 := [0x2e, 0x1d, 0x9f, 0x00, 0x05, 0x02, 0xac, 0x2a, 0xb4, 0x00, 0x13, 0x15, 0x05, 0x1c, 0x4f, 0x15, 0x05, 0xac]
def cX9_enter_r5 : List UInt8 := cX9_enter_w5 ++ []
def cX9_enter_w4 : List UInt8 := [0x04, 0xa7, 0x00, 0x04, 0x03, 0x60, 0x36, 0x05, 0x2a, 0xb4, 0x00, 0x13, 0x15, 0x05, 0x2e, 0x02, 0xa0, 0x00, 0x0e, 0x2b, 0xb4, 0x00, 0x45, 0x15, 0x04]
def cX9_enter_r4 : List UInt8 := cX9_enter_w4 ++ cX9_enter_r5
def cX9_enter_w3 : List UInt8 := [0x15, 0x04, 0x4f, 0x2b, 0xb4, 0x00, 0x45, 0x15, 0x04, 0x1d, 0x4f, 0x05, 0x15, 0x04, 0x68, 0x2a, 0xb4, 0x00, 0x09, 0x1c, 0x33, 0x10, 0x75, 0xa0, 0x00, 0x07]
def cX9_enter_r3 : List UInt8 := cX9_enter_w3 ++ cX9_enter_r4
def cX9_enter_w2 : List UInt8 := [0x2b, 0xb4, 0x00, 0x42, 0x36, 0x04, 0x2b, 0x59, 0xb4, 0x00, 0x42, 0x04, 0x60, 0xb5, 0x00, 0x42, 0x2a, 0xb4, 0x00, 0x0f, 0x2a, 0xb4, 0x00, 0x3f]
def cX9_enter_r2 : List UInt8 := cX9_enter_w2 ++ cX9_enter_r3
def cX9_enter_w1 : List UInt8 := [0x2a, 0xb4, 0x00, 0x3f, 0x2e, 0x36, 0x04, 0x15, 0x04, 0x02, 0xa0, 0x00, 0x31, 0x2b, 0xb4, 0x00, 0x42, 0x10, 0x0c, 0xa1, 0x00, 0x05, 0x02, 0xac]
def cX9_enter_r1 : List UInt8 := cX9_enter_w1 ++ cX9_enter_r2
def cX9_enter_w0 : List UInt8 := [0x2a, 0xb4, 0x00, 0x09, 0x2a, 0xb4, 0x00, 0x25, 0x04, 0x64, 0x33, 0x10, 0x2b, 0xa0, 0x00, 0x07, 0x04, 0xa7, 0x00, 0x04, 0x02, 0x3e, 0x2a, 0xb4, 0x00, 0x0f]
def cX9_enter_r0 : List UInt8 := cX9_enter_w0 ++ cX9_enter_r1
theorem cX9_enter_s0 : dw_S cX9_enter 0 cX9_enter_r0 := dw_S0 (by decide +kernel)
theorem cX9_enter_s1 : dw_S cX9_enter 26 cX9_enter_r1 := dw_Sn (w := cX9_enter_w0) (r := cX9_enter_r1) cX9_enter_s0 (by decide +kernel)
theorem cX9_enter_k0 : dw_ok cX9_enter (ByteArray.mk cX9_enter_w0.toArray) 0 := dw_Sw (r := cX9_enter_r1) cX9_enter_s0
theorem cX9_enter_s2 : dw_S cX9_enter 50 cX9_enter_r2 := dw_Sn (w := cX9_enter_w1) (r := cX9_enter_r2) cX9_enter_s1 (by decide +kernel)
theorem cX9_enter_k1 : dw_ok cX9_enter (ByteArray.mk cX9_enter_w1.toArray) 26 := dw_Sw (r := cX9_enter_r2) cX9_enter_s1
theorem cX9_enter_s3 : dw_S cX9_enter 74 cX9_enter_r3 := dw_Sn (w := cX9_enter_w2) (r := cX9_enter_r3) cX9_enter_s2 (by decide +kernel)
theorem cX9_enter_k2 : dw_ok cX9_enter (ByteArray.mk cX9_enter_w2.toArray) 50 := dw_Sw (r := cX9_enter_r3) cX9_enter_s2
theorem cX9_enter_s4 : dw_S cX9_enter 100 cX9_enter_r4 := dw_Sn (w := cX9_enter_w3) (r := cX9_enter_r4) cX9_enter_s3 (by decide +kernel)
theorem cX9_enter_k3 : dw_ok cX9_enter (ByteArray.mk cX9_enter_w3.toArray) 74 := dw_Sw (r := cX9_enter_r4) cX9_enter_s3
theorem cX9_enter_s5 : dw_S cX9_enter 125 cX9_enter_r5 := dw_Sn (w := cX9_enter_w4) (r := cX9_enter_r5) cX9_enter_s4 (by decide +kernel)
theorem cX9_enter_k4 : dw_ok cX9_enter (ByteArray.mk cX9_enter_w4.toArray) 100 := dw_Sw (r := cX9_enter_r5) cX9_enter_s4
theorem cX9_enter_k5 : dw_ok cX9_enter (ByteArray.mk cX9_enter_w5.toArray) 125 := dw_Sw (r := []) cX9_enter_s5
def cX9_firstLonely_w2 : List UInt8 := [0xa2, 0x00, 0x0a, 0x2a, 0xb4, 0x00, 0x13, 0x1d, 0x2e, 0x3d, 0x84, 0x03, 0x01, 0xa7, 0xff, 0xc7, 0x1c, 0xac]
def cX9_firstLonely_r2 : List UInt8 := cX9_firstLonely_w2 ++ []
def cX9_firstLonely_w1 : List UInt8 := [0x2a, 0xb4, 0x00, 0x13, 0x1d, 0x04, 0x82, 0x2e, 0x02, 0xa0, 0x00, 0x19, 0x1c, 0x02, 0x9f, 0x00, 0x0d, 0x2a, 0xb4, 0x00, 0x13, 0x1d, 0x2e, 0x1c]
def cX9_firstLonely_r1 : List UInt8 := cX9_firstLonely_w1 ++ cX9_firstLonely_r2
def cX9_firstLonely_w0 : List UInt8 := [0x02, 0x3d, 0x03, 0x3e, 0x1d, 0x05, 0x2b, 0xb4, 0x00, 0x42, 0x68, 0xa2, 0x00, 0x35, 0x2a, 0xb4, 0x00, 0x13, 0x1d, 0x2e, 0x02, 0x9f, 0x00, 0x25]
def cX9_firstLonely_r0 : List UInt8 := cX9_firstLonely_w0 ++ cX9_firstLonely_r1
theorem cX9_firstLonely_s0 : dw_S cX9_firstLonely 0 cX9_firstLonely_r0 := dw_S0 (by decide +kernel)
theorem cX9_firstLonely_s1 : dw_S cX9_firstLonely 24 cX9_firstLonely_r1 := dw_Sn (w := cX9_firstLonely_w0) (r := cX9_firstLonely_r1) cX9_firstLonely_s0 (by decide +kernel)
theorem cX9_firstLonely_k0 : dw_ok cX9_firstLonely (ByteArray.mk cX9_firstLonely_w0.toArray) 0 := dw_Sw (r := cX9_firstLonely_r1) cX9_firstLonely_s0
theorem cX9_firstLonely_s2 : dw_S cX9_firstLonely 48 cX9_firstLonely_r2 := dw_Sn (w := cX9_firstLonely_w1) (r := cX9_firstLonely_r2) cX9_firstLonely_s1 (by decide +kernel)
theorem cX9_firstLonely_k1 : dw_ok cX9_firstLonely (ByteArray.mk cX9_firstLonely_w1.toArray) 24 := dw_Sw (r := cX9_firstLonely_r2) cX9_firstLonely_s1
theorem cX9_firstLonely_k2 : dw_ok cX9_firstLonely (ByteArray.mk cX9_firstLonely_w2.toArray) 48 := dw_Sw (r := []) cX9_firstLonely_s2
def cX9_readBraid_w4 : List UInt8 := [0x54, 0xa7, 0x00, 0x06, 0x15, 0x04, 0xac, 0x84, 0x04, 0x01, 0xa7, 0xff, 0x98, 0x02, 0xac]
def cX9_readBraid_r4 : List UInt8 := cX9_readBraid_w4 ++ []
def cX9_readBraid_w3 : List UInt8 := [0x15, 0x06, 0x9b, 0x00, 0x1a, 0x15, 0x06, 0x1b, 0x04, 0x64, 0xa2, 0x00, 0x12, 0x2c, 0x1d, 0x15, 0x04, 0x60, 0x15, 0x06, 0x04, 0x60, 0x74, 0x91]
def cX9_readBraid_r3 : List UInt8 := cX9_readBraid_w3 ++ cX9_readBraid_r4
def cX9_readBraid_w2 : List UInt8 := [0x9b, 0x00, 0x19, 0x15, 0x05, 0x1b, 0x04, 0x64, 0xa2, 0x00, 0x11, 0x2c, 0x1d, 0x15, 0x04, 0x60, 0x15, 0x05, 0x04, 0x60, 0x91, 0x54, 0xa7, 0x00, 0x22]
def cX9_readBraid_r2 : List UInt8 := cX9_readBraid_w2 ++ cX9_readBraid_r3
def cX9_readBraid_w1 : List UInt8 := [0x2a, 0xb4, 0x00, 0x09, 0x15, 0x04, 0x33, 0x10, 0x41, 0x64, 0x36, 0x06, 0x15, 0x04, 0x10, 0x10, 0xa1, 0x00, 0x06, 0x15, 0x04, 0xac, 0x15, 0x05]
def cX9_readBraid_r1 : List UInt8 := cX9_readBraid_w1 ++ cX9_readBraid_r2
def cX9_readBraid_w0 : List UInt8 := [0x03, 0x36, 0x04, 0x15, 0x04, 0x2a, 0xb4, 0x00, 0x16, 0xa2, 0x00, 0x65, 0x2a, 0xb4, 0x00, 0x09, 0x15, 0x04, 0x33, 0x10, 0x61, 0x64, 0x36, 0x05]
def cX9_readBraid_r0 : List UInt8 := cX9_readBraid_w0 ++ cX9_readBraid_r1
theorem cX9_readBraid_s0 : dw_S cX9_readBraid 0 cX9_readBraid_r0 := dw_S0 (by decide +kernel)
theorem cX9_readBraid_s1 : dw_S cX9_readBraid 24 cX9_readBraid_r1 := dw_Sn (w := cX9_readBraid_w0) (r := cX9_readBraid_r1) cX9_readBraid_s0 (by decide +kernel)
theorem cX9_readBraid_k0 : dw_ok cX9_readBraid (ByteArray.mk cX9_readBraid_w0.toArray) 0 := dw_Sw (r := cX9_readBraid_r1) cX9_readBraid_s0
theorem cX9_readBraid_s2 : dw_S cX9_readBraid 48 cX9_readBraid_r2 := dw_Sn (w := cX9_readBraid_w1) (r := cX9_readBraid_r2) cX9_readBraid_s1 (by decide +kernel)
theorem cX9_readBraid_k1 : dw_ok cX9_readBraid (ByteArray.mk cX9_readBraid_w1.toArray) 24 := dw_Sw (r := cX9_readBraid_r2) cX9_readBraid_s1
theorem cX9_readBraid_s3 : dw_S cX9_readBraid 73 cX9_readBraid_r3 := dw_Sn (w := cX9_readBraid_w2) (r := cX9_readBraid_r3) cX9_readBraid_s2 (by decide +kernel)
theorem cX9_readBraid_k2 : dw_ok cX9_readBraid (ByteArray.mk cX9_readBraid_w2.toArray) 48 := dw_Sw (r := cX9_readBraid_r3) cX9_readBraid_s2
theorem cX9_readBraid_s4 : dw_S cX9_readBraid 97 cX9_readBraid_r4 := dw_Sn (w := cX9_readBraid_w3) (r := cX9_readBraid_r4) cX9_readBraid_s3 (by decide +kernel)
theorem cX9_readBraid_k3 : dw_ok cX9_readBraid (ByteArray.mk cX9_readBraid_w3.toArray) 73 := dw_Sw (r := cX9_readBraid_r4) cX9_readBraid_s3
theorem cX9_readBraid_k4 : dw_ok cX9_readBraid (ByteArray.mk cX9_readBraid_w4.toArray) 97 := dw_Sw (r := []) cX9_readBraid_s4
def cX9_readDiagram_w7 : List UInt8 := [0x15, 0x04, 0xb8, 0x00, 0x28, 0x2a, 0x2b, 0xb6, 0x00, 0x38, 0xac]
def cX9_readDiagram_r7 : List UInt8 := cX9_readDiagram_w7 ++ []
def cX9_readDiagram_w6 : List UInt8 := [0x3e, 0xa7, 0x00, 0x0b, 0x2b, 0x15, 0x04, 0x15, 0x08, 0xb6, 0x00, 0x34, 0x15, 0x08, 0x36, 0x04, 0x84, 0x05, 0x01, 0xa7, 0xff, 0x7a, 0x2b, 0x1d]
def cX9_readDiagram_r6 : List UInt8 := cX9_readDiagram_w6 ++ cX9_readDiagram_r7
def cX9_readDiagram_w5 : List UInt8 := [0x2b, 0x15, 0x06, 0xb6, 0x00, 0x30, 0x36, 0x08, 0x15, 0x08, 0x02, 0xa0, 0x00, 0x06, 0x15, 0x06, 0xac, 0x1d, 0x02, 0xa0, 0x00, 0x09, 0x15, 0x08]
def cX9_readDiagram_r5 : List UInt8 := cX9_readDiagram_w5 ++ cX9_readDiagram_r6
def cX9_readDiagram_w4 : List UInt8 := [0x04, 0x60, 0xb5, 0x00, 0x25, 0xa7, 0x00, 0x3b, 0x2a, 0xb6, 0x00, 0x2c, 0x36, 0x07, 0x15, 0x07, 0x02, 0x9f, 0x00, 0x06, 0x15, 0x07, 0xac, 0x2a]
def cX9_readDiagram_r4 : List UInt8 := cX9_readDiagram_w4 ++ cX9_readDiagram_r5
def cX9_readDiagram_w3 : List UInt8 := [0x1c, 0x10, 0x06, 0xa4, 0x00, 0x08, 0x2a, 0xb4, 0x00, 0x25, 0xac, 0x2b, 0x1d, 0x15, 0x04, 0xb8, 0x00, 0x28, 0x02, 0x3e, 0x2a, 0x59, 0xb4, 0x00, 0x25]
def cX9_readDiagram_r3 : List UInt8 := cX9_readDiagram_w3 ++ cX9_readDiagram_r4
def cX9_readDiagram_w2 : List UInt8 := [0xa2, 0x00, 0x79, 0x2a, 0xb4, 0x00, 0x25, 0x36, 0x06, 0x2a, 0xb4, 0x00, 0x09, 0x2a, 0xb4, 0x00, 0x25, 0x33, 0x10, 0x3b, 0xa0, 0x00, 0x27, 0x84, 0x02, 0x01]
def cX9_readDiagram_r2 : List UInt8 := cX9_readDiagram_w2 ++ cX9_readDiagram_r3
def cX9_readDiagram_w1 : List UInt8 := [0x04, 0x3d, 0x02, 0x3e, 0x02, 0x36, 0x04, 0x03, 0x36, 0x05, 0x15, 0x05, 0x11, 0x01, 0x90, 0xa2, 0x00, 0x84, 0x2a, 0xb4, 0x00, 0x25, 0x2a, 0xb4, 0x00, 0x16]
def cX9_readDiagram_r1 : List UInt8 := cX9_readDiagram_w1 ++ cX9_readDiagram_r2
def cX9_readDiagram_w0 : List UInt8 := [0x2a, 0xb4, 0x00, 0x0f, 0x02, 0xb8, 0x00, 0x1a, 0x2a, 0xb4, 0x00, 0x13, 0x02, 0xb8, 0x00, 0x1a, 0x2b, 0xb6, 0x00, 0x20, 0x2a, 0x03, 0xb5, 0x00, 0x25]
def cX9_readDiagram_r0 : List UInt8 := cX9_readDiagram_w0 ++ cX9_readDiagram_r1
theorem cX9_readDiagram_s0 : dw_S cX9_readDiagram 0 cX9_readDiagram_r0 := dw_S0 (by decide +kernel)
theorem cX9_readDiagram_s1 : dw_S cX9_readDiagram 25 cX9_readDiagram_r1 := dw_Sn (w := cX9_readDiagram_w0) (r := cX9_readDiagram_r1) cX9_readDiagram_s0 (by decide +kernel)
theorem cX9_readDiagram_k0 : dw_ok cX9_readDiagram (ByteArray.mk cX9_readDiagram_w0.toArray) 0 := dw_Sw (r := cX9_readDiagram_r1) cX9_readDiagram_s0
theorem cX9_readDiagram_s2 : dw_S cX9_readDiagram 51 cX9_readDiagram_r2 := dw_Sn (w := cX9_readDiagram_w1) (r := cX9_readDiagram_r2) cX9_readDiagram_s1 (by decide +kernel)
theorem cX9_readDiagram_k1 : dw_ok cX9_readDiagram (ByteArray.mk cX9_readDiagram_w1.toArray) 25 := dw_Sw (r := cX9_readDiagram_r2) cX9_readDiagram_s1
theorem cX9_readDiagram_s3 : dw_S cX9_readDiagram 77 cX9_readDiagram_r3 := dw_Sn (w := cX9_readDiagram_w2) (r := cX9_readDiagram_r3) cX9_readDiagram_s2 (by decide +kernel)
theorem cX9_readDiagram_k2 : dw_ok cX9_readDiagram (ByteArray.mk cX9_readDiagram_w2.toArray) 51 := dw_Sw (r := cX9_readDiagram_r3) cX9_readDiagram_s2
theorem cX9_readDiagram_s4 : dw_S cX9_readDiagram 102 cX9_readDiagram_r4 := dw_Sn (w := cX9_readDiagram_w3) (r := cX9_readDiagram_r4) cX9_readDiagram_s3 (by decide +kernel)
theorem cX9_readDiagram_k3 : dw_ok cX9_readDiagram (ByteArray.mk cX9_readDiagram_w3.toArray) 77 := dw_Sw (r := cX9_readDiagram_r4) cX9_readDiagram_s3
theorem cX9_readDiagram_s5 : dw_S cX9_readDiagram 126 cX9_readDiagram_r5 := dw_Sn (w := cX9_readDiagram_w4) (r := cX9_readDiagram_r5) cX9_readDiagram_s4 (by decide +kernel)
theorem cX9_readDiagram_k4 : dw_ok cX9_readDiagram (ByteArray.mk cX9_readDiagram_w4.toArray) 102 := dw_Sw (r := cX9_readDiagram_r5) cX9_readDiagram_s4
theorem cX9_readDiagram_s6 : dw_S cX9_readDiagram 150 cX9_readDiagram_r6 := dw_Sn (w := cX9_readDiagram_w5) (r := cX9_readDiagram_r6) cX9_readDiagram_s5 (by decide +kernel)
theorem cX9_readDiagram_k5 : dw_ok cX9_readDiagram (ByteArray.mk cX9_readDiagram_w5.toArray) 126 := dw_Sw (r := cX9_readDiagram_r6) cX9_readDiagram_s5
theorem cX9_readDiagram_s7 : dw_S cX9_readDiagram 174 cX9_readDiagram_r7 := dw_Sn (w := cX9_readDiagram_w6) (r := cX9_readDiagram_r7) cX9_readDiagram_s6 (by decide +kernel)
theorem cX9_readDiagram_k6 : dw_ok cX9_readDiagram (ByteArray.mk cX9_readDiagram_w6.toArray) 150 := dw_Sw (r := cX9_readDiagram_r7) cX9_readDiagram_s6
theorem cX9_readDiagram_k7 : dw_ok cX9_readDiagram (ByteArray.mk cX9_readDiagram_w7.toArray) 174 := dw_Sw (r := []) cX9_readDiagram_s7
def cX9_readVisit_w9 : List UInt8 := [0x9f, 0x00, 0x08, 0x2a, 0xb4, 0x00, 0x25, 0xac, 0x2a, 0x59, 0xb4, 0x00, 0x25, 0x04, 0x60, 0xb5, 0x00, 0x25, 0x02, 0xac]
def cX9_readVisit_r9 : List UInt8 := cX9_readVisit_w9 ++ []
def cX9_readVisit_w8 : List UInt8 := [0x2a, 0xb4, 0x00, 0x09, 0x2a, 0xb4, 0x00, 0x25, 0x33, 0x10, 0x2b, 0x9f, 0x00, 0x16, 0x2a, 0xb4, 0x00, 0x09, 0x2a, 0xb4, 0x00, 0x25, 0x33, 0x10, 0x2d]
def cX9_readVisit_r8 : List UInt8 := cX9_readVisit_w8 ++ cX9_readVisit_r9
def cX9_readVisit_w7 : List UInt8 := [0xb5, 0x00, 0x3f, 0x2a, 0x59, 0xb4, 0x00, 0x25, 0x04, 0x60, 0xb5, 0x00, 0x25, 0x2a, 0xb4, 0x00, 0x25, 0x2a, 0xb4, 0x00, 0x16, 0xa2, 0x00, 0x1f]
def cX9_readVisit_r7 : List UInt8 := cX9_readVisit_w7 ++ cX9_readVisit_r8
def cX9_readVisit_w6 : List UInt8 := [0xa3, 0x00, 0x25, 0x2a, 0x10, 0x0a, 0x2a, 0xb4, 0x00, 0x3f, 0x68, 0x2a, 0xb4, 0x00, 0x09, 0x2a, 0xb4, 0x00, 0x25, 0x33, 0x60, 0x10, 0x30, 0x64]
def cX9_readVisit_r6 : List UInt8 := cX9_readVisit_w6 ++ cX9_readVisit_r7
def cX9_readVisit_w5 : List UInt8 := [0x2a, 0xb4, 0x00, 0x09, 0x2a, 0xb4, 0x00, 0x25, 0x33, 0x10, 0x30, 0xa1, 0x00, 0x33, 0x2a, 0xb4, 0x00, 0x09, 0x2a, 0xb4, 0x00, 0x25, 0x33, 0x10, 0x39]
def cX9_readVisit_r5 : List UInt8 := cX9_readVisit_w5 ++ cX9_readVisit_r6
def cX9_readVisit_w4 : List UInt8 := [0xb5, 0x00, 0x3f, 0x2a, 0x59, 0xb4, 0x00, 0x25, 0x04, 0x60, 0xb5, 0x00, 0x25, 0x2a, 0xb4, 0x00, 0x25, 0x2a, 0xb4, 0x00, 0x16, 0xa2, 0x00, 0x41]
def cX9_readVisit_r4 : List UInt8 := cX9_readVisit_w4 ++ cX9_readVisit_r5
def cX9_readVisit_w3 : List UInt8 := [0x33, 0x10, 0x39, 0xa4, 0x00, 0x08, 0x2a, 0xb4, 0x00, 0x25, 0xac, 0x2a, 0x2a, 0xb4, 0x00, 0x09, 0x2a, 0xb4, 0x00, 0x25, 0x33, 0x10, 0x30, 0x64]
def cX9_readVisit_r3 : List UInt8 := cX9_readVisit_w3 ++ cX9_readVisit_r4
def cX9_readVisit_w2 : List UInt8 := [0xa2, 0x00, 0x1f, 0x2a, 0xb4, 0x00, 0x09, 0x2a, 0xb4, 0x00, 0x25, 0x33, 0x10, 0x31, 0xa1, 0x00, 0x11, 0x2a, 0xb4, 0x00, 0x09, 0x2a, 0xb4, 0x00, 0x25]
def cX9_readVisit_r2 : List UInt8 := cX9_readVisit_w2 ++ cX9_readVisit_r3
def cX9_readVisit_w1 : List UInt8 := [0x9f, 0x00, 0x08, 0x2a, 0xb4, 0x00, 0x25, 0xac, 0x2a, 0x59, 0xb4, 0x00, 0x25, 0x04, 0x60, 0xb5, 0x00, 0x25, 0x2a, 0xb4, 0x00, 0x25, 0x2a, 0xb4, 0x00, 0x16]
def cX9_readVisit_r1 : List UInt8 := cX9_readVisit_w1 ++ cX9_readVisit_r2
def cX9_readVisit_w0 : List UInt8 := [0x2a, 0xb4, 0x00, 0x09, 0x2a, 0xb4, 0x00, 0x25, 0x33, 0x10, 0x6f, 0x9f, 0x00, 0x16, 0x2a, 0xb4, 0x00, 0x09, 0x2a, 0xb4, 0x00, 0x25, 0x33, 0x10, 0x75]
def cX9_readVisit_r0 : List UInt8 := cX9_readVisit_w0 ++ cX9_readVisit_r1
theorem cX9_readVisit_s0 : dw_S cX9_readVisit 0 cX9_readVisit_r0 := dw_S0 (by decide +kernel)
theorem cX9_readVisit_s1 : dw_S cX9_readVisit 25 cX9_readVisit_r1 := dw_Sn (w := cX9_readVisit_w0) (r := cX9_readVisit_r1) cX9_readVisit_s0 (by decide +kernel)
theorem cX9_readVisit_k0 : dw_ok cX9_readVisit (ByteArray.mk cX9_readVisit_w0.toArray) 0 := dw_Sw (r := cX9_readVisit_r1) cX9_readVisit_s0
theorem cX9_readVisit_s2 : dw_S cX9_readVisit 51 cX9_readVisit_r2 := dw_Sn (w := cX9_readVisit_w1) (r := cX9_readVisit_r2) cX9_readVisit_s1 (by decide +kernel)
theorem cX9_readVisit_k1 : dw_ok cX9_readVisit (ByteArray.mk cX9_readVisit_w1.toArray) 25 := dw_Sw (r := cX9_readVisit_r2) cX9_readVisit_s1
theorem cX9_readVisit_s3 : dw_S cX9_readVisit 76 cX9_readVisit_r3 := dw_Sn (w := cX9_readVisit_w2) (r := cX9_readVisit_r3) cX9_readVisit_s2 (by decide +kernel)
theorem cX9_readVisit_k2 : dw_ok cX9_readVisit (ByteArray.mk cX9_readVisit_w2.toArray) 51 := dw_Sw (r := cX9_readVisit_r3) cX9_readVisit_s2
theorem cX9_readVisit_s4 : dw_S cX9_readVisit 100 cX9_readVisit_r4 := dw_Sn (w := cX9_readVisit_w3) (r := cX9_readVisit_r4) cX9_readVisit_s3 (by decide +kernel)
theorem cX9_readVisit_k3 : dw_ok cX9_readVisit (ByteArray.mk cX9_readVisit_w3.toArray) 76 := dw_Sw (r := cX9_readVisit_r4) cX9_readVisit_s3
theorem cX9_readVisit_s5 : dw_S cX9_readVisit 124 cX9_readVisit_r5 := dw_Sn (w := cX9_readVisit_w4) (r := cX9_readVisit_r5) cX9_readVisit_s4 (by decide +kernel)
theorem cX9_readVisit_k4 : dw_ok cX9_readVisit (ByteArray.mk cX9_readVisit_w4.toArray) 100 := dw_Sw (r := cX9_readVisit_r5) cX9_readVisit_s4
theorem cX9_readVisit_s6 : dw_S cX9_readVisit 149 cX9_readVisit_r6 := dw_Sn (w := cX9_readVisit_w5) (r := cX9_readVisit_r6) cX9_readVisit_s5 (by decide +kernel)
theorem cX9_readVisit_k5 : dw_ok cX9_readVisit (ByteArray.mk cX9_readVisit_w5.toArray) 124 := dw_Sw (r := cX9_readVisit_r6) cX9_readVisit_s5
theorem cX9_readVisit_s7 : dw_S cX9_readVisit 173 cX9_readVisit_r7 := dw_Sn (w := cX9_readVisit_w6) (r := cX9_readVisit_r7) cX9_readVisit_s6 (by decide +kernel)
theorem cX9_readVisit_k6 : dw_ok cX9_readVisit (ByteArray.mk cX9_readVisit_w6.toArray) 149 := dw_Sw (r := cX9_readVisit_r7) cX9_readVisit_s6
theorem cX9_readVisit_s8 : dw_S cX9_readVisit 197 cX9_readVisit_r8 := dw_Sn (w := cX9_readVisit_w7) (r := cX9_readVisit_r8) cX9_readVisit_s7 (by decide +kernel)
theorem cX9_readVisit_k7 : dw_ok cX9_readVisit (ByteArray.mk cX9_readVisit_w7.toArray) 173 := dw_Sw (r := cX9_readVisit_r8) cX9_readVisit_s7
theorem cX9_readVisit_s9 : dw_S cX9_readVisit 222 cX9_readVisit_r9 := dw_Sn (w := cX9_readVisit_w8) (r := cX9_readVisit_r9) cX9_readVisit_s8 (by decide +kernel)
theorem cX9_readVisit_k8 : dw_ok cX9_readVisit (ByteArray.mk cX9_readVisit_w8.toArray) 197 := dw_Sw (r := cX9_readVisit_r9) cX9_readVisit_s8
theorem cX9_readVisit_k9 : dw_ok cX9_readVisit (ByteArray.mk cX9_readVisit_w9.toArray) 222 := dw_Sw (r := []) cX9_readVisit_s9
def cX9_take_w1 : List UInt8 := [0x1b, 0x1c, 0x7a, 0x91, 0x54, 0x2a, 0x59, 0xb4, 0x00, 0x16, 0x04, 0x60, 0xb5, 0x00, 0x16, 0x84, 0x02, 0xf8, 0xa7, 0xff, 0xd8, 0xb1]
def cX9_take_r1 : List UInt8 := cX9_take_w1 ++ []
def cX9_take_w0 : List UInt8 := [0x10, 0x18, 0x3d, 0x1c, 0x9b, 0x00, 0x2a, 0x2a, 0xb4, 0x00, 0x16, 0x11, 0x01, 0x90, 0xa2, 0x00, 0x20, 0x2a, 0xb4, 0x00, 0x09, 0x2a, 0xb4, 0x00, 0x16]
def cX9_take_r0 : List UInt8 := cX9_take_w0 ++ cX9_take_r1
theorem cX9_take_s0 : dw_S cX9_take 0 cX9_take_r0 := dw_S0 (by decide +kernel)
theorem cX9_take_s1 : dw_S cX9_take 25 cX9_take_r1 := dw_Sn (w := cX9_take_w0) (r := cX9_take_r1) cX9_take_s0 (by decide +kernel)
theorem cX9_take_k0 : dw_ok cX9_take (ByteArray.mk cX9_take_w0.toArray) 0 := dw_Sw (r := cX9_take_r1) cX9_take_s0
theorem cX9_take_k1 : dw_ok cX9_take (ByteArray.mk cX9_take_w1.toArray) 25 := dw_Sw (r := []) cX9_take_s1
