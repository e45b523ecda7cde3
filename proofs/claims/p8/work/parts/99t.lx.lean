def lawL : List UInt8 := [0xbb, 0x00, 0x08, 0x59, 0xb7, 0x00, 0x7f, 0x4c, 0xbb, 0x00, 0x80, 0x59, 0xb7, 0x00, 0x82, 0x4d, 0x04, 0xbc, 0x0b, 0x4e, 0x03, 0x36, 0x04, 0x15, 0x04, 0x2a, 0xbe, 0x10, 0x06, 0x64, 0xa3, 0x06, 0x96, 0x2a, 0x15, 0x04, 0x2e, 0x10, 0x3f, 0x7e, 0xaa, 0x00, 0x00, 0x00, 0x00, 0x00, 0x06, 0x86, 0x00, 0x00, 0x00, 0x00, 0x00, 0x00, 0x00, 0x26, 0x00, 0x00, 0x00, 0xac, 0x00, 0x00, 0x00, 0xf8, 0x00, 0x00, 0x01, 0x11, 0x00, 0x00, 0x01, 0x21, 0x00, 0x00, 0x01, 0x3d, 0x00, 0x00, 0x01, 0x56, 0x00, 0x00, 0x01, 0x6f, 0x00, 0x00, 0x01, 0xb3, 0x00, 0x00, 0x01, 0xe7, 0x00, 0x00, 0x02, 0x1b, 0x00, 0x00, 0x02, 0x40, 0x00, 0x00, 0x02, 0x5c, 0x00, 0x00, 0x02, 0x84, 0x00, 0x00, 0x02, 0xac, 0x00, 0x00, 0x02, 0xd4, 0x00, 0x00, 0x02, 0xfc, 0x00, 0x00, 0x03, 0x3c, 0x00, 0x00, 0x03, 0x64, 0x00, 0x00, 0x03, 0x80, 0x00, 0x00, 0x03, 0x9c, 0x00, 0x00, 0x03, 0xc4, 0x00, 0x00, 0x03, 0xe0, 0x00, 0x00, 0x03, 0xfc, 0x00, 0x00, 0x04, 0x24, 0x00, 0x00, 0x04, 0x4c, 0x00, 0x00, 0x04, 0x68, 0x00, 0x00, 0x04, 0x90, 0x00, 0x00, 0x04, 0xb8, 0x00, 0x00, 0x04, 0xe0, 0x00, 0x00, 0x05, 0x08, 0x00, 0x00, 0x05, 0x2d, 0x00, 0x00, 0x05, 0x49, 0x00, 0x00, 0x05, 0x71, 0x00, 0x00, 0x05, 0x8d, 0x00, 0x00, 0x05, 0xb5, 0x00, 0x00, 0x05, 0xe9, 0x00, 0x00, 0x06, 0x0e, 0x00, 0x00, 0x06, 0x2a, 0x00, 0x00, 0x06, 0x52, 0x2b, 0x2a, 0x15, 0x04, 0x04, 0x60, 0x2e, 0x2a, 0x15, 0x04, 0x05, 0x60, 0x2e, 0x2a, 0x15, 0x04, 0x06, 0x60, 0x2e, 0x2a, 0x15, 0x04, 0x07, 0x60, 0x2e, 0x2a, 0x15, 0x04, 0x08, 0x60, 0x2e, 0x2d, 0xb8, 0x00, 0x83, 0x36, 0x05, 0x2c, 0x2a, 0x15, 0x04, 0x04, 0x60, 0x2e, 0x2a, 0x15, 0x04, 0x05, 0x60, 0x2e, 0x2a, 0x15, 0x04, 0x06, 0x60, 0x2e, 0x2a, 0x15, 0x04, 0x07, 0x60, 0x2e, 0x2a, 0x15, 0x04, 0x08, 0x60, 0x2e, 0xb6, 0x00, 0x88, 0x36, 0x06, 0xa7, 0x05, 0x91, 0x2b, 0x2a, 0x15, 0x04, 0x04, 0x60, 0x2e, 0xb8, 0x00, 0x89, 0x36, 0x05, 0x2c, 0x2a, 0x15, 0x04, 0x04, 0x60, 0x2e, 0xb6, 0x00, 0x8c, 0xa7, 0x05, 0x78, 0x2b, 0x2d, 0xb8, 0x00, 0x8d, 0x36, 0x05, 0x2c, 0xb6, 0x00, 0x90, 0x36, 0x06, 0xa7, 0x05, 0x68, 0x2b, 0x2a, 0x15, 0x04, 0x04, 0x60, 0x2e, 0x2d, 0xb8, 0x00, 0x91, 0x36, 0x05, 0x2c, 0x2a, 0x15, 0x04, 0x04, 0x60, 0x2e, 0xb6, 0x00, 0x94, 0x36, 0x06, 0xa7, 0x05, 0x4c, 0x2b, 0x2a, 0x15, 0x04, 0x04, 0x60, 0x2e, 0xb6, 0x00, 0x95, 0x57, 0x2c, 0x2a, 0x15, 0x04, 0x04, 0x60, 0x2e, 0xb6, 0x00, 0x99, 0x57, 0xa7, 0x05, 0x33, 0x2b, 0x2a, 0x15, 0x04, 0x04, 0x60, 0x2e, 0xb6, 0x00, 0x9a, 0x57, 0x2c, 0x2a, 0x15, 0x04, 0x04, 0x60, 0x2e, 0xb6, 0x00, 0x9d, 0x57, 0xa7, 0x05, 0x1a, 0x2b, 0x2a, 0x15, 0x04, 0x04, 0x60, 0x2e, 0x2a, 0x15, 0x04, 0x05, 0x60, 0x2e, 0x2d, 0xb8, 0x00, 0x9e, 0x36, 0x05, 0x2c, 0x2a, 0x15, 0x04, 0x04, 0x60, 0x2e, 0x2a, 0x15, 0x04, 0x05, 0x60, 0x2e, 0xb6, 0x00, 0xa1, 0x36, 0x06, 0x2c, 0xb6, 0x00, 0xa2, 0x15, 0x05, 0x9f, 0x00, 0x05, 0x03, 0xac, 0x15, 0x05, 0x9a, 0x00, 0x0f, 0x2d, 0x03, 0x2f, 0x15, 0x06, 0x85, 0x94, 0x99, 0x00, 0x05, 0x03, 0xac, 0xa7, 0x04, 0xd6, 0x2b, 0x2a, 0x15, 0x04, 0x04, 0x60, 0x2e, 0x2a, 0x15, 0x04, 0x05, 0x60, 0x2e, 0x2a, 0x15, 0x04, 0x06, 0x60, 0x2e, 0x2d, 0xb8, 0x00, 0xa5, 0x36, 0x05, 0x2c, 0x2a, 0x15, 0x04, 0x04, 0x60, 0x2e, 0x2a, 0x15, 0x04, 0x05, 0x60, 0x2e, 0x2a, 0x15, 0x04, 0x06, 0x60, 0x2e, 0xb6, 0x00, 0xa8, 0x36, 0x06, 0xa7, 0x04, 0xa2, 0x2b, 0x2a, 0x15, 0x04, 0x04, 0x60, 0x2e, 0x2a, 0x15, 0x04, 0x05, 0x60, 0x2e, 0x2a, 0x15, 0x04, 0x06, 0x60, 0x2e, 0x2d, 0xb8, 0x00, 0xa9, 0x36, 0x05, 0x2c, 0x2a, 0x15, 0x04, 0x04, 0x60, 0x2e, 0x2a, 0x15, 0x04, 0x05, 0x60, 0x2e, 0x2a, 0x15, 0x04, 0x06, 0x60, 0x2e, 0xb6, 0x00, 0xab, 0x36, 0x06, 0xa7, 0x04, 0x6e, 0x2b, 0x2a, 0x15, 0x04, 0x04, 0x60, 0x2e, 0x2a, 0x15, 0x04, 0x05, 0x60, 0x2e, 0xb6, 0x00, 0xac, 0x57, 0x2c, 0x2a, 0x15, 0x04, 0x04, 0x60, 0x2e, 0x2a, 0x15, 0x04, 0x05, 0x60, 0x2e, 0xb6, 0x00, 0xb0, 0x57, 0xa7, 0x04, 0x49, 0x2b, 0x2a, 0x15, 0x04, 0x04, 0x60, 0x2e, 0x2d, 0xb8, 0x00, 0xb1, 0x36, 0x05, 0x2c, 0x2a, 0x15, 0x04, 0x04, 0x60, 0x2e, 0xb6, 0x00, 0xb3, 0x36, 0x06, 0xa7, 0x04, 0x2d, 0x2b, 0x2a, 0x15, 0x04, 0x04, 0x60, 0x2e, 0x2a, 0x15, 0x04, 0x05, 0x60, 0x2e, 0x2d, 0xb8, 0x00, 0xb4, 0x36, 0x05, 0x2c, 0x2a, 0x15, 0x04, 0x04, 0x60, 0x2e, 0x2a, 0x15, 0x04, 0x05, 0x60, 0x2e, 0xb6, 0x00, 0xb6, 0x36, 0x06, 0xa7, 0x04, 0x05, 0x2b, 0x2a, 0x15, 0x04, 0x04, 0x60, 0x2e, 0x2a, 0x15, 0x04, 0x05, 0x60, 0x2e, 0x2d, 0xb8, 0x00, 0xb7, 0x36, 0x05, 0x2c, 0x2a, 0x15, 0x04, 0x04, 0x60, 0x2e, 0x2a, 0x15, 0x04, 0x05, 0x60, 0x2e, 0xb6, 0x00, 0xb9, 0x36, 0x06, 0xa7, 0x03, 0xdd, 0x2b, 0x2a, 0x15, 0x04, 0x04, 0x60, 0x2e, 0x2a, 0x15, 0x04, 0x05, 0x60, 0x2e, 0x2d, 0xb8, 0x00, 0xba, 0x36, 0x05, 0x2c, 0x2a, 0x15, 0x04, 0x04, 0x60, 0x2e, 0x2a, 0x15, 0x04, 0x05, 0x60, 0x2e, 0xb6, 0x00, 0xbc, 0x36, 0x06, 0xa7, 0x03, 0xb5, 0x2b, 0x2a, 0x15, 0x04, 0x04, 0x60, 0x2e, 0x2a, 0x15, 0x04, 0x05, 0x60, 0x2e, 0x2d, 0xb8, 0x00, 0xbd, 0x36, 0x05, 0x2c, 0x2a, 0x15, 0x04, 0x04, 0x60, 0x2e, 0x2a, 0x15, 0x04, 0x05, 0x60, 0x2e, 0xb6, 0x00, 0xbf, 0x36, 0x06, 0xa7, 0x03, 0x8d, 0x2b, 0x2a, 0x15, 0x04, 0x04, 0x60, 0x2e, 0x2a, 0x15, 0x04, 0x05, 0x60, 0x2e, 0x2a, 0x15, 0x04, 0x06, 0x60, 0x2e, 0x2a, 0x15, 0x04, 0x07, 0x60, 0x2e, 0x2d, 0xb8, 0x00, 0xc0, 0x36, 0x05, 0x2c, 0x2a, 0x15, 0x04, 0x04, 0x60, 0x2e, 0x2a, 0x15, 0x04, 0x05, 0x60, 0x2e, 0x2a, 0x15, 0x04, 0x06, 0x60, 0x2e, 0x2a, 0x15, 0x04, 0x07, 0x60, 0x2e, 0xb6, 0x00, 0xc3, 0x36, 0x06, 0xa7, 0x03, 0x4d, 0x2b, 0x2a, 0x15, 0x04, 0x04, 0x60, 0x2e, 0x2a, 0x15, 0x04, 0x05, 0x60, 0x2e, 0x2d, 0xb8, 0x00, 0xc4, 0x36, 0x05, 0x2c, 0x2a, 0x15, 0x04, 0x04, 0x60, 0x2e, 0x2a, 0x15, 0x04, 0x05, 0x60, 0x2e, 0xb6, 0x00, 0xc6, 0x36, 0x06, 0xa7, 0x03, 0x25, 0x2b, 0x2a, 0x15, 0x04, 0x04, 0x60, 0x2e, 0x2d, 0xb8, 0x00, 0xc7, 0x36, 0x05, 0x2c, 0x2a, 0x15, 0x04, 0x04, 0x60, 0x2e, 0xb6, 0x00, 0xc9, 0x36, 0x06, 0xa7, 0x03, 0x09, 0x2b, 0x2a, 0x15, 0x04, 0x04, 0x60, 0x2e, 0x2d, 0xb8, 0x00, 0xca, 0x36, 0x05, 0x2c, 0x2a, 0x15, 0x04, 0x04, 0x60, 0x2e, 0xb6, 0x00, 0xcc, 0x36, 0x06, 0xa7, 0x02, 0xed, 0x2b, 0x2a, 0x15, 0x04, 0x04, 0x60, 0x2e, 0x2a, 0x15, 0x04, 0x05, 0x60, 0x2e, 0x2d, 0xb8, 0x00, 0xcd, 0x36, 0x05, 0x2c, 0x2a, 0x15, 0x04, 0x04, 0x60, 0x2e, 0x2a, 0x15, 0x04, 0x05, 0x60, 0x2e, 0xb6, 0x00, 0xcf, 0x36, 0x06, 0xa7, 0x02, 0xc5, 0x2b, 0x2a, 0x15, 0x04, 0x04, 0x60, 0x2e, 0x2d, 0xb8, 0x00, 0xd0, 0x36, 0x05, 0x2c, 0x2a, 0x15, 0x04, 0x04, 0x60, 0x2e, 0xb6, 0x00, 0xd2, 0x36, 0x06, 0xa7, 0x02, 0xa9, 0x2b, 0x2a, 0x15, 0x04, 0x04, 0x60, 0x2e, 0x2d, 0xb8, 0x00, 0xd3, 0x36, 0x05, 0x2c, 0x2a, 0x15, 0x04, 0x04, 0x60, 0x2e, 0xb6, 0x00, 0xd5, 0x36, 0x06, 0xa7, 0x02, 0x8d, 0x2b, 0x2a, 0x15, 0x04, 0x04, 0x60, 0x2e, 0x2a, 0x15, 0x04, 0x05, 0x60, 0x2e, 0x2d, 0xb8, 0x00, 0xd6, 0x36, 0x05, 0x2c, 0x2a, 0x15, 0x04, 0x04, 0x60, 0x2e, 0x2a, 0x15, 0x04, 0x05, 0x60, 0x2e, 0xb6, 0x00, 0xd8, 0x36, 0x06, 0xa7, 0x02, 0x65, 0x2b, 0x2a, 0x15, 0x04, 0x04, 0x60, 0x2e, 0x2a, 0x15, 0x04, 0x05, 0x60, 0x2e, 0x2d, 0xb8, 0x00, 0xd9, 0x36, 0x05, 0x2c, 0x2a, 0x15, 0x04, 0x04, 0x60, 0x2e, 0x2a, 0x15, 0x04, 0x05, 0x60, 0x2e, 0xb6, 0x00, 0xdb, 0x36, 0x06, 0xa7, 0x02, 0x3d, 0x2b, 0x2a, 0x15, 0x04, 0x04, 0x60, 0x2e, 0x2d, 0xb8, 0x00, 0xdc, 0x36, 0x05, 0x2c, 0x2a, 0x15, 0x04, 0x04, 0x60, 0x2e, 0xb6, 0x00, 0xde, 0x36, 0x06, 0xa7, 0x02, 0x21, 0x2b, 0x2a, 0x15, 0x04, 0x04, 0x60, 0x2e, 0x2a, 0x15, 0x04, 0x05, 0x60, 0x2e, 0x2d, 0xb8, 0x00, 0xdf, 0x36, 0x05, 0x2c, 0x2a, 0x15, 0x04, 0x04, 0x60, 0x2e, 0x2a, 0x15, 0x04, 0x05, 0x60, 0x2e, 0xb6, 0x00, 0xe1, 0x36, 0x06, 0xa7, 0x01, 0xf9, 0x2b, 0x2a, 0x15, 0x04, 0x04, 0x60, 0x2e, 0x2a, 0x15, 0x04, 0x05, 0x60, 0x2e, 0x2d, 0xb8, 0x00, 0xe2, 0x36, 0x05, 0x2c, 0x2a, 0x15, 0x04, 0x04, 0x60, 0x2e, 0x2a, 0x15, 0x04, 0x05, 0x60, 0x2e, 0xb6, 0x00, 0xe4, 0x37, 0x06, 0xa7, 0x01, 0xd1, 0x2b, 0x2a, 0x15, 0x04, 0x04, 0x60, 0x2e, 0x2a, 0x15, 0x04, 0x05, 0x60, 0x2e, 0x2d, 0xb8, 0x00, 0xe5, 0x36, 0x05, 0x2c, 0x2a, 0x15, 0x04, 0x04, 0x60, 0x2e, 0x2a, 0x15, 0x04, 0x05, 0x60, 0x2e, 0xb6, 0x00, 0xe7, 0x36, 0x06, 0xa7, 0x01, 0xa9, 0x2b, 0x2a, 0x15, 0x04, 0x04, 0x60, 0x2e, 0x2a, 0x15, 0x04, 0x05, 0x60, 0x2e, 0x2d, 0xb8, 0x00, 0xe8, 0x36, 0x05, 0x2c, 0x2a, 0x15, 0x04, 0x04, 0x60, 0x2e, 0x2a, 0x15, 0x04, 0x05, 0x60, 0x2e, 0xb6, 0x00, 0xea, 0x36, 0x06, 0xa7, 0x01, 0x81, 0x2b, 0x2a, 0x15, 0x04, 0x04, 0x60, 0x2e, 0x2a, 0x15, 0x04, 0x05, 0x60, 0x2e, 0xb6, 0x00, 0xeb, 0x57, 0x2c, 0x2a, 0x15, 0x04, 0x04, 0x60, 0x2e, 0x2a, 0x15, 0x04, 0x05, 0x60, 0x2e, 0xb6, 0x00, 0xee, 0x57, 0xa7, 0x01, 0x5c, 0x2b, 0x2a, 0x15, 0x04, 0x04, 0x60, 0x2e, 0x2d, 0xb8, 0x00, 0xef, 0x36, 0x05, 0x2c, 0x2a, 0x15, 0x04, 0x04, 0x60, 0x2e, 0xb6, 0x00, 0xf1, 0x36, 0x06, 0xa7, 0x01, 0x40, 0x2b, 0x2a, 0x15, 0x04, 0x04, 0x60, 0x2e, 0x2a, 0x15, 0x04, 0x05, 0x60, 0x2e, 0x2d, 0xb8, 0x00, 0xf2, 0x36, 0x05, 0x2c, 0x2a, 0x15, 0x04, 0x04, 0x60, 0x2e, 0x2a, 0x15, 0x04, 0x05, 0x60, 0x2e, 0xb6, 0x00, 0xf4, 0x36, 0x06, 0xa7, 0x01, 0x18, 0x2b, 0x2a, 0x15, 0x04, 0x04, 0x60, 0x2e, 0x2d, 0xb8, 0x00, 0xf5, 0x36, 0x05, 0x2c, 0x2a, 0x15, 0x04, 0x04, 0x60, 0x2e, 0xb6, 0x00, 0xf7, 0x36, 0x06, 0xa7, 0x00, 0xfc, 0x2b, 0x2a, 0x15, 0x04, 0x04, 0x60, 0x2e, 0x2a, 0x15, 0x04, 0x05, 0x60, 0x2e, 0x2d, 0xb8, 0x00, 0xf8, 0x36, 0x05, 0x2c, 0x2a, 0x15, 0x04, 0x04, 0x60, 0x2e, 0x2a, 0x15, 0x04, 0x05, 0x60, 0x2e, 0xb6, 0x00, 0xfa, 0x36, 0x06, 0xa7, 0x00, 0xd4, 0x2b, 0x2a, 0x15, 0x04, 0x04, 0x60, 0x2e, 0x2a, 0x15, 0x04, 0x05, 0x60, 0x2e, 0x2a, 0x15, 0x04, 0x06, 0x60, 0x2e, 0x2d, 0xb8, 0x00, 0xfb, 0x36, 0x05, 0x2c, 0x2a, 0x15, 0x04, 0x04, 0x60, 0x2e, 0x2a, 0x15, 0x04, 0x05, 0x60, 0x2e, 0x2a, 0x15, 0x04, 0x06, 0x60, 0x2e, 0xb6, 0x00, 0xfd, 0x36, 0x06, 0xa7, 0x00, 0xa0, 0x2b, 0x2a, 0x15, 0x04, 0x04, 0x60, 0x2e, 0x2a, 0x15, 0x04, 0x05, 0x60, 0x2e, 0xb6, 0x00, 0xfe, 0x57, 0x2c, 0x2a, 0x15, 0x04, 0x04, 0x60, 0x2e, 0x2a, 0x15, 0x04, 0x05, 0x60, 0x2e, 0xb6, 0x01, 0x01, 0x57, 0xa7, 0x00, 0x7b, 0x2b, 0x2a, 0x15, 0x04, 0x04, 0x60, 0x2e, 0x2d, 0xb8, 0x01, 0x02, 0x36, 0x05, 0x2c, 0x2a, 0x15, 0x04, 0x04, 0x60, 0x2e, 0xb6, 0x01, 0x04, 0x36, 0x06, 0xa7, 0x00, 0x5f, 0x2b, 0x2a, 0x15, 0x04, 0x04, 0x60, 0x2e, 0x2a, 0x15, 0x04, 0x05, 0x60, 0x2e, 0x2d, 0xb8, 0x01, 0x05, 0x36, 0x05, 0x2c, 0x2a, 0x15, 0x04, 0x04, 0x60, 0x2e, 0x2a, 0x15, 0x04, 0x05, 0x60, 0x2e, 0xb6, 0x01, 0x07, 0x36, 0x06, 0xa7, 0x00, 0x37, 0x2b, 0x2a, 0x15, 0x04, 0x04, 0x60, 0x2e, 0x2a, 0x15, 0x04, 0x05, 0x60, 0x2e, 0x2a, 0x15, 0x04, 0x06, 0x60, 0x2e, 0x2d, 0xb8, 0x01, 0x08, 0x36, 0x05, 0x2c, 0x2a, 0x15, 0x04, 0x04, 0x60, 0x2e, 0x2a, 0x15, 0x04, 0x05, 0x60, 0x2e, 0x2a, 0x15, 0x04, 0x06, 0x60, 0x2e, 0xb6, 0x01, 0x0a, 0x36, 0x06, 0xa7, 0x00, 0x03, 0x84, 0x04, 0x06, 0xa7, 0xf9, 0x66, 0x04, 0xac]
theorem cl_eqL : cL_law = ByteArray.mk lawL.toArray := rfl
def wl_1 : List UInt8 := [0x00, 0x00, 0x03, 0x3c, 0x00, 0x00, 0x03, 0x64, 0x00, 0x00, 0x03, 0x80, 0x00, 0x00, 0x03, 0x9c, 0x00, 0x00, 0x03, 0xc4, 0x00, 0x00, 0x03, 0xe0, 0x00, 0x00, 0x03, 0xfc, 0x00, 0x00, 0x04, 0x24, 0x00, 0x00, 0x04, 0x4c, 0x00, 0x00, 0x04, 0x68, 0x00, 0x00, 0x04, 0x90, 0x00, 0x00, 0x04, 0xb8, 0x00, 0x00, 0x04, 0xe0, 0x00, 0x00, 0x05, 0x08, 0x00, 0x00, 0x05, 0x2d, 0x00, 0x00, 0x05, 0x49, 0x00, 0x00, 0x05, 0x71, 0x00, 0x00, 0x05, 0x8d, 0x00, 0x00, 0x05, 0xb5, 0x00, 0x00, 0x05, 0xe9, 0x00, 0x00, 0x06, 0x0e, 0x00, 0x00, 0x06, 0x2a, 0x00, 0x00, 0x06, 0x52, 0x2b, 0x2a, 0x15, 0x04, 0x04, 0x60, 0x2e, 0x2a, 0x15, 0x04, 0x05, 0x60, 0x2e, 0x2a, 0x15, 0x04, 0x06, 0x60, 0x2e, 0x2a, 0x15, 0x04, 0x07, 0x60, 0x2e, 0x2a, 0x15, 0x04, 0x08, 0x60, 0x2e, 0x2d, 0xb8, 0x00, 0x83, 0x36]
theorem dwl_1 : dw_ok cL_law (ByteArray.mk wl_1.toArray) 120 := by
  rw [cl_eqL]
  exact dw_win (by decide +kernel) (by decide +kernel)
def wl_2 : List UInt8 := [0x08, 0x60, 0x2e, 0x2d, 0xb8, 0x00, 0x83, 0x36, 0x05, 0x2c, 0x2a, 0x15, 0x04, 0x04, 0x60, 0x2e, 0x2a, 0x15, 0x04, 0x05, 0x60, 0x2e, 0x2a, 0x15, 0x04, 0x06, 0x60, 0x2e, 0x2a, 0x15, 0x04, 0x07, 0x60, 0x2e, 0x2a, 0x15, 0x04, 0x08, 0x60, 0x2e, 0xb6, 0x00, 0x88, 0x36, 0x06, 0xa7, 0x05, 0x91, 0x2b, 0x2a, 0x15, 0x04, 0x04, 0x60, 0x2e, 0xb8, 0x00, 0x89, 0x36, 0x05, 0x2c, 0x2a, 0x15, 0x04, 0x04, 0x60, 0x2e, 0xb6, 0x00, 0x8c, 0xa7, 0x05, 0x78, 0x2b, 0x2d, 0xb8, 0x00, 0x8d, 0x36, 0x05, 0x2c, 0xb6, 0x00, 0x90, 0x36, 0x06, 0xa7, 0x05, 0x68, 0x2b, 0x2a, 0x15, 0x04, 0x04, 0x60, 0x2e, 0x2d, 0xb8, 0x00, 0x91, 0x36, 0x05, 0x2c, 0x2a, 0x15, 0x04, 0x04, 0x60, 0x2e, 0xb6, 0x00, 0x94, 0x36, 0x06, 0xa7, 0x05, 0x4c, 0x2b, 0x2a, 0x15, 0x04, 0x04, 0x60, 0x2e, 0xb6, 0x00, 0x95, 0x57]
theorem dwl_2 : dw_ok cL_law (ByteArray.mk wl_2.toArray) 240 := by
  rw [cl_eqL]
  exact dw_win (by decide +kernel) (by decide +kernel)
def wl_3 : List UInt8 := [0x04, 0x04, 0x60, 0x2e, 0xb6, 0x00, 0x95, 0x57, 0x2c, 0x2a, 0x15, 0x04, 0x04, 0x60, 0x2e, 0xb6, 0x00, 0x99, 0x57, 0xa7, 0x05, 0x33, 0x2b, 0x2a, 0x15, 0x04, 0x04, 0x60, 0x2e, 0xb6, 0x00, 0x9a, 0x57, 0x2c, 0x2a, 0x15, 0x04, 0x04, 0x60, 0x2e, 0xb6, 0x00, 0x9d, 0x57, 0xa7, 0x05, 0x1a, 0x2b, 0x2a, 0x15, 0x04, 0x04, 0x60, 0x2e, 0x2a, 0x15, 0x04, 0x05, 0x60, 0x2e, 0x2d, 0xb8, 0x00, 0x9e, 0x36, 0x05, 0x2c, 0x2a, 0x15, 0x04, 0x04, 0x60, 0x2e, 0x2a, 0x15, 0x04, 0x05, 0x60, 0x2e, 0xb6, 0x00, 0xa1, 0x36, 0x06, 0x2c, 0xb6, 0x00, 0xa2, 0x15, 0x05, 0x9f, 0x00, 0x05, 0x03, 0xac, 0x15, 0x05, 0x9a, 0x00, 0x0f, 0x2d, 0x03, 0x2f, 0x15, 0x06, 0x85, 0x94, 0x99, 0x00, 0x05, 0x03, 0xac, 0xa7, 0x04, 0xd6, 0x2b, 0x2a, 0x15, 0x04, 0x04, 0x60, 0x2e, 0x2a, 0x15, 0x04, 0x05, 0x60, 0x2e]
theorem dwl_3 : dw_ok cL_law (ByteArray.mk wl_3.toArray) 360 := by
  rw [cl_eqL]
  exact dw_win (by decide +kernel) (by decide +kernel)
def wl_4 : List UInt8 := [0x60, 0x2e, 0x2a, 0x15, 0x04, 0x05, 0x60, 0x2e, 0x2a, 0x15, 0x04, 0x06, 0x60, 0x2e, 0x2d, 0xb8, 0x00, 0xa5, 0x36, 0x05, 0x2c, 0x2a, 0x15, 0x04, 0x04, 0x60, 0x2e, 0x2a, 0x15, 0x04, 0x05, 0x60, 0x2e, 0x2a, 0x15, 0x04, 0x06, 0x60, 0x2e, 0xb6, 0x00, 0xa8, 0x36, 0x06, 0xa7, 0x04, 0xa2, 0x2b, 0x2a, 0x15, 0x04, 0x04, 0x60, 0x2e, 0x2a, 0x15, 0x04, 0x05, 0x60, 0x2e, 0x2a, 0x15, 0x04, 0x06, 0x60, 0x2e, 0x2d, 0xb8, 0x00, 0xa9, 0x36, 0x05, 0x2c, 0x2a, 0x15, 0x04, 0x04, 0x60, 0x2e, 0x2a, 0x15, 0x04, 0x05, 0x60, 0x2e, 0x2a, 0x15, 0x04, 0x06, 0x60, 0x2e, 0xb6, 0x00, 0xab, 0x36, 0x06, 0xa7, 0x04, 0x6e, 0x2b, 0x2a, 0x15, 0x04, 0x04, 0x60, 0x2e, 0x2a, 0x15, 0x04, 0x05, 0x60, 0x2e, 0xb6, 0x00, 0xac, 0x57, 0x2c, 0x2a, 0x15, 0x04, 0x04, 0x60, 0x2e, 0x2a, 0x15, 0x04, 0x05, 0x60]
theorem dwl_4 : dw_ok cL_law (ByteArray.mk wl_4.toArray) 480 := by
  rw [cl_eqL]
  exact dw_win (by decide +kernel) (by decide +kernel)
def wl_5 : List UInt8 := [0x04, 0x60, 0x2e, 0x2a, 0x15, 0x04, 0x05, 0x60, 0x2e, 0xb6, 0x00, 0xb0, 0x57, 0xa7, 0x04, 0x49, 0x2b, 0x2a, 0x15, 0x04, 0x04, 0x60, 0x2e, 0x2d, 0xb8, 0x00, 0xb1, 0x36, 0x05, 0x2c, 0x2a, 0x15, 0x04, 0x04, 0x60, 0x2e, 0xb6, 0x00, 0xb3, 0x36, 0x06, 0xa7, 0x04, 0x2d, 0x2b, 0x2a, 0x15, 0x04, 0x04, 0x60, 0x2e, 0x2a, 0x15, 0x04, 0x05, 0x60, 0x2e, 0x2d, 0xb8, 0x00, 0xb4, 0x36, 0x05, 0x2c, 0x2a, 0x15, 0x04, 0x04, 0x60, 0x2e, 0x2a, 0x15, 0x04, 0x05, 0x60, 0x2e, 0xb6, 0x00, 0xb6, 0x36, 0x06, 0xa7, 0x04, 0x05, 0x2b, 0x2a, 0x15, 0x04, 0x04, 0x60, 0x2e, 0x2a, 0x15, 0x04, 0x05, 0x60, 0x2e, 0x2d, 0xb8, 0x00, 0xb7, 0x36, 0x05, 0x2c, 0x2a, 0x15, 0x04, 0x04, 0x60, 0x2e, 0x2a, 0x15, 0x04, 0x05, 0x60, 0x2e, 0xb6, 0x00, 0xb9, 0x36, 0x06, 0xa7, 0x03, 0xdd, 0x2b, 0x2a, 0x15, 0x04]
theorem dwl_5 : dw_ok cL_law (ByteArray.mk wl_5.toArray) 600 := by
  rw [cl_eqL]
  exact dw_win (by decide +kernel) (by decide +kernel)
def wl_6 : List UInt8 := [0x06, 0xa7, 0x03, 0xdd, 0x2b, 0x2a, 0x15, 0x04, 0x04, 0x60, 0x2e, 0x2a, 0x15, 0x04, 0x05, 0x60, 0x2e, 0x2d, 0xb8, 0x00, 0xba, 0x36, 0x05, 0x2c, 0x2a, 0x15, 0x04, 0x04, 0x60, 0x2e, 0x2a, 0x15, 0x04, 0x05, 0x60, 0x2e, 0xb6, 0x00, 0xbc, 0x36, 0x06, 0xa7, 0x03, 0xb5, 0x2b, 0x2a, 0x15, 0x04, 0x04, 0x60, 0x2e, 0x2a, 0x15, 0x04, 0x05, 0x60, 0x2e, 0x2d, 0xb8, 0x00, 0xbd, 0x36, 0x05, 0x2c, 0x2a, 0x15, 0x04, 0x04, 0x60, 0x2e, 0x2a, 0x15, 0x04, 0x05, 0x60, 0x2e, 0xb6, 0x00, 0xbf, 0x36, 0x06, 0xa7, 0x03, 0x8d, 0x2b, 0x2a, 0x15, 0x04, 0x04, 0x60, 0x2e, 0x2a, 0x15, 0x04, 0x05, 0x60, 0x2e, 0x2a, 0x15, 0x04, 0x06, 0x60, 0x2e, 0x2a, 0x15, 0x04, 0x07, 0x60, 0x2e, 0x2d, 0xb8, 0x00, 0xc0, 0x36, 0x05, 0x2c, 0x2a, 0x15, 0x04, 0x04, 0x60, 0x2e, 0x2a, 0x15, 0x04, 0x05, 0x60, 0x2e]
theorem dwl_6 : dw_ok cL_law (ByteArray.mk wl_6.toArray) 720 := by
  rw [cl_eqL]
  exact dw_win (by decide +kernel) (by decide +kernel)
def wl_7 : List UInt8 := [0x60, 0x2e, 0x2a, 0x15, 0x04, 0x05, 0x60, 0x2e, 0x2a, 0x15, 0x04, 0x06, 0x60, 0x2e, 0x2a, 0x15, 0x04, 0x07, 0x60, 0x2e, 0xb6, 0x00, 0xc3, 0x36, 0x06, 0xa7, 0x03, 0x4d, 0x2b, 0x2a, 0x15, 0x04, 0x04, 0x60, 0x2e, 0x2a, 0x15, 0x04, 0x05, 0x60, 0x2e, 0x2d, 0xb8, 0x00, 0xc4, 0x36, 0x05, 0x2c, 0x2a, 0x15, 0x04, 0x04, 0x60, 0x2e, 0x2a, 0x15, 0x04, 0x05, 0x60, 0x2e, 0xb6, 0x00, 0xc6, 0x36, 0x06, 0xa7, 0x03, 0x25, 0x2b, 0x2a, 0x15, 0x04, 0x04, 0x60, 0x2e, 0x2d, 0xb8, 0x00, 0xc7, 0x36, 0x05, 0x2c, 0x2a, 0x15, 0x04, 0x04, 0x60, 0x2e, 0xb6, 0x00, 0xc9, 0x36, 0x06, 0xa7, 0x03, 0x09, 0x2b, 0x2a, 0x15, 0x04, 0x04, 0x60, 0x2e, 0x2d, 0xb8, 0x00, 0xca, 0x36, 0x05, 0x2c, 0x2a, 0x15, 0x04, 0x04, 0x60, 0x2e, 0xb6, 0x00, 0xcc, 0x36, 0x06, 0xa7, 0x02, 0xed, 0x2b, 0x2a, 0x15, 0x04]
theorem dwl_7 : dw_ok cL_law (ByteArray.mk wl_7.toArray) 840 := by
  rw [cl_eqL]
  exact dw_win (by decide +kernel) (by decide +kernel)
def wl_8 : List UInt8 := [0x06, 0xa7, 0x02, 0xed, 0x2b, 0x2a, 0x15, 0x04, 0x04, 0x60, 0x2e, 0x2a, 0x15, 0x04, 0x05, 0x60, 0x2e, 0x2d, 0xb8, 0x00, 0xcd, 0x36, 0x05, 0x2c, 0x2a, 0x15, 0x04, 0x04, 0x60, 0x2e, 0x2a, 0x15, 0x04, 0x05, 0x60, 0x2e, 0xb6, 0x00, 0xcf, 0x36, 0x06, 0xa7, 0x02, 0xc5, 0x2b, 0x2a, 0x15, 0x04, 0x04, 0x60, 0x2e, 0x2d, 0xb8, 0x00, 0xd0, 0x36, 0x05, 0x2c, 0x2a, 0x15, 0x04, 0x04, 0x60, 0x2e, 0xb6, 0x00, 0xd2, 0x36, 0x06, 0xa7, 0x02, 0xa9, 0x2b, 0x2a, 0x15, 0x04, 0x04, 0x60, 0x2e, 0x2d, 0xb8, 0x00, 0xd3, 0x36, 0x05, 0x2c, 0x2a, 0x15, 0x04, 0x04, 0x60, 0x2e, 0xb6, 0x00, 0xd5, 0x36, 0x06, 0xa7, 0x02, 0x8d, 0x2b, 0x2a, 0x15, 0x04, 0x04, 0x60, 0x2e, 0x2a, 0x15, 0x04, 0x05, 0x60, 0x2e, 0x2d, 0xb8, 0x00, 0xd6, 0x36, 0x05, 0x2c, 0x2a, 0x15, 0x04, 0x04, 0x60, 0x2e, 0x2a, 0x15]
theorem dwl_8 : dw_ok cL_law (ByteArray.mk wl_8.toArray) 960 := by
  rw [cl_eqL]
  exact dw_win (by decide +kernel) (by decide +kernel)
def wl_9 : List UInt8 := [0x2a, 0x15, 0x04, 0x04, 0x60, 0x2e, 0x2a, 0x15, 0x04, 0x05, 0x60, 0x2e, 0xb6, 0x00, 0xd8, 0x36, 0x06, 0xa7, 0x02, 0x65, 0x2b, 0x2a, 0x15, 0x04, 0x04, 0x60, 0x2e, 0x2a, 0x15, 0x04, 0x05, 0x60, 0x2e, 0x2d, 0xb8, 0x00, 0xd9, 0x36, 0x05, 0x2c, 0x2a, 0x15, 0x04, 0x04, 0x60, 0x2e, 0x2a, 0x15, 0x04, 0x05, 0x60, 0x2e, 0xb6, 0x00, 0xdb, 0x36, 0x06, 0xa7, 0x02, 0x3d, 0x2b, 0x2a, 0x15, 0x04, 0x04, 0x60, 0x2e, 0x2d, 0xb8, 0x00, 0xdc, 0x36, 0x05, 0x2c, 0x2a, 0x15, 0x04, 0x04, 0x60, 0x2e, 0xb6, 0x00, 0xde, 0x36, 0x06, 0xa7, 0x02, 0x21, 0x2b, 0x2a, 0x15, 0x04, 0x04, 0x60, 0x2e, 0x2a, 0x15, 0x04, 0x05, 0x60, 0x2e, 0x2d, 0xb8, 0x00, 0xdf, 0x36, 0x05, 0x2c, 0x2a, 0x15, 0x04, 0x04, 0x60, 0x2e, 0x2a, 0x15, 0x04, 0x05, 0x60, 0x2e, 0xb6, 0x00, 0xe1, 0x36, 0x06, 0xa7, 0x01, 0xf9]
theorem dwl_9 : dw_ok cL_law (ByteArray.mk wl_9.toArray) 1080 := by
  rw [cl_eqL]
  exact dw_win (by decide +kernel) (by decide +kernel)
def wl_10 : List UInt8 := [0xb6, 0x00, 0xe1, 0x36, 0x06, 0xa7, 0x01, 0xf9, 0x2b, 0x2a, 0x15, 0x04, 0x04, 0x60, 0x2e, 0x2a, 0x15, 0x04, 0x05, 0x60, 0x2e, 0x2d, 0xb8, 0x00, 0xe2, 0x36, 0x05, 0x2c, 0x2a, 0x15, 0x04, 0x04, 0x60, 0x2e, 0x2a, 0x15, 0x04, 0x05, 0x60, 0x2e, 0xb6, 0x00, 0xe4, 0x37, 0x06, 0xa7, 0x01, 0xd1, 0x2b, 0x2a, 0x15, 0x04, 0x04, 0x60, 0x2e, 0x2a, 0x15, 0x04, 0x05, 0x60, 0x2e, 0x2d, 0xb8, 0x00, 0xe5, 0x36, 0x05, 0x2c, 0x2a, 0x15, 0x04, 0x04, 0x60, 0x2e, 0x2a, 0x15, 0x04, 0x05, 0x60, 0x2e, 0xb6, 0x00, 0xe7, 0x36, 0x06, 0xa7, 0x01, 0xa9, 0x2b, 0x2a, 0x15, 0x04, 0x04, 0x60, 0x2e, 0x2a, 0x15, 0x04, 0x05, 0x60, 0x2e, 0x2d, 0xb8, 0x00, 0xe8, 0x36, 0x05, 0x2c, 0x2a, 0x15, 0x04, 0x04, 0x60, 0x2e, 0x2a, 0x15, 0x04, 0x05, 0x60, 0x2e, 0xb6, 0x00, 0xea, 0x36, 0x06, 0xa7, 0x01, 0x81]
theorem dwl_10 : dw_ok cL_law (ByteArray.mk wl_10.toArray) 1200 := by
  rw [cl_eqL]
  exact dw_win (by decide +kernel) (by decide +kernel)
def wl_11 : List UInt8 := [0xb6, 0x00, 0xea, 0x36, 0x06, 0xa7, 0x01, 0x81, 0x2b, 0x2a, 0x15, 0x04, 0x04, 0x60, 0x2e, 0x2a, 0x15, 0x04, 0x05, 0x60, 0x2e, 0xb6, 0x00, 0xeb, 0x57, 0x2c, 0x2a, 0x15, 0x04, 0x04, 0x60, 0x2e, 0x2a, 0x15, 0x04, 0x05, 0x60, 0x2e, 0xb6, 0x00, 0xee, 0x57, 0xa7, 0x01, 0x5c, 0x2b, 0x2a, 0x15, 0x04, 0x04, 0x60, 0x2e, 0x2d, 0xb8, 0x00, 0xef, 0x36, 0x05, 0x2c, 0x2a, 0x15, 0x04, 0x04, 0x60, 0x2e, 0xb6, 0x00, 0xf1, 0x36, 0x06, 0xa7, 0x01, 0x40, 0x2b, 0x2a, 0x15, 0x04, 0x04, 0x60, 0x2e, 0x2a, 0x15, 0x04, 0x05, 0x60, 0x2e, 0x2d, 0xb8, 0x00, 0xf2, 0x36, 0x05, 0x2c, 0x2a, 0x15, 0x04, 0x04, 0x60, 0x2e, 0x2a, 0x15, 0x04, 0x05, 0x60, 0x2e, 0xb6, 0x00, 0xf4, 0x36, 0x06, 0xa7, 0x01, 0x18, 0x2b, 0x2a, 0x15, 0x04, 0x04, 0x60, 0x2e, 0x2d, 0xb8, 0x00, 0xf5, 0x36, 0x05, 0x2c, 0x2a]
theorem dwl_11 : dw_ok cL_law (ByteArray.mk wl_11.toArray) 1320 := by
  rw [cl_eqL]
  exact dw_win (by decide +kernel) (by decide +kernel)
def wl_12 : List UInt8 := [0x2d, 0xb8, 0x00, 0xf5, 0x36, 0x05, 0x2c, 0x2a, 0x15, 0x04, 0x04, 0x60, 0x2e, 0xb6, 0x00, 0xf7, 0x36, 0x06, 0xa7, 0x00, 0xfc, 0x2b, 0x2a, 0x15, 0x04, 0x04, 0x60, 0x2e, 0x2a, 0x15, 0x04, 0x05, 0x60, 0x2e, 0x2d, 0xb8, 0x00, 0xf8, 0x36, 0x05, 0x2c, 0x2a, 0x15, 0x04, 0x04, 0x60, 0x2e, 0x2a, 0x15, 0x04, 0x05, 0x60, 0x2e, 0xb6, 0x00, 0xfa, 0x36, 0x06, 0xa7, 0x00, 0xd4, 0x2b, 0x2a, 0x15, 0x04, 0x04, 0x60, 0x2e, 0x2a, 0x15, 0x04, 0x05, 0x60, 0x2e, 0x2a, 0x15, 0x04, 0x06, 0x60, 0x2e, 0x2d, 0xb8, 0x00, 0xfb, 0x36, 0x05, 0x2c, 0x2a, 0x15, 0x04, 0x04, 0x60, 0x2e, 0x2a, 0x15, 0x04, 0x05, 0x60, 0x2e, 0x2a, 0x15, 0x04, 0x06, 0x60, 0x2e, 0xb6, 0x00, 0xfd, 0x36, 0x06, 0xa7, 0x00, 0xa0, 0x2b, 0x2a, 0x15, 0x04, 0x04, 0x60, 0x2e, 0x2a, 0x15, 0x04, 0x05, 0x60, 0x2e, 0xb6, 0x00]
theorem dwl_12 : dw_ok cL_law (ByteArray.mk wl_12.toArray) 1440 := by
  rw [cl_eqL]
  exact dw_win (by decide +kernel) (by decide +kernel)
def wl_13 : List UInt8 := [0x2a, 0x15, 0x04, 0x05, 0x60, 0x2e, 0xb6, 0x00, 0xfe, 0x57, 0x2c, 0x2a, 0x15, 0x04, 0x04, 0x60, 0x2e, 0x2a, 0x15, 0x04, 0x05, 0x60, 0x2e, 0xb6, 0x01, 0x01, 0x57, 0xa7, 0x00, 0x7b, 0x2b, 0x2a, 0x15, 0x04, 0x04, 0x60, 0x2e, 0x2d, 0xb8, 0x01, 0x02, 0x36, 0x05, 0x2c, 0x2a, 0x15, 0x04, 0x04, 0x60, 0x2e, 0xb6, 0x01, 0x04, 0x36, 0x06, 0xa7, 0x00, 0x5f, 0x2b, 0x2a, 0x15, 0x04, 0x04, 0x60, 0x2e, 0x2a, 0x15, 0x04, 0x05, 0x60, 0x2e, 0x2d, 0xb8, 0x01, 0x05, 0x36, 0x05, 0x2c, 0x2a, 0x15, 0x04, 0x04, 0x60, 0x2e, 0x2a, 0x15, 0x04, 0x05, 0x60, 0x2e, 0xb6, 0x01, 0x07, 0x36, 0x06, 0xa7, 0x00, 0x37, 0x2b, 0x2a, 0x15, 0x04, 0x04, 0x60, 0x2e, 0x2a, 0x15, 0x04, 0x05, 0x60, 0x2e, 0x2a, 0x15, 0x04, 0x06, 0x60, 0x2e, 0x2d, 0xb8, 0x01, 0x08, 0x36, 0x05, 0x2c, 0x2a, 0x15, 0x04, 0x04]
theorem dwl_13 : dw_ok cL_law (ByteArray.mk wl_13.toArray) 1560 := by
  rw [cl_eqL]
  exact dw_win (by decide +kernel) (by decide +kernel)
def wl_14 : List UInt8 := [0x08, 0x36, 0x05, 0x2c, 0x2a, 0x15, 0x04, 0x04, 0x60, 0x2e, 0x2a, 0x15, 0x04, 0x05, 0x60, 0x2e, 0x2a, 0x15, 0x04, 0x06, 0x60, 0x2e, 0xb6, 0x01, 0x0a, 0x36, 0x06, 0xa7, 0x00, 0x03, 0x84, 0x04, 0x06, 0xa7, 0xf9, 0x66, 0x04, 0xac]
theorem dwl_14 : dw_ok cL_law (ByteArray.mk wl_14.toArray) 1680 := by
  rw [cl_eqL]
  exact dw_win (by decide +kernel) (by decide +kernel)
theorem dz_212 : decode cL_law 212 = .ok (.aload_n 1, 1) := dw_at dwl_1 (p := 92) rfl (by decide +kernel)
theorem dz_213 : decode cL_law 213 = .ok (.aload_n 0, 1) := dw_at dwl_1 (p := 93) rfl (by decide +kernel)
theorem dz_214 : decode cL_law 214 = .ok (.iload 4, 2) := dw_at dwl_1 (p := 94) rfl (by decide +kernel)
theorem dz_216 : decode cL_law 216 = .ok (.iconst 1, 1) := dw_at dwl_1 (p := 96) rfl (by decide +kernel)
theorem dz_217 : decode cL_law 217 = .ok (.iadd, 1) := dw_at dwl_1 (p := 97) rfl (by decide +kernel)
theorem dz_218 : decode cL_law 218 = .ok (.iaload, 1) := dw_at dwl_1 (p := 98) rfl (by decide +kernel)
theorem dz_219 : decode cL_law 219 = .ok (.aload_n 0, 1) := dw_at dwl_1 (p := 99) rfl (by decide +kernel)
theorem dz_220 : decode cL_law 220 = .ok (.iload 4, 2) := dw_at dwl_1 (p := 100) rfl (by decide +kernel)
theorem dz_222 : decode cL_law 222 = .ok (.iconst 2, 1) := dw_at dwl_1 (p := 102) rfl (by decide +kernel)
theorem dz_223 : decode cL_law 223 = .ok (.iadd, 1) := dw_at dwl_1 (p := 103) rfl (by decide +kernel)
theorem dz_224 : decode cL_law 224 = .ok (.iaload, 1) := dw_at dwl_1 (p := 104) rfl (by decide +kernel)
theorem dz_225 : decode cL_law 225 = .ok (.aload_n 0, 1) := dw_at dwl_1 (p := 105) rfl (by decide +kernel)
theorem dz_226 : decode cL_law 226 = .ok (.iload 4, 2) := dw_at dwl_1 (p := 106) rfl (by decide +kernel)
theorem dz_228 : decode cL_law 228 = .ok (.iconst 3, 1) := dw_at dwl_1 (p := 108) rfl (by decide +kernel)
theorem dz_229 : decode cL_law 229 = .ok (.iadd, 1) := dw_at dwl_1 (p := 109) rfl (by decide +kernel)
theorem dz_230 : decode cL_law 230 = .ok (.iaload, 1) := dw_at dwl_1 (p := 110) rfl (by decide +kernel)
theorem dz_231 : decode cL_law 231 = .ok (.aload_n 0, 1) := dw_at dwl_1 (p := 111) rfl (by decide +kernel)
theorem dz_232 : decode cL_law 232 = .ok (.iload 4, 2) := dw_at dwl_1 (p := 112) rfl (by decide +kernel)
theorem dz_234 : decode cL_law 234 = .ok (.iconst 4, 1) := dw_at dwl_1 (p := 114) rfl (by decide +kernel)
theorem dz_235 : decode cL_law 235 = .ok (.iadd, 1) := dw_at dwl_1 (p := 115) rfl (by decide +kernel)
theorem dz_236 : decode cL_law 236 = .ok (.iaload, 1) := dw_at dwl_1 (p := 116) rfl (by decide +kernel)
theorem dz_237 : decode cL_law 237 = .ok (.aload_n 0, 1) := dw_at dwl_1 (p := 117) rfl (by decide +kernel)
theorem dz_238 : decode cL_law 238 = .ok (.iload 4, 2) := dw_at dwl_1 (p := 118) rfl (by decide +kernel)
theorem dz_240 : decode cL_law 240 = .ok (.iconst 5, 1) := dw_at dwl_2 (p := 0) rfl (by decide +kernel)
theorem dz_241 : decode cL_law 241 = .ok (.iadd, 1) := dw_at dwl_2 (p := 1) rfl (by decide +kernel)
theorem dz_242 : decode cL_law 242 = .ok (.iaload, 1) := dw_at dwl_2 (p := 2) rfl (by decide +kernel)
theorem dz_243 : decode cL_law 243 = .ok (.aload_n 3, 1) := dw_at dwl_2 (p := 3) rfl (by decide +kernel)
theorem dz_244 : decode cL_law 244 = .ok (.invokestatic 131, 3) := dw_at dwl_2 (p := 4) rfl (by decide +kernel)
theorem dz_247 : decode cL_law 247 = .ok (.istore 5, 2) := dw_at dwl_2 (p := 7) rfl (by decide +kernel)
theorem dz_249 : decode cL_law 249 = .ok (.aload_n 2, 1) := dw_at dwl_2 (p := 9) rfl (by decide +kernel)
theorem dz_250 : decode cL_law 250 = .ok (.aload_n 0, 1) := dw_at dwl_2 (p := 10) rfl (by decide +kernel)
theorem dz_251 : decode cL_law 251 = .ok (.iload 4, 2) := dw_at dwl_2 (p := 11) rfl (by decide +kernel)
theorem dz_253 : decode cL_law 253 = .ok (.iconst 1, 1) := dw_at dwl_2 (p := 13) rfl (by decide +kernel)
theorem dz_254 : decode cL_law 254 = .ok (.iadd, 1) := dw_at dwl_2 (p := 14) rfl (by decide +kernel)
theorem dz_255 : decode cL_law 255 = .ok (.iaload, 1) := dw_at dwl_2 (p := 15) rfl (by decide +kernel)
theorem dz_256 : decode cL_law 256 = .ok (.aload_n 0, 1) := dw_at dwl_2 (p := 16) rfl (by decide +kernel)
theorem dz_257 : decode cL_law 257 = .ok (.iload 4, 2) := dw_at dwl_2 (p := 17) rfl (by decide +kernel)
theorem dz_259 : decode cL_law 259 = .ok (.iconst 2, 1) := dw_at dwl_2 (p := 19) rfl (by decide +kernel)
theorem dz_260 : decode cL_law 260 = .ok (.iadd, 1) := dw_at dwl_2 (p := 20) rfl (by decide +kernel)
theorem dz_261 : decode cL_law 261 = .ok (.iaload, 1) := dw_at dwl_2 (p := 21) rfl (by decide +kernel)
theorem dz_262 : decode cL_law 262 = .ok (.aload_n 0, 1) := dw_at dwl_2 (p := 22) rfl (by decide +kernel)
theorem dz_263 : decode cL_law 263 = .ok (.iload 4, 2) := dw_at dwl_2 (p := 23) rfl (by decide +kernel)
theorem dz_265 : decode cL_law 265 = .ok (.iconst 3, 1) := dw_at dwl_2 (p := 25) rfl (by decide +kernel)
theorem dz_266 : decode cL_law 266 = .ok (.iadd, 1) := dw_at dwl_2 (p := 26) rfl (by decide +kernel)
theorem dz_267 : decode cL_law 267 = .ok (.iaload, 1) := dw_at dwl_2 (p := 27) rfl (by decide +kernel)
theorem dz_268 : decode cL_law 268 = .ok (.aload_n 0, 1) := dw_at dwl_2 (p := 28) rfl (by decide +kernel)
theorem dz_269 : decode cL_law 269 = .ok (.iload 4, 2) := dw_at dwl_2 (p := 29) rfl (by decide +kernel)
theorem dz_271 : decode cL_law 271 = .ok (.iconst 4, 1) := dw_at dwl_2 (p := 31) rfl (by decide +kernel)
theorem dz_272 : decode cL_law 272 = .ok (.iadd, 1) := dw_at dwl_2 (p := 32) rfl (by decide +kernel)
theorem dz_273 : decode cL_law 273 = .ok (.iaload, 1) := dw_at dwl_2 (p := 33) rfl (by decide +kernel)
theorem dz_274 : decode cL_law 274 = .ok (.aload_n 0, 1) := dw_at dwl_2 (p := 34) rfl (by decide +kernel)
theorem dz_275 : decode cL_law 275 = .ok (.iload 4, 2) := dw_at dwl_2 (p := 35) rfl (by decide +kernel)
theorem dz_277 : decode cL_law 277 = .ok (.iconst 5, 1) := dw_at dwl_2 (p := 37) rfl (by decide +kernel)
theorem dz_278 : decode cL_law 278 = .ok (.iadd, 1) := dw_at dwl_2 (p := 38) rfl (by decide +kernel)
theorem dz_279 : decode cL_law 279 = .ok (.iaload, 1) := dw_at dwl_2 (p := 39) rfl (by decide +kernel)
theorem dz_280 : decode cL_law 280 = .ok (.invokevirtual 136, 3) := dw_at dwl_2 (p := 40) rfl (by decide +kernel)
theorem dz_283 : decode cL_law 283 = .ok (.istore 6, 2) := dw_at dwl_2 (p := 43) rfl (by decide +kernel)
theorem dz_285 : decode cL_law 285 = .ok (.goto 1425, 3) := dw_at dwl_2 (p := 45) rfl (by decide +kernel)
def ltp_feed (vl : Nat → Nat) (K : Nat) (x1 : Int32) (x2 : Int32) (x3 : Int32) (x4 : Int32) (x5 : Int32) (zc zm : ow_MS) : Option ow_LwS :=
 cs1 (le_L_feed vl K 0 x1 x2 x3 x4 x5 zc) fun v2 zc1 => cs1 (qe_X13_feed K x1 x2 x3 x4 x5 zm) fun v4 zm3 => some (vl, zc1, zm3)
set_option maxHeartbeats 4000000 in
set_option maxRecDepth 100000 in
theorem lxc_feed {p : Program} {l : Launch} {e : Env} {s : State} {m : MethodId} {args : Array Value} {below : List Frame} {meth : Method} {c : Code} {b L K n : Nat} {xs : Nat → Int32} {D : va_G} {q : Nat → ClassId} {q5 : ow_Q5} {vl u w sa : Nat → Nat} {zc zm : ow_MS} {S1 : ow_LwS} {Ts : List Cond} {Q : State → Prop} {H : Heap} {locs : List Loc} {ls : Array Slot} {cells slots : Nat} (hx : p.tables.exec = Jvm.exec) (hb : c.code = cL_law) (hml : c.maxLocals = 8) (hown : s.vm.findClass RL = some m.cls) (hts : ∀ w ∈ Ts, w.before args s = true) (hX : va_X b L xs s s.heap) (hbl : b < s.heap.size) (hZ : ∀ w ∈ wZ, w ∈ Ts) (hL1 : ∀ w ∈ wLL, w ∈ Ts) (hC1 : ∀ w ∈ wC, w ∈ Ts) (hM1 : ∀ w ∈ wM, w ∈ Ts) (hG : lx_G l s D q q5 sa) (hLn : L ≤ 3072) (hn : 6 * n + 6 ≤ L) (hq : ltp_feed vl K (xs (6 * n + 1)) (xs (6 * n + 2)) (xs (6 * n + 3)) (xs (6 * n + 4)) (xs (6 * n + 5)) zc zm = some S1) (hM : lx_M D q q5 s vl u w zc zm H locs) (hl : lv_has ls 8 [(0, .ref b), (1, .ref (u 0)), (2, .ref (w 0)), (3, .ref (u 52001)), (4, .int (nI (6 * n)))]) (hc : cells + 1 ≤ 601024) (hs : slots + 6 ≤ 7293033) (kk : ∀ (zc1 zm1 : ow_MS) (H1 : Heap) (locs1 : List Loc) (ls1 : Array Slot), lx_M D q q5 s vl u w zc1 zm1 H1 locs1 → lv_has ls1 8 [(0, .ref b), (1, .ref (u 0)), (2, .ref (w 0)), (3, .ref (u 52001)), (4, .int (nI (6 * n)))] → some (vl, zc1, zm1) = some S1 → W p l e room_1 s m args below meth c H1 locs1 (cells + 1) (slots + 6) Q (F0 m 1710 ls1 [])) : W p l e room_1 s m args below meth c H locs cells slots Q (F0 m 212 ls []) := by
  have hbA : ¬ lx_A s b := Nat.not_le.mpr hbl
  generalize e1 : xs (6 * n + 1) = x1 at hq
  generalize e2 : xs (6 * n + 2) = x2 at hq
  generalize e3 : xs (6 * n + 3) = x3 at hq
  generalize e4 : xs (6 * n + 4) = x4 at hq
  generalize e5 : xs (6 * n + 5) = x5 at hq
  unfold ltp_feed at hq
  refine lv_aload_n hx hb dz_212 rfl (lv_at hl 1 rfl) ?_
  refine lv_aload_n hx hb dz_213 rfl (lv_at hl 0 rfl) ?_
  refine lv_iload hx hb dz_214 (lv_at hl 4 rfl) ?_
  refine lv_iconst (v := 1) hx hb dz_216 (by decide) ?_
  refine lv_iadd hx hb dz_217 ?_
  refine ow_topi (y := nI (6 * n + 1)) (nI_add (6 * n) 1) ?_
  refine va_sld hx hb hX hbl hbA hM.2.2.2.2.2 (vp_in_nI (n := 6 * n + 1) (N := L) (by omega) (by omega)) dz_218 ?_
  refine ow_topi (y := x1) ((congrArg xs (nI_clamp (by omega))).trans e1) ?_
  refine lv_aload_n hx hb dz_219 rfl (lv_at hl 0 rfl) ?_
  refine lv_iload hx hb dz_220 (lv_at hl 4 rfl) ?_
  refine lv_iconst (v := 2) hx hb dz_222 (by decide) ?_
  refine lv_iadd hx hb dz_223 ?_
  refine ow_topi (y := nI (6 * n + 2)) (nI_add (6 * n) 2) ?_
  refine va_sld hx hb hX hbl hbA hM.2.2.2.2.2 (vp_in_nI (n := 6 * n + 2) (N := L) (by omega) (by omega)) dz_224 ?_
  refine ow_topi (y := x2) ((congrArg xs (nI_clamp (by omega))).trans e2) ?_
  refine lv_aload_n hx hb dz_225 rfl (lv_at hl 0 rfl) ?_
  refine lv_iload hx hb dz_226 (lv_at hl 4 rfl) ?_
  refine lv_iconst (v := 3) hx hb dz_228 (by decide) ?_
  refine lv_iadd hx hb dz_229 ?_
  refine ow_topi (y := nI (6 * n + 3)) (nI_add (6 * n) 3) ?_
  refine va_sld hx hb hX hbl hbA hM.2.2.2.2.2 (vp_in_nI (n := 6 * n + 3) (N := L) (by omega) (by omega)) dz_230 ?_
  refine ow_topi (y := x3) ((congrArg xs (nI_clamp (by omega))).trans e3) ?_
  refine lv_aload_n hx hb dz_231 rfl (lv_at hl 0 rfl) ?_
  refine lv_iload hx hb dz_232 (lv_at hl 4 rfl) ?_
  refine lv_iconst (v := 4) hx hb dz_234 (by decide) ?_
  refine lv_iadd hx hb dz_235 ?_
  refine ow_topi (y := nI (6 * n + 4)) (nI_add (6 * n) 4) ?_
  refine va_sld hx hb hX hbl hbA hM.2.2.2.2.2 (vp_in_nI (n := 6 * n + 4) (N := L) (by omega) (by omega)) dz_236 ?_
  refine ow_topi (y := x4) ((congrArg xs (nI_clamp (by omega))).trans e4) ?_
  refine lv_aload_n hx hb dz_237 rfl (lv_at hl 0 rfl) ?_
  refine lv_iload hx hb dz_238 (lv_at hl 4 rfl) ?_
  refine lv_iconst (v := 5) hx hb dz_240 (by decide) ?_
  refine lv_iadd hx hb dz_241 ?_
  refine ow_topi (y := nI (6 * n + 5)) (nI_add (6 * n) 5) ?_
  refine va_sld hx hb hX hbl hbA hM.2.2.2.2.2 (vp_in_nI (n := 6 * n + 5) (N := L) (by omega) (by omega)) dz_242 ?_
  refine ow_topi (y := x5) ((congrArg xs (nI_clamp (by omega))).trans e5) ?_
  refine lv_aload_n hx hb dz_243 rfl (lv_at hl 3 rfl) ?_
  obtain ⟨v2, zc1, hcq, hq⟩ := tw_cl1 hq
  refine lx_wrap hM (vx_runSX (As := [.ref (u 0), .int x1, .int x2, .int x3, .int x4, .int x5, .ref (u 52001)]) (rest := []) ⟨hx, hb, hml, hown, hts⟩ (kl_L_feed l D q vl u hM.2.2.1.1 hG.1 sa K 0 x1 x2 x3 x4 x5 (by unfold cw_X11 ci_X11; exact List.mem_singleton.mpr rfl) zc zc1 v2 hcq) (vx_cwSW 7 hts (lx_gS (lx_all wLL_good rfl) (lx_mem hL1 (hZ _ zq_0)) (hZ _ zq_1) (hZ _ zq_2) (hZ _ zq_3) rfl rfl rfl) rfl rfl rfl (by decide +kernel) ⟨(Nat.le_of_ble_eq_true rfl), (Nat.le_of_ble_eq_true rfl)⟩) (lx_preL hG hM) rfl rfl hl.1 rfl (lv_room (Nat.le_of_ble_eq_true rfl)) dz_244 ⟨(by show _ ≤ 601024; omega), (by show _ ≤ 7293033; omega)⟩) (fun H locs hM => ?_)
  refine lv_istore (lv' := [(5, .int v2), (0, .ref b), (1, .ref (u 0)), (2, .ref (w 0)), (3, .ref (u 52001)), (4, .int (nI (6 * n)))]) hx hb dz_247 hl (by decide) rfl (fun ls hl => ?_)
  refine lv_aload_n hx hb dz_249 rfl (lv_at hl 3 rfl) ?_
  refine lv_aload_n hx hb dz_250 rfl (lv_at hl 1 rfl) ?_
  refine lv_iload hx hb dz_251 (lv_at hl 5 rfl) ?_
  refine lv_iconst (v := 1) hx hb dz_253 (by decide) ?_
  refine lv_iadd hx hb dz_254 ?_
  refine ow_topi (y := nI (6 * n + 1)) (nI_add (6 * n) 1) ?_
  refine va_sld hx hb hX hbl hbA hM.2.2.2.2.2 (vp_in_nI (n := 6 * n + 1) (N := L) (by omega) (by omega)) dz_255 ?_
  refine ow_topi (y := x1) ((congrArg xs (nI_clamp (by omega))).trans e1) ?_
  refine lv_aload_n hx hb dz_256 rfl (lv_at hl 1 rfl) ?_
  refine lv_iload hx hb dz_257 (lv_at hl 5 rfl) ?_
  refine lv_iconst (v := 2) hx hb dz_259 (by decide) ?_
  refine lv_iadd hx hb dz_260 ?_
  refine ow_topi (y := nI (6 * n + 2)) (nI_add (6 * n) 2) ?_
  refine va_sld hx hb hX hbl hbA hM.2.2.2.2.2 (vp_in_nI (n := 6 * n + 2) (N := L) (by omega) (by omega)) dz_261 ?_
  refine ow_topi (y := x2) ((congrArg xs (nI_clamp (by omega))).trans e2) ?_
  refine lv_aload_n hx hb dz_262 rfl (lv_at hl 1 rfl) ?_
  refine lv_iload hx hb dz_263 (lv_at hl 5 rfl) ?_
  refine lv_iconst (v := 3) hx hb dz_265 (by decide) ?_
  refine lv_iadd hx hb dz_266 ?_
  refine ow_topi (y := nI (6 * n + 3)) (nI_add (6 * n) 3) ?_
  refine va_sld hx hb hX hbl hbA hM.2.2.2.2.2 (vp_in_nI (n := 6 * n + 3) (N := L) (by omega) (by omega)) dz_267 ?_
  refine ow_topi (y := x3) ((congrArg xs (nI_clamp (by omega))).trans e3) ?_
  refine lv_aload_n hx hb dz_268 rfl (lv_at hl 1 rfl) ?_
  refine lv_iload hx hb dz_269 (lv_at hl 5 rfl) ?_
  refine lv_iconst (v := 4) hx hb dz_271 (by decide) ?_
  refine lv_iadd hx hb dz_272 ?_
  refine ow_topi (y := nI (6 * n + 4)) (nI_add (6 * n) 4) ?_
  refine va_sld hx hb hX hbl hbA hM.2.2.2.2.2 (vp_in_nI (n := 6 * n + 4) (N := L) (by omega) (by omega)) dz_273 ?_
  refine ow_topi (y := x4) ((congrArg xs (nI_clamp (by omega))).trans e4) ?_
  refine lv_aload_n hx hb dz_274 rfl (lv_at hl 1 rfl) ?_
  refine lv_iload hx hb dz_275 (lv_at hl 5 rfl) ?_
  refine lv_iconst (v := 5) hx hb dz_277 (by decide) ?_
  refine lv_iadd hx hb dz_278 ?_
  refine ow_topi (y := nI (6 * n + 5)) (nI_add (6 * n) 5) ?_
  refine va_sld hx hb hX hbl hbA hM.2.2.2.2.2 (vp_in_nI (n := 6 * n + 5) (N := L) (by omega) (by omega)) dz_279 ?_
  refine ow_topi (y := x5) ((congrArg xs (nI_clamp (by omega))).trans e5) ?_
  obtain ⟨v4, zm3, hcq, hq⟩ := tw_cl1 hq
  refine lx_refi hM (va_runV (As := [.int x1, .int x2, .int x3, .int x4, .int x5]) (rest := []) ⟨hx, hb, hml, hown, hts⟩ (km_X13_feed l D q5 w hM.2.2.2.1.1 K x1 x2 x3 x4 x5 zm zm3 v4 hcq) (cwV 5 hts (lx_gV (lx_all wM_good rfl) (lx_mem hM1 (hZ _ zq_4)) (hZ _ zq_5) (hZ _ zq_6) (hZ _ zq_7) (hZ _ zq_8) rfl rfl rfl rfl) rfl rfl rfl cd_X13_feed ⟨(Nat.le_of_ble_eq_true rfl), (Nat.le_of_ble_eq_true rfl)⟩) (lx_preM hG hM) rfl rfl hl.1 rfl (lv_room (Nat.le_of_ble_eq_true rfl)) dz_280 ⟨(by show _ ≤ 601024; omega), (by show _ ≤ 7293033; omega)⟩) (fun H locs hM => ?_)
  refine lv_istore (lv' := [(6, .int v4), (5, .int v2), (0, .ref b), (1, .ref (u 0)), (2, .ref (w 0)), (3, .ref (u 52001)), (4, .int (nI (6 * n)))]) hx hb dz_283 hl (by decide) rfl (fun ls hl => ?_)
  refine lv_goto (tgt := 1710) hx hb dz_285 (by decide) ?_
  exact kk _ _ H locs ls hM (lv_sub hl [2, 3, 4, 5, 6] rfl) hq
theorem dz_288 : decode cL_law 288 = .ok (.aload_n 1, 1) := dw_at dwl_2 (p := 48) rfl (by decide +kernel)
theorem dz_289 : decode cL_law 289 = .ok (.aload_n 0, 1) := dw_at dwl_2 (p := 49) rfl (by decide +kernel)
theorem dz_290 : decode cL_law 290 = .ok (.iload 4, 2) := dw_at dwl_2 (p := 50) rfl (by decide +kernel)
theorem dz_292 : decode cL_law 292 = .ok (.iconst 1, 1) := dw_at dwl_2 (p := 52) rfl (by decide +kernel)
theorem dz_293 : decode cL_law 293 = .ok (.iadd, 1) := dw_at dwl_2 (p := 53) rfl (by decide +kernel)
theorem dz_294 : decode cL_law 294 = .ok (.iaload, 1) := dw_at dwl_2 (p := 54) rfl (by decide +kernel)
theorem dz_295 : decode cL_law 295 = .ok (.invokestatic 137, 3) := dw_at dwl_2 (p := 55) rfl (by decide +kernel)
theorem dz_298 : decode cL_law 298 = .ok (.istore 5, 2) := dw_at dwl_2 (p := 58) rfl (by decide +kernel)
theorem dz_300 : decode cL_law 300 = .ok (.aload_n 2, 1) := dw_at dwl_2 (p := 60) rfl (by decide +kernel)
theorem dz_301 : decode cL_law 301 = .ok (.aload_n 0, 1) := dw_at dwl_2 (p := 61) rfl (by decide +kernel)
theorem dz_302 : decode cL_law 302 = .ok (.iload 4, 2) := dw_at dwl_2 (p := 62) rfl (by decide +kernel)
theorem dz_304 : decode cL_law 304 = .ok (.iconst 1, 1) := dw_at dwl_2 (p := 64) rfl (by decide +kernel)
theorem dz_305 : decode cL_law 305 = .ok (.iadd, 1) := dw_at dwl_2 (p := 65) rfl (by decide +kernel)
theorem dz_306 : decode cL_law 306 = .ok (.iaload, 1) := dw_at dwl_2 (p := 66) rfl (by decide +kernel)
theorem dz_307 : decode cL_law 307 = .ok (.invokevirtual 140, 3) := dw_at dwl_2 (p := 67) rfl (by decide +kernel)
theorem dz_310 : decode cL_law 310 = .ok (.goto 1400, 3) := dw_at dwl_2 (p := 70) rfl (by decide +kernel)
def ltp_end (vl : Nat → Nat) (K : Nat) (x1 : Int32) (x2 : Int32) (x3 : Int32) (x4 : Int32) (x5 : Int32) (zc zm : ow_MS) : Option ow_LwS :=
 cs1 (le_L_end vl K 0 x1 zc) fun v2 zc1 => cs0 (qe_X13_end K x1 zm) fun zm3 => some (vl, zc1, zm3)
set_option maxHeartbeats 4000000 in
set_option maxRecDepth 100000 in
theorem lxc_end {p : Program} {l : Launch} {e : Env} {s : State} {m : MethodId} {args : Array Value} {below : List Frame} {meth : Method} {c : Code} {b L K n : Nat} {xs : Nat → Int32} {D : va_G} {q : Nat → ClassId} {q5 : ow_Q5} {vl u w sa : Nat → Nat} {zc zm : ow_MS} {S1 : ow_LwS} {Ts : List Cond} {Q : State → Prop} {H : Heap} {locs : List Loc} {ls : Array Slot} {cells slots : Nat} (hx : p.tables.exec = Jvm.exec) (hb : c.code = cL_law) (hml : c.maxLocals = 8) (hown : s.vm.findClass RL = some m.cls) (hts : ∀ w ∈ Ts, w.before args s = true) (hX : va_X b L xs s s.heap) (hbl : b < s.heap.size) (hZ : ∀ w ∈ wZ, w ∈ Ts) (hL1 : ∀ w ∈ wLL, w ∈ Ts) (hC1 : ∀ w ∈ wC, w ∈ Ts) (hM1 : ∀ w ∈ wM, w ∈ Ts) (hG : lx_G l s D q q5 sa) (hLn : L ≤ 3072) (hn : 6 * n + 6 ≤ L) (hq : ltp_end vl K (xs (6 * n + 1)) (xs (6 * n + 2)) (xs (6 * n + 3)) (xs (6 * n + 4)) (xs (6 * n + 5)) zc zm = some S1) (hM : lx_M D q q5 s vl u w zc zm H locs) (hl : lv_has ls 8 [(0, .ref b), (1, .ref (u 0)), (2, .ref (w 0)), (3, .ref (u 52001)), (4, .int (nI (6 * n)))]) (hc : cells + 1 ≤ 601024) (hs : slots + 6 ≤ 7293033) (kk : ∀ (zc1 zm1 : ow_MS) (H1 : Heap) (locs1 : List Loc) (ls1 : Array Slot), lx_M D q q5 s vl u w zc1 zm1 H1 locs1 → lv_has ls1 8 [(0, .ref b), (1, .ref (u 0)), (2, .ref (w 0)), (3, .ref (u 52001)), (4, .int (nI (6 * n)))] → some (vl, zc1, zm1) = some S1 → W p l e room_1 s m args below meth c H1 locs1 (cells + 1) (slots + 6) Q (F0 m 1710 ls1 [])) : W p l e room_1 s m args below meth c H locs cells slots Q (F0 m 288 ls []) := by
  have hbA : ¬ lx_A s b := Nat.not_le.mpr hbl
  generalize e1 : xs (6 * n + 1) = x1 at hq
  generalize e2 : xs (6 * n + 2) = x2 at hq
  generalize e3 : xs (6 * n + 3) = x3 at hq
  generalize e4 : xs (6 * n + 4) = x4 at hq
  generalize e5 : xs (6 * n + 5) = x5 at hq
  unfold ltp_end at hq
  refine lv_aload_n hx hb dz_288 rfl (lv_at hl 1 rfl) ?_
  refine lv_aload_n hx hb dz_289 rfl (lv_at hl 0 rfl) ?_
  refine lv_iload hx hb dz_290 (lv_at hl 4 rfl) ?_
  refine lv_iconst (v := 1) hx hb dz_292 (by decide) ?_
  refine lv_iadd hx hb dz_293 ?_
  refine ow_topi (y := nI (6 * n + 1)) (nI_add (6 * n) 1) ?_
  refine va_sld hx hb hX hbl hbA hM.2.2.2.2.2 (vp_in_nI (n := 6 * n + 1) (N := L) (by omega) (by omega)) dz_294 ?_
  refine ow_topi (y := x1) ((congrArg xs (nI_clamp (by omega))).trans e1) ?_
  obtain ⟨v2, zc1, hcq, hq⟩ := tw_cl1 hq
  refine lx_wrap hM (vx_runSX (As := [.ref (u 0), .int x1]) (rest := []) ⟨hx, hb, hml, hown, hts⟩ (kl_L_end l D q vl u hM.2.2.1.1 hG.1 sa K 0 x1 (by unfold cw_X11 ci_X11; exact List.mem_singleton.mpr rfl) zc zc1 v2 hcq) (vx_cwSW 2 hts (lx_gS (lx_all wLL_good rfl) (lx_mem hL1 (hZ _ zq_13)) (hZ _ zq_14) (hZ _ zq_15) (hZ _ zq_3) rfl rfl rfl) rfl rfl rfl (by decide +kernel) ⟨(Nat.le_of_ble_eq_true rfl), (Nat.le_of_ble_eq_true rfl)⟩) (lx_preL hG hM) rfl rfl hl.1 rfl (lv_room (Nat.le_of_ble_eq_true rfl)) dz_295 ⟨(by show _ ≤ 601024; omega), (by show _ ≤ 7293033; omega)⟩) (fun H locs hM => ?_)
  refine lv_istore (lv' := [(5, .int v2), (0, .ref b), (1, .ref (u 0)), (2, .ref (w 0)), (3, .ref (u 52001)), (4, .int (nI (6 * n)))]) hx hb dz_298 hl (by decide) rfl (fun ls hl => ?_)
  refine lv_aload_n hx hb dz_300 rfl (lv_at hl 3 rfl) ?_
  refine lv_aload_n hx hb dz_301 rfl (lv_at hl 1 rfl) ?_
  refine lv_iload hx hb dz_302 (lv_at hl 5 rfl) ?_
  refine lv_iconst (v := 1) hx hb dz_304 (by decide) ?_
  refine lv_iadd hx hb dz_305 ?_
  refine ow_topi (y := nI (6 * n + 1)) (nI_add (6 * n) 1) ?_
  refine va_sld hx hb hX hbl hbA hM.2.2.2.2.2 (vp_in_nI (n := 6 * n + 1) (N := L) (by omega) (by omega)) dz_306 ?_
  refine ow_topi (y := x1) ((congrArg xs (nI_clamp (by omega))).trans e1) ?_
  obtain ⟨zm3, hcq, hq⟩ := tw_cl0 hq
  refine lx_refv hM (va_runV (As := [.int x1]) (rest := []) ⟨hx, hb, hml, hown, hts⟩ (km_X13_end l D q5 w hM.2.2.2.1.1 K x1 zm zm3 hcq) (cwV 1 hts (lx_gV (lx_all wM_good rfl) (lx_mem hM1 (hZ _ zq_16)) (hZ _ zq_17) (hZ _ zq_18) (hZ _ zq_19) (hZ _ zq_8) rfl rfl rfl rfl) rfl rfl rfl cd_X13_end ⟨(Nat.le_of_ble_eq_true rfl), (Nat.le_of_ble_eq_true rfl)⟩) (lx_preM hG hM) rfl rfl hl.1 rfl (lv_room (Nat.le_of_ble_eq_true rfl)) dz_307 ⟨(by show _ ≤ 601024; omega), (by show _ ≤ 7293033; omega)⟩) (fun H locs hM => ?_)
  refine lv_goto (tgt := 1710) hx hb dz_310 (by decide) ?_
  exact kk _ _ H locs ls hM (lv_sub hl [1, 2, 3, 4, 5] rfl) hq
theorem dz_313 : decode cL_law 313 = .ok (.aload_n 1, 1) := dw_at dwl_2 (p := 73) rfl (by decide +kernel)
theorem dz_314 : decode cL_law 314 = .ok (.aload_n 3, 1) := dw_at dwl_2 (p := 74) rfl (by decide +kernel)
theorem dz_315 : decode cL_law 315 = .ok (.invokestatic 141, 3) := dw_at dwl_2 (p := 75) rfl (by decide +kernel)
theorem dz_318 : decode cL_law 318 = .ok (.istore 5, 2) := dw_at dwl_2 (p := 78) rfl (by decide +kernel)
theorem dz_320 : decode cL_law 320 = .ok (.aload_n 2, 1) := dw_at dwl_2 (p := 80) rfl (by decide +kernel)
theorem dz_321 : decode cL_law 321 = .ok (.invokevirtual 144, 3) := dw_at dwl_2 (p := 81) rfl (by decide +kernel)
theorem dz_324 : decode cL_law 324 = .ok (.istore 6, 2) := dw_at dwl_2 (p := 84) rfl (by decide +kernel)
theorem dz_326 : decode cL_law 326 = .ok (.goto 1384, 3) := dw_at dwl_2 (p := 86) rfl (by decide +kernel)
def ltp_diagram (vl : Nat → Nat) (K : Nat) (x1 : Int32) (x2 : Int32) (x3 : Int32) (x4 : Int32) (x5 : Int32) (zc zm : ow_MS) : Option ow_LwS :=
 cs1 (le_L_diagram vl K 0  zc) fun v2 zc1 => cs1 (qe_X13_diagram K zm) fun v4 zm3 => some (vl, zc1, zm3)
set_option maxHeartbeats 4000000 in
set_option maxRecDepth 100000 in
theorem lxc_diagram {p : Program} {l : Launch} {e : Env} {s : State} {m : MethodId} {args : Array Value} {below : List Frame} {meth : Method} {c : Code} {b L K n : Nat} {xs : Nat → Int32} {D : va_G} {q : Nat → ClassId} {q5 : ow_Q5} {vl u w sa : Nat → Nat} {zc zm : ow_MS} {S1 : ow_LwS} {Ts : List Cond} {Q : State → Prop} {H : Heap} {locs : List Loc} {ls : Array Slot} {cells slots : Nat} (hx : p.tables.exec = Jvm.exec) (hb : c.code = cL_law) (hml : c.maxLocals = 8) (hown : s.vm.findClass RL = some m.cls) (hts : ∀ w ∈ Ts, w.before args s = true) (hX : va_X b L xs s s.heap) (hbl : b < s.heap.size) (hZ : ∀ w ∈ wZ, w ∈ Ts) (hL1 : ∀ w ∈ wLL, w ∈ Ts) (hC1 : ∀ w ∈ wC, w ∈ Ts) (hM1 : ∀ w ∈ wM, w ∈ Ts) (hG : lx_G l s D q q5 sa) (hLn : L ≤ 3072) (hn : 6 * n + 6 ≤ L) (hq : ltp_diagram vl K (xs (6 * n + 1)) (xs (6 * n + 2)) (xs (6 * n + 3)) (xs (6 * n + 4)) (xs (6 * n + 5)) zc zm = some S1) (hM : lx_M D q q5 s vl u w zc zm H locs) (hl : lv_has ls 8 [(0, .ref b), (1, .ref (u 0)), (2, .ref (w 0)), (3, .ref (u 52001)), (4, .int (nI (6 * n)))]) (hc : cells + 1 ≤ 601024) (hs : slots + 6 ≤ 7293033) (kk : ∀ (zc1 zm1 : ow_MS) (H1 : Heap) (locs1 : List Loc) (ls1 : Array Slot), lx_M D q q5 s vl u w zc1 zm1 H1 locs1 → lv_has ls1 8 [(0, .ref b), (1, .ref (u 0)), (2, .ref (w 0)), (3, .ref (u 52001)), (4, .int (nI (6 * n)))] → some (vl, zc1, zm1) = some S1 → W p l e room_1 s m args below meth c H1 locs1 (cells + 1) (slots + 6) Q (F0 m 1710 ls1 [])) : W p l e room_1 s m args below meth c H locs cells slots Q (F0 m 313 ls []) := by
  have hbA : ¬ lx_A s b := Nat.not_le.mpr hbl
  generalize e1 : xs (6 * n + 1) = x1 at hq
  generalize e2 : xs (6 * n + 2) = x2 at hq
  generalize e3 : xs (6 * n + 3) = x3 at hq
  generalize e4 : xs (6 * n + 4) = x4 at hq
  generalize e5 : xs (6 * n + 5) = x5 at hq
  unfold ltp_diagram at hq
  refine lv_aload_n hx hb dz_313 rfl (lv_at hl 1 rfl) ?_
  refine lv_aload_n hx hb dz_314 rfl (lv_at hl 3 rfl) ?_
  obtain ⟨v2, zc1, hcq, hq⟩ := tw_cl1 hq
  refine lx_wrap hM (vx_runSX (As := [.ref (u 0), .ref (u 52001)]) (rest := []) ⟨hx, hb, hml, hown, hts⟩ (kl_L_diagram l D q vl u hM.2.2.1.1 hG.1 sa K 0  (by unfold cw_X11 ci_X11; exact List.mem_singleton.mpr rfl) zc zc1 v2 hcq) (vx_cwSW 2 hts (lx_gS (lx_all wLL_good rfl) (lx_mem hL1 (hZ _ zq_20)) (hZ _ zq_21) (hZ _ zq_22) (hZ _ zq_3) rfl rfl rfl) rfl rfl rfl (by decide +kernel) ⟨(Nat.le_of_ble_eq_true rfl), (Nat.le_of_ble_eq_true rfl)⟩) (lx_preL hG hM) rfl rfl hl.1 rfl (lv_room (Nat.le_of_ble_eq_true rfl)) dz_315 ⟨(by show _ ≤ 601024; omega), (by show _ ≤ 7293033; omega)⟩) (fun H locs hM => ?_)
  refine lv_istore (lv' := [(5, .int v2), (0, .ref b), (1, .ref (u 0)), (2, .ref (w 0)), (3, .ref (u 52001)), (4, .int (nI (6 * n)))]) hx hb dz_318 hl (by decide) rfl (fun ls hl => ?_)
  refine lv_aload_n hx hb dz_320 rfl (lv_at hl 3 rfl) ?_
  obtain ⟨v4, zm3, hcq, hq⟩ := tw_cl1 hq
  refine lx_refi hM (va_runV (As := []) (rest := []) ⟨hx, hb, hml, hown, hts⟩ (km_X13_diagram l D q5 w hM.2.2.2.1.1 K zm zm3 v4 hcq) (cwV 0 hts (lx_gV (lx_all wM_good rfl) (lx_mem hM1 (hZ _ zq_23)) (hZ _ zq_24) (hZ _ zq_25) (hZ _ zq_26) (hZ _ zq_8) rfl rfl rfl rfl) rfl rfl rfl cd_X13_diagram ⟨(Nat.le_of_ble_eq_true rfl), (Nat.le_of_ble_eq_true rfl)⟩) (lx_preM hG hM) rfl rfl hl.1 rfl (lv_room (Nat.le_of_ble_eq_true rfl)) dz_321 ⟨(by show _ ≤ 601024; omega), (by show _ ≤ 7293033; omega)⟩) (fun H locs hM => ?_)
  refine lv_istore (lv' := [(6, .int v4), (5, .int v2), (0, .ref b), (1, .ref (u 0)), (2, .ref (w 0)), (3, .ref (u 52001)), (4, .int (nI (6 * n)))]) hx hb dz_324 hl (by decide) rfl (fun ls hl => ?_)
  refine lv_goto (tgt := 1710) hx hb dz_326 (by decide) ?_
  exact kk _ _ H locs ls hM (lv_sub hl [2, 3, 4, 5, 6] rfl) hq
theorem dz_329 : decode cL_law 329 = .ok (.aload_n 1, 1) := dw_at dwl_2 (p := 89) rfl (by decide +kernel)
theorem dz_330 : decode cL_law 330 = .ok (.aload_n 0, 1) := dw_at dwl_2 (p := 90) rfl (by decide +kernel)
theorem dz_331 : decode cL_law 331 = .ok (.iload 4, 2) := dw_at dwl_2 (p := 91) rfl (by decide +kernel)
theorem dz_333 : decode cL_law 333 = .ok (.iconst 1, 1) := dw_at dwl_2 (p := 93) rfl (by decide +kernel)
theorem dz_334 : decode cL_law 334 = .ok (.iadd, 1) := dw_at dwl_2 (p := 94) rfl (by decide +kernel)
theorem dz_335 : decode cL_law 335 = .ok (.iaload, 1) := dw_at dwl_2 (p := 95) rfl (by decide +kernel)
theorem dz_336 : decode cL_law 336 = .ok (.aload_n 3, 1) := dw_at dwl_2 (p := 96) rfl (by decide +kernel)
theorem dz_337 : decode cL_law 337 = .ok (.invokestatic 145, 3) := dw_at dwl_2 (p := 97) rfl (by decide +kernel)
theorem dz_340 : decode cL_law 340 = .ok (.istore 5, 2) := dw_at dwl_2 (p := 100) rfl (by decide +kernel)
theorem dz_342 : decode cL_law 342 = .ok (.aload_n 2, 1) := dw_at dwl_2 (p := 102) rfl (by decide +kernel)
theorem dz_343 : decode cL_law 343 = .ok (.aload_n 0, 1) := dw_at dwl_2 (p := 103) rfl (by decide +kernel)
theorem dz_344 : decode cL_law 344 = .ok (.iload 4, 2) := dw_at dwl_2 (p := 104) rfl (by decide +kernel)
theorem dz_346 : decode cL_law 346 = .ok (.iconst 1, 1) := dw_at dwl_2 (p := 106) rfl (by decide +kernel)
theorem dz_347 : decode cL_law 347 = .ok (.iadd, 1) := dw_at dwl_2 (p := 107) rfl (by decide +kernel)
theorem dz_348 : decode cL_law 348 = .ok (.iaload, 1) := dw_at dwl_2 (p := 108) rfl (by decide +kernel)
theorem dz_349 : decode cL_law 349 = .ok (.invokevirtual 148, 3) := dw_at dwl_2 (p := 109) rfl (by decide +kernel)
theorem dz_352 : decode cL_law 352 = .ok (.istore 6, 2) := dw_at dwl_2 (p := 112) rfl (by decide +kernel)
theorem dz_354 : decode cL_law 354 = .ok (.goto 1356, 3) := dw_at dwl_2 (p := 114) rfl (by decide +kernel)
def ltp_braid (vl : Nat → Nat) (K : Nat) (x1 : Int32) (x2 : Int32) (x3 : Int32) (x4 : Int32) (x5 : Int32) (zc zm : ow_MS) : Option ow_LwS :=
 cs1 (le_L_braid vl K 0 x1 zc) fun v2 zc1 => cs1 (qe_X13_braid K x1 zm) fun v4 zm3 => some (vl, zc1, zm3)
set_option maxHeartbeats 4000000 in
set_option maxRecDepth 100000 in
theorem lxc_braid {p : Program} {l : Launch} {e : Env} {s : State} {m : MethodId} {args : Array Value} {below : List Frame} {meth : Method} {c : Code} {b L K n : Nat} {xs : Nat → Int32} {D : va_G} {q : Nat → ClassId} {q5 : ow_Q5} {vl u w sa : Nat → Nat} {zc zm : ow_MS} {S1 : ow_LwS} {Ts : List Cond} {Q : State → Prop} {H : Heap} {locs : List Loc} {ls : Array Slot} {cells slots : Nat} (hx : p.tables.exec = Jvm.exec) (hb : c.code = cL_law) (hml : c.maxLocals = 8) (hown : s.vm.findClass RL = some m.cls) (hts : ∀ w ∈ Ts, w.before args s = true) (hX : va_X b L xs s s.heap) (hbl : b < s.heap.size) (hZ : ∀ w ∈ wZ, w ∈ Ts) (hL1 : ∀ w ∈ wLL, w ∈ Ts) (hC1 : ∀ w ∈ wC, w ∈ Ts) (hM1 : ∀ w ∈ wM, w ∈ Ts) (hG : lx_G l s D q q5 sa) (hLn : L ≤ 3072) (hn : 6 * n + 6 ≤ L) (hq : ltp_braid vl K (xs (6 * n + 1)) (xs (6 * n + 2)) (xs (6 * n + 3)) (xs (6 * n + 4)) (xs (6 * n + 5)) zc zm = some S1) (hM : lx_M D q q5 s vl u w zc zm H locs) (hl : lv_has ls 8 [(0, .ref b), (1, .ref (u 0)), (2, .ref (w 0)), (3, .ref (u 52001)), (4, .int (nI (6 * n)))]) (hc : cells + 2 ≤ 601024) (hs : slots + 12 ≤ 7293033) (kk : ∀ (zc1 zm1 : ow_MS) (H1 : Heap) (locs1 : List Loc) (ls1 : Array Slot), lx_M D q q5 s vl u w zc1 zm1 H1 locs1 → lv_has ls1 8 [(0, .ref b), (1, .ref (u 0)), (2, .ref (w 0)), (3, .ref (u 52001)), (4, .int (nI (6 * n)))] → some (vl, zc1, zm1) = some S1 → W p l e room_1 s m args below meth c H1 locs1 (cells + 2) (slots + 12) Q (F0 m 1710 ls1 [])) : W p l e room_1 s m args below meth c H locs cells slots Q (F0 m 329 ls []) := by
  have hbA : ¬ lx_A s b := Nat.not_le.mpr hbl
  generalize e1 : xs (6 * n + 1) = x1 at hq
  generalize e2 : xs (6 * n + 2) = x2 at hq
  generalize e3 : xs (6 * n + 3) = x3 at hq
  generalize e4 : xs (6 * n + 4) = x4 at hq
  generalize e5 : xs (6 * n + 5) = x5 at hq
  unfold ltp_braid at hq
  refine lv_aload_n hx hb dz_329 rfl (lv_at hl 1 rfl) ?_
  refine lv_aload_n hx hb dz_330 rfl (lv_at hl 0 rfl) ?_
  refine lv_iload hx hb dz_331 (lv_at hl 4 rfl) ?_
  refine lv_iconst (v := 1) hx hb dz_333 (by decide) ?_
  refine lv_iadd hx hb dz_334 ?_
  refine ow_topi (y := nI (6 * n + 1)) (nI_add (6 * n) 1) ?_
  refine va_sld hx hb hX hbl hbA hM.2.2.2.2.2 (vp_in_nI (n := 6 * n + 1) (N := L) (by omega) (by omega)) dz_335 ?_
  refine ow_topi (y := x1) ((congrArg xs (nI_clamp (by omega))).trans e1) ?_
  refine lv_aload_n hx hb dz_336 rfl (lv_at hl 3 rfl) ?_
  obtain ⟨v2, zc1, hcq, hq⟩ := tw_cl1 hq
  refine lx_wrap hM (vx_runSX (As := [.ref (u 0), .int x1, .ref (u 52001)]) (rest := []) ⟨hx, hb, hml, hown, hts⟩ (kl_L_braid l D q vl u hM.2.2.1.1 hG.1 sa K 0 x1 (by unfold cw_X11 ci_X11; exact List.mem_singleton.mpr rfl) zc zc1 v2 hcq) (vx_cwSW 3 hts (lx_gS (lx_all wLL_good rfl) (lx_mem hL1 (hZ _ zq_27)) (hZ _ zq_28) (hZ _ zq_29) (hZ _ zq_3) rfl rfl rfl) rfl rfl rfl (by decide +kernel) ⟨(Nat.le_of_ble_eq_true rfl), (Nat.le_of_ble_eq_true rfl)⟩) (lx_preL hG hM) rfl rfl hl.1 rfl (lv_room (Nat.le_of_ble_eq_true rfl)) dz_337 ⟨(by show _ ≤ 601024; omega), (by show _ ≤ 7293033; omega)⟩) (fun H locs hM => ?_)
  refine lv_istore (lv' := [(5, .int v2), (0, .ref b), (1, .ref (u 0)), (2, .ref (w 0)), (3, .ref (u 52001)), (4, .int (nI (6 * n)))]) hx hb dz_340 hl (by decide) rfl (fun ls hl => ?_)
  refine lv_aload_n hx hb dz_342 rfl (lv_at hl 3 rfl) ?_
  refine lv_aload_n hx hb dz_343 rfl (lv_at hl 1 rfl) ?_
  refine lv_iload hx hb dz_344 (lv_at hl 5 rfl) ?_
  refine lv_iconst (v := 1) hx hb dz_346 (by decide) ?_
  refine lv_iadd hx hb dz_347 ?_
  refine ow_topi (y := nI (6 * n + 1)) (nI_add (6 * n) 1) ?_
  refine va_sld hx hb hX hbl hbA hM.2.2.2.2.2 (vp_in_nI (n := 6 * n + 1) (N := L) (by omega) (by omega)) dz_348 ?_
  refine ow_topi (y := x1) ((congrArg xs (nI_clamp (by omega))).trans e1) ?_
  obtain ⟨v4, zm3, hcq, hq⟩ := tw_cl1 hq
  refine lx_refi hM (va_runV (As := [.int x1]) (rest := []) ⟨hx, hb, hml, hown, hts⟩ (km_X13_braid l D q5 w hM.2.2.2.1.1 K x1 zm zm3 v4 hcq) (cwV 1 hts (lx_gV (lx_all wM_good rfl) (lx_mem hM1 (hZ _ zq_30)) (hZ _ zq_31) (hZ _ zq_32) (hZ _ zq_33) (hZ _ zq_8) rfl rfl rfl rfl) rfl rfl rfl cd_X13_braid ⟨(Nat.le_of_ble_eq_true rfl), (Nat.le_of_ble_eq_true rfl)⟩) (lx_preM hG hM) rfl rfl hl.1 rfl (lv_room (Nat.le_of_ble_eq_true rfl)) dz_349 ⟨(by show _ ≤ 601024; omega), (by show _ ≤ 7293033; omega)⟩) (fun H locs hM => ?_)
  refine lv_istore (lv' := [(6, .int v4), (5, .int v2), (0, .ref b), (1, .ref (u 0)), (2, .ref (w 0)), (3, .ref (u 52001)), (4, .int (nI (6 * n)))]) hx hb dz_352 hl (by decide) rfl (fun ls hl => ?_)
  refine lv_goto (tgt := 1710) hx hb dz_354 (by decide) ?_
  exact kk _ _ H locs ls hM (lv_sub hl [2, 3, 4, 5, 6] rfl) hq
theorem dz_357 : decode cL_law 357 = .ok (.aload_n 1, 1) := dw_at dwl_2 (p := 117) rfl (by decide +kernel)
theorem dz_358 : decode cL_law 358 = .ok (.aload_n 0, 1) := dw_at dwl_2 (p := 118) rfl (by decide +kernel)
theorem dz_359 : decode cL_law 359 = .ok (.iload 4, 2) := dw_at dwl_2 (p := 119) rfl (by decide +kernel)
theorem dz_361 : decode cL_law 361 = .ok (.iconst 1, 1) := dw_at dwl_3 (p := 1) rfl (by decide +kernel)
theorem dz_362 : decode cL_law 362 = .ok (.iadd, 1) := dw_at dwl_3 (p := 2) rfl (by decide +kernel)
theorem dz_363 : decode cL_law 363 = .ok (.iaload, 1) := dw_at dwl_3 (p := 3) rfl (by decide +kernel)
theorem dz_364 : decode cL_law 364 = .ok (.invokevirtual 149, 3) := dw_at dwl_3 (p := 4) rfl (by decide +kernel)
theorem dz_367 : decode cL_law 367 = .ok (.pop, 1) := dw_at dwl_3 (p := 7) rfl (by decide +kernel)
theorem dz_368 : decode cL_law 368 = .ok (.aload_n 2, 1) := dw_at dwl_3 (p := 8) rfl (by decide +kernel)
theorem dz_369 : decode cL_law 369 = .ok (.aload_n 0, 1) := dw_at dwl_3 (p := 9) rfl (by decide +kernel)
theorem dz_370 : decode cL_law 370 = .ok (.iload 4, 2) := dw_at dwl_3 (p := 10) rfl (by decide +kernel)
theorem dz_372 : decode cL_law 372 = .ok (.iconst 1, 1) := dw_at dwl_3 (p := 12) rfl (by decide +kernel)
theorem dz_373 : decode cL_law 373 = .ok (.iadd, 1) := dw_at dwl_3 (p := 13) rfl (by decide +kernel)
theorem dz_374 : decode cL_law 374 = .ok (.iaload, 1) := dw_at dwl_3 (p := 14) rfl (by decide +kernel)
theorem dz_375 : decode cL_law 375 = .ok (.invokevirtual 153, 3) := dw_at dwl_3 (p := 15) rfl (by decide +kernel)
theorem dz_378 : decode cL_law 378 = .ok (.pop, 1) := dw_at dwl_3 (p := 18) rfl (by decide +kernel)
theorem dz_379 : decode cL_law 379 = .ok (.goto 1331, 3) := dw_at dwl_3 (p := 19) rfl (by decide +kernel)
def ltp_drop (vl : Nat → Nat) (K : Nat) (x1 : Int32) (x2 : Int32) (x3 : Int32) (x4 : Int32) (x5 : Int32) (zc zm : ow_MS) : Option ow_LwS :=
 cs1 (ce_X11_drop vl K 0 x1 zc) fun v2 zc1 => cs1 (qe_X13_drop K x1 zm) fun v4 zm3 => some (vl, zc1, zm3)
set_option maxHeartbeats 4000000 in
set_option maxRecDepth 100000 in
theorem lxc_drop {p : Program} {l : Launch} {e : Env} {s : State} {m : MethodId} {args : Array Value} {below : List Frame} {meth : Method} {c : Code} {b L K n : Nat} {xs : Nat → Int32} {D : va_G} {q : Nat → ClassId} {q5 : ow_Q5} {vl u w sa : Nat → Nat} {zc zm : ow_MS} {S1 : ow_LwS} {Ts : List Cond} {Q : State → Prop} {H : Heap} {locs : List Loc} {ls : Array Slot} {cells slots : Nat} (hx : p.tables.exec = Jvm.exec) (hb : c.code = cL_law) (hml : c.maxLocals = 8) (hown : s.vm.findClass RL = some m.cls) (hts : ∀ w ∈ Ts, w.before args s = true) (hX : va_X b L xs s s.heap) (hbl : b < s.heap.size) (hZ : ∀ w ∈ wZ, w ∈ Ts) (hL1 : ∀ w ∈ wLL, w ∈ Ts) (hC1 : ∀ w ∈ wC, w ∈ Ts) (hM1 : ∀ w ∈ wM, w ∈ Ts) (hG : lx_G l s D q q5 sa) (hLn : L ≤ 3072) (hn : 6 * n + 6 ≤ L) (hq : ltp_drop vl K (xs (6 * n + 1)) (xs (6 * n + 2)) (xs (6 * n + 3)) (xs (6 * n + 4)) (xs (6 * n + 5)) zc zm = some S1) (hM : lx_M D q q5 s vl u w zc zm H locs) (hl : lv_has ls 8 [(0, .ref b), (1, .ref (u 0)), (2, .ref (w 0)), (3, .ref (u 52001)), (4, .int (nI (6 * n)))]) (hc : cells + 0 ≤ 601024) (hs : slots + 0 ≤ 7293033) (kk : ∀ (zc1 zm1 : ow_MS) (H1 : Heap) (locs1 : List Loc) (ls1 : Array Slot), lx_M D q q5 s vl u w zc1 zm1 H1 locs1 → lv_has ls1 8 [(0, .ref b), (1, .ref (u 0)), (2, .ref (w 0)), (3, .ref (u 52001)), (4, .int (nI (6 * n)))] → some (vl, zc1, zm1) = some S1 → W p l e room_1 s m args below meth c H1 locs1 (cells + 0) (slots + 0) Q (F0 m 1710 ls1 [])) : W p l e room_1 s m args below meth c H locs cells slots Q (F0 m 357 ls []) := by
  have hbA : ¬ lx_A s b := Nat.not_le.mpr hbl
  generalize e1 : xs (6 * n + 1) = x1 at hq
  generalize e2 : xs (6 * n + 2) = x2 at hq
  generalize e3 : xs (6 * n + 3) = x3 at hq
  generalize e4 : xs (6 * n + 4) = x4 at hq
  generalize e5 : xs (6 * n + 5) = x5 at hq
  unfold ltp_drop at hq
  refine lv_aload_n hx hb dz_357 rfl (lv_at hl 1 rfl) ?_
  refine lv_aload_n hx hb dz_358 rfl (lv_at hl 0 rfl) ?_
  refine lv_iload hx hb dz_359 (lv_at hl 4 rfl) ?_
  refine lv_iconst (v := 1) hx hb dz_361 (by decide) ?_
  refine lv_iadd hx hb dz_362 ?_
  refine ow_topi (y := nI (6 * n + 1)) (nI_add (6 * n) 1) ?_
  refine va_sld hx hb hX hbl hbA hM.2.2.2.2.2 (vp_in_nI (n := 6 * n + 1) (N := L) (by omega) (by omega)) dz_363 ?_
  refine ow_topi (y := x1) ((congrArg xs (nI_clamp (by omega))).trans e1) ?_
  obtain ⟨v2, zc1, hcq, hq⟩ := tw_cl1 hq
  refine lx_cls hM (va_runV (As := [.int x1]) (rest := []) ⟨hx, hb, hml, hown, hts⟩ (kc_X11_drop l D q vl u hM.2.2.1.1 K 0 x1 (by unfold cw_X11 ci_X11; exact List.mem_singleton.mpr rfl) zc zc1 v2 hcq) (cwV 1 hts (lx_gV (lx_all wC_good rfl) (lx_mem hC1 (hZ _ zq_34)) (hZ _ zq_35) (hZ _ zq_36) (hZ _ zq_37) (hZ _ zq_38) rfl rfl rfl rfl) rfl rfl rfl cdd_X11_drop ⟨(Nat.le_of_ble_eq_true rfl), (Nat.le_of_ble_eq_true rfl)⟩) (lx_preC hG hM) rfl rfl hl.1 rfl (lv_room (Nat.le_of_ble_eq_true rfl)) dz_364 ⟨(by show _ ≤ 601024; omega), (by show _ ≤ 7293033; omega)⟩) (fun H locs hM => ?_)
  refine lv_pop hx hb dz_367 rfl ?_
  refine lv_aload_n hx hb dz_368 rfl (lv_at hl 2 rfl) ?_
  refine lv_aload_n hx hb dz_369 rfl (lv_at hl 0 rfl) ?_
  refine lv_iload hx hb dz_370 (lv_at hl 4 rfl) ?_
  refine lv_iconst (v := 1) hx hb dz_372 (by decide) ?_
  refine lv_iadd hx hb dz_373 ?_
  refine ow_topi (y := nI (6 * n + 1)) (nI_add (6 * n) 1) ?_
  refine va_sld hx hb hX hbl hbA hM.2.2.2.2.2 (vp_in_nI (n := 6 * n + 1) (N := L) (by omega) (by omega)) dz_374 ?_
  refine ow_topi (y := x1) ((congrArg xs (nI_clamp (by omega))).trans e1) ?_
  obtain ⟨v4, zm3, hcq, hq⟩ := tw_cl1 hq
  refine lx_refi hM (va_runV (As := [.int x1]) (rest := []) ⟨hx, hb, hml, hown, hts⟩ (km_X13_drop l D q5 w hM.2.2.2.1.1 K x1 zm zm3 v4 hcq) (cwV 1 hts (lx_gV (lx_all wM_good rfl) (lx_mem hM1 (hZ _ zq_39)) (hZ _ zq_40) (hZ _ zq_41) (hZ _ zq_42) (hZ _ zq_8) rfl rfl rfl rfl) rfl rfl rfl cd_X13_drop ⟨(Nat.le_of_ble_eq_true rfl), (Nat.le_of_ble_eq_true rfl)⟩) (lx_preM hG hM) rfl rfl hl.1 rfl (lv_room (Nat.le_of_ble_eq_true rfl)) dz_375 ⟨(by show _ ≤ 601024; omega), (by show _ ≤ 7293033; omega)⟩) (fun H locs hM => ?_)
  refine lv_pop hx hb dz_378 rfl ?_
  refine lv_goto (tgt := 1710) hx hb dz_379 (by decide) ?_
  exact kk _ _ H locs ls hM (lv_sub hl [0, 1, 2, 3, 4] rfl) hq
theorem dz_382 : decode cL_law 382 = .ok (.aload_n 1, 1) := dw_at dwl_3 (p := 22) rfl (by decide +kernel)
theorem dz_383 : decode cL_law 383 = .ok (.aload_n 0, 1) := dw_at dwl_3 (p := 23) rfl (by decide +kernel)
theorem dz_384 : decode cL_law 384 = .ok (.iload 4, 2) := dw_at dwl_3 (p := 24) rfl (by decide +kernel)
theorem dz_386 : decode cL_law 386 = .ok (.iconst 1, 1) := dw_at dwl_3 (p := 26) rfl (by decide +kernel)
theorem dz_387 : decode cL_law 387 = .ok (.iadd, 1) := dw_at dwl_3 (p := 27) rfl (by decide +kernel)
theorem dz_388 : decode cL_law 388 = .ok (.iaload, 1) := dw_at dwl_3 (p := 28) rfl (by decide +kernel)
theorem dz_389 : decode cL_law 389 = .ok (.invokevirtual 154, 3) := dw_at dwl_3 (p := 29) rfl (by decide +kernel)
theorem dz_392 : decode cL_law 392 = .ok (.pop, 1) := dw_at dwl_3 (p := 32) rfl (by decide +kernel)
theorem dz_393 : decode cL_law 393 = .ok (.aload_n 2, 1) := dw_at dwl_3 (p := 33) rfl (by decide +kernel)
theorem dz_394 : decode cL_law 394 = .ok (.aload_n 0, 1) := dw_at dwl_3 (p := 34) rfl (by decide +kernel)
theorem dz_395 : decode cL_law 395 = .ok (.iload 4, 2) := dw_at dwl_3 (p := 35) rfl (by decide +kernel)
theorem dz_397 : decode cL_law 397 = .ok (.iconst 1, 1) := dw_at dwl_3 (p := 37) rfl (by decide +kernel)
theorem dz_398 : decode cL_law 398 = .ok (.iadd, 1) := dw_at dwl_3 (p := 38) rfl (by decide +kernel)
theorem dz_399 : decode cL_law 399 = .ok (.iaload, 1) := dw_at dwl_3 (p := 39) rfl (by decide +kernel)
theorem dz_400 : decode cL_law 400 = .ok (.invokevirtual 157, 3) := dw_at dwl_3 (p := 40) rfl (by decide +kernel)
theorem dz_403 : decode cL_law 403 = .ok (.pop, 1) := dw_at dwl_3 (p := 43) rfl (by decide +kernel)
theorem dz_404 : decode cL_law 404 = .ok (.goto 1306, 3) := dw_at dwl_3 (p := 44) rfl (by decide +kernel)
def ltp_dropBraid (vl : Nat → Nat) (K : Nat) (x1 : Int32) (x2 : Int32) (x3 : Int32) (x4 : Int32) (x5 : Int32) (zc zm : ow_MS) : Option ow_LwS :=
 cs1 (ce_X11_dropBraid vl K 0 x1 zc) fun v2 zc1 => cs1 (qe_X13_dropBraid K x1 zm) fun v4 zm3 => some (vl, zc1, zm3)
set_option maxHeartbeats 4000000 in
set_option maxRecDepth 100000 in
theorem lxc_dropBraid {p : Program} {l : Launch} {e : Env} {s : State} {m : MethodId} {args : Array Value} {below : List Frame} {meth : Method} {c : Code} {b L K n : Nat} {xs : Nat → Int32} {D : va_G} {q : Nat → ClassId} {q5 : ow_Q5} {vl u w sa : Nat → Nat} {zc zm : ow_MS} {S1 : ow_LwS} {Ts : List Cond} {Q : State → Prop} {H : Heap} {locs : List Loc} {ls : Array Slot} {cells slots : Nat} (hx : p.tables.exec = Jvm.exec) (hb : c.code = cL_law) (hml : c.maxLocals = 8) (hown : s.vm.findClass RL = some m.cls) (hts : ∀ w ∈ Ts, w.before args s = true) (hX : va_X b L xs s s.heap) (hbl : b < s.heap.size) (hZ : ∀ w ∈ wZ, w ∈ Ts) (hL1 : ∀ w ∈ wLL, w ∈ Ts) (hC1 : ∀ w ∈ wC, w ∈ Ts) (hM1 : ∀ w ∈ wM, w ∈ Ts) (hG : lx_G l s D q q5 sa) (hLn : L ≤ 3072) (hn : 6 * n + 6 ≤ L) (hq : ltp_dropBraid vl K (xs (6 * n + 1)) (xs (6 * n + 2)) (xs (6 * n + 3)) (xs (6 * n + 4)) (xs (6 * n + 5)) zc zm = some S1) (hM : lx_M D q q5 s vl u w zc zm H locs) (hl : lv_has ls 8 [(0, .ref b), (1, .ref (u 0)), (2, .ref (w 0)), (3, .ref (u 52001)), (4, .int (nI (6 * n)))]) (hc : cells + 0 ≤ 601024) (hs : slots + 0 ≤ 7293033) (kk : ∀ (zc1 zm1 : ow_MS) (H1 : Heap) (locs1 : List Loc) (ls1 : Array Slot), lx_M D q q5 s vl u w zc1 zm1 H1 locs1 → lv_has ls1 8 [(0, .ref b), (1, .ref (u 0)), (2, .ref (w 0)), (3, .ref (u 52001)), (4, .int (nI (6 * n)))] → some (vl, zc1, zm1) = some S1 → W p l e room_1 s m args below meth c H1 locs1 (cells + 0) (slots + 0) Q (F0 m 1710 ls1 [])) : W p l e room_1 s m args below meth c H locs cells slots Q (F0 m 382 ls []) := by
  have hbA : ¬ lx_A s b := Nat.not_le.mpr hbl
  generalize e1 : xs (6 * n + 1) = x1 at hq
  generalize e2 : xs (6 * n + 2) = x2 at hq
  generalize e3 : xs (6 * n + 3) = x3 at hq
  generalize e4 : xs (6 * n + 4) = x4 at hq
  generalize e5 : xs (6 * n + 5) = x5 at hq
  unfold ltp_dropBraid at hq
  refine lv_aload_n hx hb dz_382 rfl (lv_at hl 1 rfl) ?_
  refine lv_aload_n hx hb dz_383 rfl (lv_at hl 0 rfl) ?_
  refine lv_iload hx hb dz_384 (lv_at hl 4 rfl) ?_
  refine lv_iconst (v := 1) hx hb dz_386 (by decide) ?_
  refine lv_iadd hx hb dz_387 ?_
  refine ow_topi (y := nI (6 * n + 1)) (nI_add (6 * n) 1) ?_
  refine va_sld hx hb hX hbl hbA hM.2.2.2.2.2 (vp_in_nI (n := 6 * n + 1) (N := L) (by omega) (by omega)) dz_388 ?_
  refine ow_topi (y := x1) ((congrArg xs (nI_clamp (by omega))).trans e1) ?_
  obtain ⟨v2, zc1, hcq, hq⟩ := tw_cl1 hq
  refine lx_cls hM (va_runV (As := [.int x1]) (rest := []) ⟨hx, hb, hml, hown, hts⟩ (kc_X11_dropBraid l D q vl u hM.2.2.1.1 K 0 x1 (by unfold cw_X11 ci_X11; exact List.mem_singleton.mpr rfl) zc zc1 v2 hcq) (cwV 1 hts (lx_gV (lx_all wC_good rfl) (lx_mem hC1 (hZ _ zq_43)) (hZ _ zq_44) (hZ _ zq_45) (hZ _ zq_46) (hZ _ zq_38) rfl rfl rfl rfl) rfl rfl rfl cdd_X11_dropBraid ⟨(Nat.le_of_ble_eq_true rfl), (Nat.le_of_ble_eq_true rfl)⟩) (lx_preC hG hM) rfl rfl hl.1 rfl (lv_room (Nat.le_of_ble_eq_true rfl)) dz_389 ⟨(by show _ ≤ 601024; omega), (by show _ ≤ 7293033; omega)⟩) (fun H locs hM => ?_)
  refine lv_pop hx hb dz_392 rfl ?_
  refine lv_aload_n hx hb dz_393 rfl (lv_at hl 2 rfl) ?_
  refine lv_aload_n hx hb dz_394 rfl (lv_at hl 0 rfl) ?_
  refine lv_iload hx hb dz_395 (lv_at hl 4 rfl) ?_
  refine lv_iconst (v := 1) hx hb dz_397 (by decide) ?_
  refine lv_iadd hx hb dz_398 ?_
  refine ow_topi (y := nI (6 * n + 1)) (nI_add (6 * n) 1) ?_
  refine va_sld hx hb hX hbl hbA hM.2.2.2.2.2 (vp_in_nI (n := 6 * n + 1) (N := L) (by omega) (by omega)) dz_399 ?_
  refine ow_topi (y := x1) ((congrArg xs (nI_clamp (by omega))).trans e1) ?_
  obtain ⟨v4, zm3, hcq, hq⟩ := tw_cl1 hq
  refine lx_refi hM (va_runV (As := [.int x1]) (rest := []) ⟨hx, hb, hml, hown, hts⟩ (km_X13_dropBraid l D q5 w hM.2.2.2.1.1 K x1 zm zm3 v4 hcq) (cwV 1 hts (lx_gV (lx_all wM_good rfl) (lx_mem hM1 (hZ _ zq_47)) (hZ _ zq_48) (hZ _ zq_49) (hZ _ zq_50) (hZ _ zq_8) rfl rfl rfl rfl) rfl rfl rfl cd_X13_dropBraid ⟨(Nat.le_of_ble_eq_true rfl), (Nat.le_of_ble_eq_true rfl)⟩) (lx_preM hG hM) rfl rfl hl.1 rfl (lv_room (Nat.le_of_ble_eq_true rfl)) dz_400 ⟨(by show _ ≤ 601024; omega), (by show _ ≤ 7293033; omega)⟩) (fun H locs hM => ?_)
  refine lv_pop hx hb dz_403 rfl ?_
  refine lv_goto (tgt := 1710) hx hb dz_404 (by decide) ?_
  exact kk _ _ H locs ls hM (lv_sub hl [0, 1, 2, 3, 4] rfl) hq
theorem dz_407 : decode cL_law 407 = .ok (.aload_n 1, 1) := dw_at dwl_3 (p := 47) rfl (by decide +kernel)
theorem dz_408 : decode cL_law 408 = .ok (.aload_n 0, 1) := dw_at dwl_3 (p := 48) rfl (by decide +kernel)
theorem dz_409 : decode cL_law 409 = .ok (.iload 4, 2) := dw_at dwl_3 (p := 49) rfl (by decide +kernel)
theorem dz_411 : decode cL_law 411 = .ok (.iconst 1, 1) := dw_at dwl_3 (p := 51) rfl (by decide +kernel)
theorem dz_412 : decode cL_law 412 = .ok (.iadd, 1) := dw_at dwl_3 (p := 52) rfl (by decide +kernel)
theorem dz_413 : decode cL_law 413 = .ok (.iaload, 1) := dw_at dwl_3 (p := 53) rfl (by decide +kernel)
theorem dz_414 : decode cL_law 414 = .ok (.aload_n 0, 1) := dw_at dwl_3 (p := 54) rfl (by decide +kernel)
theorem dz_415 : decode cL_law 415 = .ok (.iload 4, 2) := dw_at dwl_3 (p := 55) rfl (by decide +kernel)
theorem dz_417 : decode cL_law 417 = .ok (.iconst 2, 1) := dw_at dwl_3 (p := 57) rfl (by decide +kernel)
theorem dz_418 : decode cL_law 418 = .ok (.iadd, 1) := dw_at dwl_3 (p := 58) rfl (by decide +kernel)
theorem dz_419 : decode cL_law 419 = .ok (.iaload, 1) := dw_at dwl_3 (p := 59) rfl (by decide +kernel)
theorem dz_420 : decode cL_law 420 = .ok (.aload_n 3, 1) := dw_at dwl_3 (p := 60) rfl (by decide +kernel)
theorem dz_421 : decode cL_law 421 = .ok (.invokestatic 158, 3) := dw_at dwl_3 (p := 61) rfl (by decide +kernel)
theorem dz_424 : decode cL_law 424 = .ok (.istore 5, 2) := dw_at dwl_3 (p := 64) rfl (by decide +kernel)
theorem dz_426 : decode cL_law 426 = .ok (.aload_n 2, 1) := dw_at dwl_3 (p := 66) rfl (by decide +kernel)
theorem dz_427 : decode cL_law 427 = .ok (.aload_n 0, 1) := dw_at dwl_3 (p := 67) rfl (by decide +kernel)
theorem dz_428 : decode cL_law 428 = .ok (.iload 4, 2) := dw_at dwl_3 (p := 68) rfl (by decide +kernel)
theorem dz_430 : decode cL_law 430 = .ok (.iconst 1, 1) := dw_at dwl_3 (p := 70) rfl (by decide +kernel)
theorem dz_431 : decode cL_law 431 = .ok (.iadd, 1) := dw_at dwl_3 (p := 71) rfl (by decide +kernel)
theorem dz_432 : decode cL_law 432 = .ok (.iaload, 1) := dw_at dwl_3 (p := 72) rfl (by decide +kernel)
theorem dz_433 : decode cL_law 433 = .ok (.aload_n 0, 1) := dw_at dwl_3 (p := 73) rfl (by decide +kernel)
theorem dz_434 : decode cL_law 434 = .ok (.iload 4, 2) := dw_at dwl_3 (p := 74) rfl (by decide +kernel)
theorem dz_436 : decode cL_law 436 = .ok (.iconst 2, 1) := dw_at dwl_3 (p := 76) rfl (by decide +kernel)
theorem dz_437 : decode cL_law 437 = .ok (.iadd, 1) := dw_at dwl_3 (p := 77) rfl (by decide +kernel)
theorem dz_438 : decode cL_law 438 = .ok (.iaload, 1) := dw_at dwl_3 (p := 78) rfl (by decide +kernel)
theorem dz_439 : decode cL_law 439 = .ok (.invokevirtual 161, 3) := dw_at dwl_3 (p := 79) rfl (by decide +kernel)
theorem dz_442 : decode cL_law 442 = .ok (.istore 6, 2) := dw_at dwl_3 (p := 82) rfl (by decide +kernel)
theorem dz_444 : decode cL_law 444 = .ok (.aload_n 2, 1) := dw_at dwl_3 (p := 84) rfl (by decide +kernel)
theorem dz_445 : decode cL_law 445 = .ok (.invokevirtual 162, 3) := dw_at dwl_3 (p := 85) rfl (by decide +kernel)
theorem dz_448 : decode cL_law 448 = .ok (.iload 5, 2) := dw_at dwl_3 (p := 88) rfl (by decide +kernel)
theorem dz_450 : decode cL_law 450 = .ok (.if_icmp .eq 5, 3) := dw_at dwl_3 (p := 90) rfl (by decide +kernel)
theorem dz_453 : decode cL_law 453 = .ok (.iconst 0, 1) := dw_at dwl_3 (p := 93) rfl (by decide +kernel)
theorem dz_455 : decode cL_law 455 = .ok (.iload 5, 2) := dw_at dwl_3 (p := 95) rfl (by decide +kernel)
theorem dz_457 : decode cL_law 457 = .ok (.ifCond .ne 15, 3) := dw_at dwl_3 (p := 97) rfl (by decide +kernel)
theorem dz_460 : decode cL_law 460 = .ok (.aload_n 3, 1) := dw_at dwl_3 (p := 100) rfl (by decide +kernel)
theorem dz_461 : decode cL_law 461 = .ok (.iconst 0, 1) := dw_at dwl_3 (p := 101) rfl (by decide +kernel)
theorem dz_462 : decode cL_law 462 = .ok (.laload, 1) := dw_at dwl_3 (p := 102) rfl (by decide +kernel)
theorem dz_463 : decode cL_law 463 = .ok (.iload 6, 2) := dw_at dwl_3 (p := 103) rfl (by decide +kernel)
theorem dz_465 : decode cL_law 465 = .ok (.i2l, 1) := dw_at dwl_3 (p := 105) rfl (by decide +kernel)
theorem dz_466 : decode cL_law 466 = .ok (.lcmp, 1) := dw_at dwl_3 (p := 106) rfl (by decide +kernel)
theorem dz_467 : decode cL_law 467 = .ok (.ifCond .eq 5, 3) := dw_at dwl_3 (p := 107) rfl (by decide +kernel)
theorem dz_470 : decode cL_law 470 = .ok (.iconst 0, 1) := dw_at dwl_3 (p := 110) rfl (by decide +kernel)
theorem dz_472 : decode cL_law 472 = .ok (.goto 1238, 3) := dw_at dwl_3 (p := 112) rfl (by decide +kernel)
def ltp_figure (vl : Nat → Nat) (K : Nat) (x1 : Int32) (x2 : Int32) (x3 : Int32) (x4 : Int32) (x5 : Int32) (zc zm : ow_MS) : Option ow_LwS :=
 cs1 (le_L_figure vl K 0 x1 x2 zc) fun v2 zc1 => cs1 (qe_X13_figure K x1 x2 zm) fun v4 zm3 => cs1 (qe_X13_thrown K zm3) fun v6 zm5 => (if v6 = v2 then (if v2 = 0 then crJ (cX vl) zc1 52001 0 fun v7 => (if (lg_cmp v7 v4.toInt64) = 0 then some (vl, zc1, zm5)
 else none)
 else some (vl, zc1, zm5))
 else none)
set_option maxHeartbeats 4000000 in
set_option maxRecDepth 100000 in
theorem lxc_figure {p : Program} {l : Launch} {e : Env} {s : State} {m : MethodId} {args : Array Value} {below : List Frame} {meth : Method} {c : Code} {b L K n : Nat} {xs : Nat → Int32} {D : va_G} {q : Nat → ClassId} {q5 : ow_Q5} {vl u w sa : Nat → Nat} {zc zm : ow_MS} {S1 : ow_LwS} {Ts : List Cond} {Q : State → Prop} {H : Heap} {locs : List Loc} {ls : Array Slot} {cells slots : Nat} (hx : p.tables.exec = Jvm.exec) (hb : c.code = cL_law) (hml : c.maxLocals = 8) (hown : s.vm.findClass RL = some m.cls) (hts : ∀ w ∈ Ts, w.before args s = true) (hX : va_X b L xs s s.heap) (hbl : b < s.heap.size) (hZ : ∀ w ∈ wZ, w ∈ Ts) (hL1 : ∀ w ∈ wLL, w ∈ Ts) (hC1 : ∀ w ∈ wC, w ∈ Ts) (hM1 : ∀ w ∈ wM, w ∈ Ts) (hG : lx_G l s D q q5 sa) (hLn : L ≤ 3072) (hn : 6 * n + 6 ≤ L) (hq : ltp_figure vl K (xs (6 * n + 1)) (xs (6 * n + 2)) (xs (6 * n + 3)) (xs (6 * n + 4)) (xs (6 * n + 5)) zc zm = some S1) (hM : lx_M D q q5 s vl u w zc zm H locs) (hl : lv_has ls 8 [(0, .ref b), (1, .ref (u 0)), (2, .ref (w 0)), (3, .ref (u 52001)), (4, .int (nI (6 * n)))]) (hc : cells + 2 ≤ 601024) (hs : slots + 12 ≤ 7293033) (kk : ∀ (zc1 zm1 : ow_MS) (H1 : Heap) (locs1 : List Loc) (ls1 : Array Slot), lx_M D q q5 s vl u w zc1 zm1 H1 locs1 → lv_has ls1 8 [(0, .ref b), (1, .ref (u 0)), (2, .ref (w 0)), (3, .ref (u 52001)), (4, .int (nI (6 * n)))] → some (vl, zc1, zm1) = some S1 → W p l e room_1 s m args below meth c H1 locs1 (cells + 2) (slots + 12) Q (F0 m 1710 ls1 [])) : W p l e room_1 s m args below meth c H locs cells slots Q (F0 m 407 ls []) := by
  have hbA : ¬ lx_A s b := Nat.not_le.mpr hbl
  generalize e1 : xs (6 * n + 1) = x1 at hq
  generalize e2 : xs (6 * n + 2) = x2 at hq
  generalize e3 : xs (6 * n + 3) = x3 at hq
  generalize e4 : xs (6 * n + 4) = x4 at hq
  generalize e5 : xs (6 * n + 5) = x5 at hq
  unfold ltp_figure at hq
  refine lv_aload_n hx hb dz_407 rfl (lv_at hl 1 rfl) ?_
  refine lv_aload_n hx hb dz_408 rfl (lv_at hl 0 rfl) ?_
  refine lv_iload hx hb dz_409 (lv_at hl 4 rfl) ?_
  refine lv_iconst (v := 1) hx hb dz_411 (by decide) ?_
  refine lv_iadd hx hb dz_412 ?_
  refine ow_topi (y := nI (6 * n + 1)) (nI_add (6 * n) 1) ?_
  refine va_sld hx hb hX hbl hbA hM.2.2.2.2.2 (vp_in_nI (n := 6 * n + 1) (N := L) (by omega) (by omega)) dz_413 ?_
  refine ow_topi (y := x1) ((congrArg xs (nI_clamp (by omega))).trans e1) ?_
  refine lv_aload_n hx hb dz_414 rfl (lv_at hl 0 rfl) ?_
  refine lv_iload hx hb dz_415 (lv_at hl 4 rfl) ?_
  refine lv_iconst (v := 2) hx hb dz_417 (by decide) ?_
  refine lv_iadd hx hb dz_418 ?_
  refine ow_topi (y := nI (6 * n + 2)) (nI_add (6 * n) 2) ?_
  refine va_sld hx hb hX hbl hbA hM.2.2.2.2.2 (vp_in_nI (n := 6 * n + 2) (N := L) (by omega) (by omega)) dz_419 ?_
  refine ow_topi (y := x2) ((congrArg xs (nI_clamp (by omega))).trans e2) ?_
  refine lv_aload_n hx hb dz_420 rfl (lv_at hl 3 rfl) ?_
  obtain ⟨v2, zc1, hcq, hq⟩ := tw_cl1 hq
  refine lx_wrap hM (vx_runSX (As := [.ref (u 0), .int x1, .int x2, .ref (u 52001)]) (rest := []) ⟨hx, hb, hml, hown, hts⟩ (kl_L_figure l D q vl u hM.2.2.1.1 hG.1 sa K 0 x1 x2 (by unfold cw_X11 ci_X11; exact List.mem_singleton.mpr rfl) zc zc1 v2 hcq) (vx_cwSW 4 hts (lx_gS (lx_all wLL_good rfl) (lx_mem hL1 (hZ _ zq_51)) (hZ _ zq_52) (hZ _ zq_53) (hZ _ zq_3) rfl rfl rfl) rfl rfl rfl (by decide +kernel) ⟨(Nat.le_of_ble_eq_true rfl), (Nat.le_of_ble_eq_true rfl)⟩) (lx_preL hG hM) rfl rfl hl.1 rfl (lv_room (Nat.le_of_ble_eq_true rfl)) dz_421 ⟨(by show _ ≤ 601024; omega), (by show _ ≤ 7293033; omega)⟩) (fun H locs hM => ?_)
  refine lv_istore (lv' := [(5, .int v2), (0, .ref b), (1, .ref (u 0)), (2, .ref (w 0)), (3, .ref (u 52001)), (4, .int (nI (6 * n)))]) hx hb dz_424 hl (by decide) rfl (fun ls hl => ?_)
  refine lv_aload_n hx hb dz_426 rfl (lv_at hl 3 rfl) ?_
  refine lv_aload_n hx hb dz_427 rfl (lv_at hl 1 rfl) ?_
  refine lv_iload hx hb dz_428 (lv_at hl 5 rfl) ?_
  refine lv_iconst (v := 1) hx hb dz_430 (by decide) ?_
  refine lv_iadd hx hb dz_431 ?_
  refine ow_topi (y := nI (6 * n + 1)) (nI_add (6 * n) 1) ?_
  refine va_sld hx hb hX hbl hbA hM.2.2.2.2.2 (vp_in_nI (n := 6 * n + 1) (N := L) (by omega) (by omega)) dz_432 ?_
  refine ow_topi (y := x1) ((congrArg xs (nI_clamp (by omega))).trans e1) ?_
  refine lv_aload_n hx hb dz_433 rfl (lv_at hl 1 rfl) ?_
  refine lv_iload hx hb dz_434 (lv_at hl 5 rfl) ?_
  refine lv_iconst (v := 2) hx hb dz_436 (by decide) ?_
  refine lv_iadd hx hb dz_437 ?_
  refine ow_topi (y := nI (6 * n + 2)) (nI_add (6 * n) 2) ?_
  refine va_sld hx hb hX hbl hbA hM.2.2.2.2.2 (vp_in_nI (n := 6 * n + 2) (N := L) (by omega) (by omega)) dz_438 ?_
  refine ow_topi (y := x2) ((congrArg xs (nI_clamp (by omega))).trans e2) ?_
  obtain ⟨v4, zm3, hcq, hq⟩ := tw_cl1 hq
  refine lx_refi hM (va_runV (As := [.int x1, .int x2]) (rest := []) ⟨hx, hb, hml, hown, hts⟩ (km_X13_figure l D q5 w hM.2.2.2.1.1 K x1 x2 zm zm3 v4 hcq) (cwV 2 hts (lx_gV (lx_all wM_good rfl) (lx_mem hM1 (hZ _ zq_54)) (hZ _ zq_55) (hZ _ zq_56) (hZ _ zq_57) (hZ _ zq_8) rfl rfl rfl rfl) rfl rfl rfl cd_X13_figure ⟨(Nat.le_of_ble_eq_true rfl), (Nat.le_of_ble_eq_true rfl)⟩) (lx_preM hG hM) rfl rfl hl.1 rfl (lv_room (Nat.le_of_ble_eq_true rfl)) dz_439 ⟨(by show _ ≤ 601024; omega), (by show _ ≤ 7293033; omega)⟩) (fun H locs hM => ?_)
  refine lv_istore (lv' := [(6, .int v4), (5, .int v2), (0, .ref b), (1, .ref (u 0)), (2, .ref (w 0)), (3, .ref (u 52001)), (4, .int (nI (6 * n)))]) hx hb dz_442 hl (by decide) rfl (fun ls hl => ?_)
  refine lv_aload_n hx hb dz_444 rfl (lv_at hl 4 rfl) ?_
  obtain ⟨v6, zm5, hcq, hq⟩ := tw_cl1 hq
  refine lx_refi hM (va_runV (As := []) (rest := []) ⟨hx, hb, hml, hown, hts⟩ (km_X13_thrown l D q5 w hM.2.2.2.1.1 K zm3 zm5 v6 hcq) (cwV 0 hts (lx_gV (lx_all wM_good rfl) (lx_mem hM1 (hZ _ zq_9)) (hZ _ zq_10) (hZ _ zq_11) (hZ _ zq_12) (hZ _ zq_8) rfl rfl rfl rfl) rfl rfl rfl cd_X13_thrown ⟨(Nat.le_of_ble_eq_true rfl), (Nat.le_of_ble_eq_true rfl)⟩) (lx_preM hG hM) rfl rfl hl.1 rfl (lv_room (Nat.le_of_ble_eq_true rfl)) dz_445 ⟨(by show _ ≤ 601024; omega), (by show _ ≤ 7293033; omega)⟩) (fun H locs hM => ?_)
  refine lv_iload hx hb dz_448 (lv_at hl 1 rfl) ?_
  refine lv_icmp_eq (tgt := 455) hx hb dz_450 (by decide) (fun hc9 => ?_) (fun hc9 => ?_)
  · have hq := tw_it hq hc9
    refine lv_iload hx hb dz_455 (lv_at hl 1 rfl) ?_
    refine lv_if_ne (tgt := 472) hx hb dz_457 (by decide) (fun hc9 => ?_) (fun hc9 => ?_)
    · have hq := tw_if hq hc9
      refine lv_goto (tgt := 1710) hx hb dz_472 (by decide) ?_
      exact kk _ _ H locs ls hM (lv_sub hl [2, 3, 4, 5, 6] rfl) hq
    · have hq := tw_it hq hc9
      refine lv_aload_n hx hb dz_460 rfl (lv_at hl 5 rfl) ?_
      refine lv_iconst (v := 0) hx hb dz_461 (by decide) ?_
      refine uw_lald (A := lx_A s) (H0 := s.heap) cX_ok hx hb hG.2.1 ⟨hM.1, hM.2.2.2.2.2⟩ cr_out hq dz_462 (fun v7 hq => ?_)
      refine lv_iload hx hb dz_463 (lv_at hl 0 rfl) ?_
      refine lv_i2l hx hb dz_465 rfl ?_
      refine W.lcmp hx hb dz_466 ?_
      refine lv_if_eq (tgt := 472) hx hb dz_467 (by decide) (fun hc9 => ?_) (fun hc9 => ?_)
      · have hq := tw_it hq hc9
        refine lv_goto (tgt := 1710) hx hb dz_472 (by decide) ?_
        exact kk _ _ H locs ls hM (lv_sub hl [2, 3, 4, 5, 6] rfl) hq
      · have hq := tw_if hq hc9
        refine lv_iconst (v := 0) hx hb dz_470 (by decide) ?_
        exact cw_no hq
  · have hq := tw_if hq hc9
    refine lv_iconst (v := 0) hx hb dz_453 (by decide) ?_
    exact cw_no hq
theorem dz_475 : decode cL_law 475 = .ok (.aload_n 1, 1) := dw_at dwl_3 (p := 115) rfl (by decide +kernel)
theorem dz_476 : decode cL_law 476 = .ok (.aload_n 0, 1) := dw_at dwl_3 (p := 116) rfl (by decide +kernel)
theorem dz_477 : decode cL_law 477 = .ok (.iload 4, 2) := dw_at dwl_3 (p := 117) rfl (by decide +kernel)
theorem dz_479 : decode cL_law 479 = .ok (.iconst 1, 1) := dw_at dwl_3 (p := 119) rfl (by decide +kernel)
theorem dz_480 : decode cL_law 480 = .ok (.iadd, 1) := dw_at dwl_4 (p := 0) rfl (by decide +kernel)
theorem dz_481 : decode cL_law 481 = .ok (.iaload, 1) := dw_at dwl_4 (p := 1) rfl (by decide +kernel)
theorem dz_482 : decode cL_law 482 = .ok (.aload_n 0, 1) := dw_at dwl_4 (p := 2) rfl (by decide +kernel)
theorem dz_483 : decode cL_law 483 = .ok (.iload 4, 2) := dw_at dwl_4 (p := 3) rfl (by decide +kernel)
theorem dz_485 : decode cL_law 485 = .ok (.iconst 2, 1) := dw_at dwl_4 (p := 5) rfl (by decide +kernel)
theorem dz_486 : decode cL_law 486 = .ok (.iadd, 1) := dw_at dwl_4 (p := 6) rfl (by decide +kernel)
theorem dz_487 : decode cL_law 487 = .ok (.iaload, 1) := dw_at dwl_4 (p := 7) rfl (by decide +kernel)
theorem dz_488 : decode cL_law 488 = .ok (.aload_n 0, 1) := dw_at dwl_4 (p := 8) rfl (by decide +kernel)
theorem dz_489 : decode cL_law 489 = .ok (.iload 4, 2) := dw_at dwl_4 (p := 9) rfl (by decide +kernel)
theorem dz_491 : decode cL_law 491 = .ok (.iconst 3, 1) := dw_at dwl_4 (p := 11) rfl (by decide +kernel)
theorem dz_492 : decode cL_law 492 = .ok (.iadd, 1) := dw_at dwl_4 (p := 12) rfl (by decide +kernel)
theorem dz_493 : decode cL_law 493 = .ok (.iaload, 1) := dw_at dwl_4 (p := 13) rfl (by decide +kernel)
theorem dz_494 : decode cL_law 494 = .ok (.aload_n 3, 1) := dw_at dwl_4 (p := 14) rfl (by decide +kernel)
theorem dz_495 : decode cL_law 495 = .ok (.invokestatic 165, 3) := dw_at dwl_4 (p := 15) rfl (by decide +kernel)
theorem dz_498 : decode cL_law 498 = .ok (.istore 5, 2) := dw_at dwl_4 (p := 18) rfl (by decide +kernel)
theorem dz_500 : decode cL_law 500 = .ok (.aload_n 2, 1) := dw_at dwl_4 (p := 20) rfl (by decide +kernel)
theorem dz_501 : decode cL_law 501 = .ok (.aload_n 0, 1) := dw_at dwl_4 (p := 21) rfl (by decide +kernel)
theorem dz_502 : decode cL_law 502 = .ok (.iload 4, 2) := dw_at dwl_4 (p := 22) rfl (by decide +kernel)
theorem dz_504 : decode cL_law 504 = .ok (.iconst 1, 1) := dw_at dwl_4 (p := 24) rfl (by decide +kernel)
theorem dz_505 : decode cL_law 505 = .ok (.iadd, 1) := dw_at dwl_4 (p := 25) rfl (by decide +kernel)
theorem dz_506 : decode cL_law 506 = .ok (.iaload, 1) := dw_at dwl_4 (p := 26) rfl (by decide +kernel)
theorem dz_507 : decode cL_law 507 = .ok (.aload_n 0, 1) := dw_at dwl_4 (p := 27) rfl (by decide +kernel)
theorem dz_508 : decode cL_law 508 = .ok (.iload 4, 2) := dw_at dwl_4 (p := 28) rfl (by decide +kernel)
theorem dz_510 : decode cL_law 510 = .ok (.iconst 2, 1) := dw_at dwl_4 (p := 30) rfl (by decide +kernel)
theorem dz_511 : decode cL_law 511 = .ok (.iadd, 1) := dw_at dwl_4 (p := 31) rfl (by decide +kernel)
theorem dz_512 : decode cL_law 512 = .ok (.iaload, 1) := dw_at dwl_4 (p := 32) rfl (by decide +kernel)
theorem dz_513 : decode cL_law 513 = .ok (.aload_n 0, 1) := dw_at dwl_4 (p := 33) rfl (by decide +kernel)
theorem dz_514 : decode cL_law 514 = .ok (.iload 4, 2) := dw_at dwl_4 (p := 34) rfl (by decide +kernel)
theorem dz_516 : decode cL_law 516 = .ok (.iconst 3, 1) := dw_at dwl_4 (p := 36) rfl (by decide +kernel)
theorem dz_517 : decode cL_law 517 = .ok (.iadd, 1) := dw_at dwl_4 (p := 37) rfl (by decide +kernel)
theorem dz_518 : decode cL_law 518 = .ok (.iaload, 1) := dw_at dwl_4 (p := 38) rfl (by decide +kernel)
theorem dz_519 : decode cL_law 519 = .ok (.invokevirtual 168, 3) := dw_at dwl_4 (p := 39) rfl (by decide +kernel)
theorem dz_522 : decode cL_law 522 = .ok (.istore 6, 2) := dw_at dwl_4 (p := 42) rfl (by decide +kernel)
theorem dz_524 : decode cL_law 524 = .ok (.goto 1186, 3) := dw_at dwl_4 (p := 44) rfl (by decide +kernel)
def ltp_visit (vl : Nat → Nat) (K : Nat) (x1 : Int32) (x2 : Int32) (x3 : Int32) (x4 : Int32) (x5 : Int32) (zc zm : ow_MS) : Option ow_LwS :=
 cs1 (le_L_visit vl K 0 x1 x2 x3 zc) fun v2 zc1 => cs1 (qe_X13_visit K x1 x2 x3 zm) fun v4 zm3 => some (vl, zc1, zm3)
set_option maxHeartbeats 4000000 in
set_option maxRecDepth 100000 in
theorem lxc_visit {p : Program} {l : Launch} {e : Env} {s : State} {m : MethodId} {args : Array Value} {below : List Frame} {meth : Method} {c : Code} {b L K n : Nat} {xs : Nat → Int32} {D : va_G} {q : Nat → ClassId} {q5 : ow_Q5} {vl u w sa : Nat → Nat} {zc zm : ow_MS} {S1 : ow_LwS} {Ts : List Cond} {Q : State → Prop} {H : Heap} {locs : List Loc} {ls : Array Slot} {cells slots : Nat} (hx : p.tables.exec = Jvm.exec) (hb : c.code = cL_law) (hml : c.maxLocals = 8) (hown : s.vm.findClass RL = some m.cls) (hts : ∀ w ∈ Ts, w.before args s = true) (hX : va_X b L xs s s.heap) (hbl : b < s.heap.size) (hZ : ∀ w ∈ wZ, w ∈ Ts) (hL1 : ∀ w ∈ wLL, w ∈ Ts) (hC1 : ∀ w ∈ wC, w ∈ Ts) (hM1 : ∀ w ∈ wM, w ∈ Ts) (hG : lx_G l s D q q5 sa) (hLn : L ≤ 3072) (hn : 6 * n + 6 ≤ L) (hq : ltp_visit vl K (xs (6 * n + 1)) (xs (6 * n + 2)) (xs (6 * n + 3)) (xs (6 * n + 4)) (xs (6 * n + 5)) zc zm = some S1) (hM : lx_M D q q5 s vl u w zc zm H locs) (hl : lv_has ls 8 [(0, .ref b), (1, .ref (u 0)), (2, .ref (w 0)), (3, .ref (u 52001)), (4, .int (nI (6 * n)))]) (hc : cells + 2 ≤ 601024) (hs : slots + 12 ≤ 7293033) (kk : ∀ (zc1 zm1 : ow_MS) (H1 : Heap) (locs1 : List Loc) (ls1 : Array Slot), lx_M D q q5 s vl u w zc1 zm1 H1 locs1 → lv_has ls1 8 [(0, .ref b), (1, .ref (u 0)), (2, .ref (w 0)), (3, .ref (u 52001)), (4, .int (nI (6 * n)))] → some (vl, zc1, zm1) = some S1 → W p l e room_1 s m args below meth c H1 locs1 (cells + 2) (slots + 12) Q (F0 m 1710 ls1 [])) : W p l e room_1 s m args below meth c H locs cells slots Q (F0 m 475 ls []) := by
  have hbA : ¬ lx_A s b := Nat.not_le.mpr hbl
  generalize e1 : xs (6 * n + 1) = x1 at hq
  generalize e2 : xs (6 * n + 2) = x2 at hq
  generalize e3 : xs (6 * n + 3) = x3 at hq
  generalize e4 : xs (6 * n + 4) = x4 at hq
  generalize e5 : xs (6 * n + 5) = x5 at hq
  unfold ltp_visit at hq
  refine lv_aload_n hx hb dz_475 rfl (lv_at hl 1 rfl) ?_
  refine lv_aload_n hx hb dz_476 rfl (lv_at hl 0 rfl) ?_
  refine lv_iload hx hb dz_477 (lv_at hl 4 rfl) ?_
  refine lv_iconst (v := 1) hx hb dz_479 (by decide) ?_
  refine lv_iadd hx hb dz_480 ?_
  refine ow_topi (y := nI (6 * n + 1)) (nI_add (6 * n) 1) ?_
  refine va_sld hx hb hX hbl hbA hM.2.2.2.2.2 (vp_in_nI (n := 6 * n + 1) (N := L) (by omega) (by omega)) dz_481 ?_
  refine ow_topi (y := x1) ((congrArg xs (nI_clamp (by omega))).trans e1) ?_
  refine lv_aload_n hx hb dz_482 rfl (lv_at hl 0 rfl) ?_
  refine lv_iload hx hb dz_483 (lv_at hl 4 rfl) ?_
  refine lv_iconst (v := 2) hx hb dz_485 (by decide) ?_
  refine lv_iadd hx hb dz_486 ?_
  refine ow_topi (y := nI (6 * n + 2)) (nI_add (6 * n) 2) ?_
  refine va_sld hx hb hX hbl hbA hM.2.2.2.2.2 (vp_in_nI (n := 6 * n + 2) (N := L) (by omega) (by omega)) dz_487 ?_
  refine ow_topi (y := x2) ((congrArg xs (nI_clamp (by omega))).trans e2) ?_
  refine lv_aload_n hx hb dz_488 rfl (lv_at hl 0 rfl) ?_
  refine lv_iload hx hb dz_489 (lv_at hl 4 rfl) ?_
  refine lv_iconst (v := 3) hx hb dz_491 (by decide) ?_
  refine lv_iadd hx hb dz_492 ?_
  refine ow_topi (y := nI (6 * n + 3)) (nI_add (6 * n) 3) ?_
  refine va_sld hx hb hX hbl hbA hM.2.2.2.2.2 (vp_in_nI (n := 6 * n + 3) (N := L) (by omega) (by omega)) dz_493 ?_
  refine ow_topi (y := x3) ((congrArg xs (nI_clamp (by omega))).trans e3) ?_
  refine lv_aload_n hx hb dz_494 rfl (lv_at hl 3 rfl) ?_
  obtain ⟨v2, zc1, hcq, hq⟩ := tw_cl1 hq
  refine lx_wrap hM (vx_runSX (As := [.ref (u 0), .int x1, .int x2, .int x3, .ref (u 52001)]) (rest := []) ⟨hx, hb, hml, hown, hts⟩ (kl_L_visit l D q vl u hM.2.2.1.1 hG.1 sa K 0 x1 x2 x3 (by unfold cw_X11 ci_X11; exact List.mem_singleton.mpr rfl) zc zc1 v2 hcq) (vx_cwSW 5 hts (lx_gS (lx_all wLL_good rfl) (lx_mem hL1 (hZ _ zq_58)) (hZ _ zq_59) (hZ _ zq_60) (hZ _ zq_3) rfl rfl rfl) rfl rfl rfl (by decide +kernel) ⟨(Nat.le_of_ble_eq_true rfl), (Nat.le_of_ble_eq_true rfl)⟩) (lx_preL hG hM) rfl rfl hl.1 rfl (lv_room (Nat.le_of_ble_eq_true rfl)) dz_495 ⟨(by show _ ≤ 601024; omega), (by show _ ≤ 7293033; omega)⟩) (fun H locs hM => ?_)
  refine lv_istore (lv' := [(5, .int v2), (0, .ref b), (1, .ref (u 0)), (2, .ref (w 0)), (3, .ref (u 52001)), (4, .int (nI (6 * n)))]) hx hb dz_498 hl (by decide) rfl (fun ls hl => ?_)
  refine lv_aload_n hx hb dz_500 rfl (lv_at hl 3 rfl) ?_
  refine lv_aload_n hx hb dz_501 rfl (lv_at hl 1 rfl) ?_
  refine lv_iload hx hb dz_502 (lv_at hl 5 rfl) ?_
  refine lv_iconst (v := 1) hx hb dz_504 (by decide) ?_
  refine lv_iadd hx hb dz_505 ?_
  refine ow_topi (y := nI (6 * n + 1)) (nI_add (6 * n) 1) ?_
  refine va_sld hx hb hX hbl hbA hM.2.2.2.2.2 (vp_in_nI (n := 6 * n + 1) (N := L) (by omega) (by omega)) dz_506 ?_
  refine ow_topi (y := x1) ((congrArg xs (nI_clamp (by omega))).trans e1) ?_
  refine lv_aload_n hx hb dz_507 rfl (lv_at hl 1 rfl) ?_
  refine lv_iload hx hb dz_508 (lv_at hl 5 rfl) ?_
  refine lv_iconst (v := 2) hx hb dz_510 (by decide) ?_
  refine lv_iadd hx hb dz_511 ?_
  refine ow_topi (y := nI (6 * n + 2)) (nI_add (6 * n) 2) ?_
  refine va_sld hx hb hX hbl hbA hM.2.2.2.2.2 (vp_in_nI (n := 6 * n + 2) (N := L) (by omega) (by omega)) dz_512 ?_
  refine ow_topi (y := x2) ((congrArg xs (nI_clamp (by omega))).trans e2) ?_
  refine lv_aload_n hx hb dz_513 rfl (lv_at hl 1 rfl) ?_
  refine lv_iload hx hb dz_514 (lv_at hl 5 rfl) ?_
  refine lv_iconst (v := 3) hx hb dz_516 (by decide) ?_
  refine lv_iadd hx hb dz_517 ?_
  refine ow_topi (y := nI (6 * n + 3)) (nI_add (6 * n) 3) ?_
  refine va_sld hx hb hX hbl hbA hM.2.2.2.2.2 (vp_in_nI (n := 6 * n + 3) (N := L) (by omega) (by omega)) dz_518 ?_
  refine ow_topi (y := x3) ((congrArg xs (nI_clamp (by omega))).trans e3) ?_
  obtain ⟨v4, zm3, hcq, hq⟩ := tw_cl1 hq
  refine lx_refi hM (va_runV (As := [.int x1, .int x2, .int x3]) (rest := []) ⟨hx, hb, hml, hown, hts⟩ (km_X13_visit l D q5 w hM.2.2.2.1.1 K x1 x2 x3 zm zm3 v4 hcq) (cwV 3 hts (lx_gV (lx_all wM_good rfl) (lx_mem hM1 (hZ _ zq_61)) (hZ _ zq_62) (hZ _ zq_63) (hZ _ zq_64) (hZ _ zq_8) rfl rfl rfl rfl) rfl rfl rfl cd_X13_visit ⟨(Nat.le_of_ble_eq_true rfl), (Nat.le_of_ble_eq_true rfl)⟩) (lx_preM hG hM) rfl rfl hl.1 rfl (lv_room (Nat.le_of_ble_eq_true rfl)) dz_519 ⟨(by show _ ≤ 601024; omega), (by show _ ≤ 7293033; omega)⟩) (fun H locs hM => ?_)
  refine lv_istore (lv' := [(6, .int v4), (5, .int v2), (0, .ref b), (1, .ref (u 0)), (2, .ref (w 0)), (3, .ref (u 52001)), (4, .int (nI (6 * n)))]) hx hb dz_522 hl (by decide) rfl (fun ls hl => ?_)
  refine lv_goto (tgt := 1710) hx hb dz_524 (by decide) ?_
  exact kk _ _ H locs ls hM (lv_sub hl [2, 3, 4, 5, 6] rfl) hq
theorem dz_527 : decode cL_law 527 = .ok (.aload_n 1, 1) := dw_at dwl_4 (p := 47) rfl (by decide +kernel)
theorem dz_528 : decode cL_law 528 = .ok (.aload_n 0, 1) := dw_at dwl_4 (p := 48) rfl (by decide +kernel)
theorem dz_529 : decode cL_law 529 = .ok (.iload 4, 2) := dw_at dwl_4 (p := 49) rfl (by decide +kernel)
theorem dz_531 : decode cL_law 531 = .ok (.iconst 1, 1) := dw_at dwl_4 (p := 51) rfl (by decide +kernel)
theorem dz_532 : decode cL_law 532 = .ok (.iadd, 1) := dw_at dwl_4 (p := 52) rfl (by decide +kernel)
theorem dz_533 : decode cL_law 533 = .ok (.iaload, 1) := dw_at dwl_4 (p := 53) rfl (by decide +kernel)
theorem dz_534 : decode cL_law 534 = .ok (.aload_n 0, 1) := dw_at dwl_4 (p := 54) rfl (by decide +kernel)
theorem dz_535 : decode cL_law 535 = .ok (.iload 4, 2) := dw_at dwl_4 (p := 55) rfl (by decide +kernel)
theorem dz_537 : decode cL_law 537 = .ok (.iconst 2, 1) := dw_at dwl_4 (p := 57) rfl (by decide +kernel)
theorem dz_538 : decode cL_law 538 = .ok (.iadd, 1) := dw_at dwl_4 (p := 58) rfl (by decide +kernel)
theorem dz_539 : decode cL_law 539 = .ok (.iaload, 1) := dw_at dwl_4 (p := 59) rfl (by decide +kernel)
theorem dz_540 : decode cL_law 540 = .ok (.aload_n 0, 1) := dw_at dwl_4 (p := 60) rfl (by decide +kernel)
theorem dz_541 : decode cL_law 541 = .ok (.iload 4, 2) := dw_at dwl_4 (p := 61) rfl (by decide +kernel)
theorem dz_543 : decode cL_law 543 = .ok (.iconst 3, 1) := dw_at dwl_4 (p := 63) rfl (by decide +kernel)
theorem dz_544 : decode cL_law 544 = .ok (.iadd, 1) := dw_at dwl_4 (p := 64) rfl (by decide +kernel)
theorem dz_545 : decode cL_law 545 = .ok (.iaload, 1) := dw_at dwl_4 (p := 65) rfl (by decide +kernel)
theorem dz_546 : decode cL_law 546 = .ok (.aload_n 3, 1) := dw_at dwl_4 (p := 66) rfl (by decide +kernel)
theorem dz_547 : decode cL_law 547 = .ok (.invokestatic 169, 3) := dw_at dwl_4 (p := 67) rfl (by decide +kernel)
theorem dz_550 : decode cL_law 550 = .ok (.istore 5, 2) := dw_at dwl_4 (p := 70) rfl (by decide +kernel)
theorem dz_552 : decode cL_law 552 = .ok (.aload_n 2, 1) := dw_at dwl_4 (p := 72) rfl (by decide +kernel)
theorem dz_553 : decode cL_law 553 = .ok (.aload_n 0, 1) := dw_at dwl_4 (p := 73) rfl (by decide +kernel)
theorem dz_554 : decode cL_law 554 = .ok (.iload 4, 2) := dw_at dwl_4 (p := 74) rfl (by decide +kernel)
theorem dz_556 : decode cL_law 556 = .ok (.iconst 1, 1) := dw_at dwl_4 (p := 76) rfl (by decide +kernel)
theorem dz_557 : decode cL_law 557 = .ok (.iadd, 1) := dw_at dwl_4 (p := 77) rfl (by decide +kernel)
theorem dz_558 : decode cL_law 558 = .ok (.iaload, 1) := dw_at dwl_4 (p := 78) rfl (by decide +kernel)
theorem dz_559 : decode cL_law 559 = .ok (.aload_n 0, 1) := dw_at dwl_4 (p := 79) rfl (by decide +kernel)
theorem dz_560 : decode cL_law 560 = .ok (.iload 4, 2) := dw_at dwl_4 (p := 80) rfl (by decide +kernel)
theorem dz_562 : decode cL_law 562 = .ok (.iconst 2, 1) := dw_at dwl_4 (p := 82) rfl (by decide +kernel)
theorem dz_563 : decode cL_law 563 = .ok (.iadd, 1) := dw_at dwl_4 (p := 83) rfl (by decide +kernel)
theorem dz_564 : decode cL_law 564 = .ok (.iaload, 1) := dw_at dwl_4 (p := 84) rfl (by decide +kernel)
theorem dz_565 : decode cL_law 565 = .ok (.aload_n 0, 1) := dw_at dwl_4 (p := 85) rfl (by decide +kernel)
theorem dz_566 : decode cL_law 566 = .ok (.iload 4, 2) := dw_at dwl_4 (p := 86) rfl (by decide +kernel)
theorem dz_568 : decode cL_law 568 = .ok (.iconst 3, 1) := dw_at dwl_4 (p := 88) rfl (by decide +kernel)
theorem dz_569 : decode cL_law 569 = .ok (.iadd, 1) := dw_at dwl_4 (p := 89) rfl (by decide +kernel)
theorem dz_570 : decode cL_law 570 = .ok (.iaload, 1) := dw_at dwl_4 (p := 90) rfl (by decide +kernel)
theorem dz_571 : decode cL_law 571 = .ok (.invokevirtual 171, 3) := dw_at dwl_4 (p := 91) rfl (by decide +kernel)
theorem dz_574 : decode cL_law 574 = .ok (.istore 6, 2) := dw_at dwl_4 (p := 94) rfl (by decide +kernel)
theorem dz_576 : decode cL_law 576 = .ok (.goto 1134, 3) := dw_at dwl_4 (p := 96) rfl (by decide +kernel)
def ltp_linking (vl : Nat → Nat) (K : Nat) (x1 : Int32) (x2 : Int32) (x3 : Int32) (x4 : Int32) (x5 : Int32) (zc zm : ow_MS) : Option ow_LwS :=
 cs1 (le_L_linking vl K 0 x1 x2 x3 zc) fun v2 zc1 => cs1 (qe_X13_linking K x1 x2 x3 zm) fun v4 zm3 => some (vl, zc1, zm3)
set_option maxHeartbeats 4000000 in
set_option maxRecDepth 100000 in
theorem lxc_linking {p : Program} {l : Launch} {e : Env} {s : State} {m : MethodId} {args : Array Value} {below : List Frame} {meth : Method} {c : Code} {b L K n : Nat} {xs : Nat → Int32} {D : va_G} {q : Nat → ClassId} {q5 : ow_Q5} {vl u w sa : Nat → Nat} {zc zm : ow_MS} {S1 : ow_LwS} {Ts : List Cond} {Q : State → Prop} {H : Heap} {locs : List Loc} {ls : Array Slot} {cells slots : Nat} (hx : p.tables.exec = Jvm.exec) (hb : c.code = cL_law) (hml : c.maxLocals = 8) (hown : s.vm.findClass RL = some m.cls) (hts : ∀ w ∈ Ts, w.before args s = true) (hX : va_X b L xs s s.heap) (hbl : b < s.heap.size) (hZ : ∀ w ∈ wZ, w ∈ Ts) (hL1 : ∀ w ∈ wLL, w ∈ Ts) (hC1 : ∀ w ∈ wC, w ∈ Ts) (hM1 : ∀ w ∈ wM, w ∈ Ts) (hG : lx_G l s D q q5 sa) (hLn : L ≤ 3072) (hn : 6 * n + 6 ≤ L) (hq : ltp_linking vl K (xs (6 * n + 1)) (xs (6 * n + 2)) (xs (6 * n + 3)) (xs (6 * n + 4)) (xs (6 * n + 5)) zc zm = some S1) (hM : lx_M D q q5 s vl u w zc zm H locs) (hl : lv_has ls 8 [(0, .ref b), (1, .ref (u 0)), (2, .ref (w 0)), (3, .ref (u 52001)), (4, .int (nI (6 * n)))]) (hc : cells + 4 ≤ 601024) (hs : slots + 24 ≤ 7293033) (kk : ∀ (zc1 zm1 : ow_MS) (H1 : Heap) (locs1 : List Loc) (ls1 : Array Slot), lx_M D q q5 s vl u w zc1 zm1 H1 locs1 → lv_has ls1 8 [(0, .ref b), (1, .ref (u 0)), (2, .ref (w 0)), (3, .ref (u 52001)), (4, .int (nI (6 * n)))] → some (vl, zc1, zm1) = some S1 → W p l e room_1 s m args below meth c H1 locs1 (cells + 4) (slots + 24) Q (F0 m 1710 ls1 [])) : W p l e room_1 s m args below meth c H locs cells slots Q (F0 m 527 ls []) := by
  have hbA : ¬ lx_A s b := Nat.not_le.mpr hbl
  generalize e1 : xs (6 * n + 1) = x1 at hq
  generalize e2 : xs (6 * n + 2) = x2 at hq
  generalize e3 : xs (6 * n + 3) = x3 at hq
  generalize e4 : xs (6 * n + 4) = x4 at hq
  generalize e5 : xs (6 * n + 5) = x5 at hq
  unfold ltp_linking at hq
  refine lv_aload_n hx hb dz_527 rfl (lv_at hl 1 rfl) ?_
  refine lv_aload_n hx hb dz_528 rfl (lv_at hl 0 rfl) ?_
  refine lv_iload hx hb dz_529 (lv_at hl 4 rfl) ?_
  refine lv_iconst (v := 1) hx hb dz_531 (by decide) ?_
  refine lv_iadd hx hb dz_532 ?_
  refine ow_topi (y := nI (6 * n + 1)) (nI_add (6 * n) 1) ?_
  refine va_sld hx hb hX hbl hbA hM.2.2.2.2.2 (vp_in_nI (n := 6 * n + 1) (N := L) (by omega) (by omega)) dz_533 ?_
  refine ow_topi (y := x1) ((congrArg xs (nI_clamp (by omega))).trans e1) ?_
  refine lv_aload_n hx hb dz_534 rfl (lv_at hl 0 rfl) ?_
  refine lv_iload hx hb dz_535 (lv_at hl 4 rfl) ?_
  refine lv_iconst (v := 2) hx hb dz_537 (by decide) ?_
  refine lv_iadd hx hb dz_538 ?_
  refine ow_topi (y := nI (6 * n + 2)) (nI_add (6 * n) 2) ?_
  refine va_sld hx hb hX hbl hbA hM.2.2.2.2.2 (vp_in_nI (n := 6 * n + 2) (N := L) (by omega) (by omega)) dz_539 ?_
  refine ow_topi (y := x2) ((congrArg xs (nI_clamp (by omega))).trans e2) ?_
  refine lv_aload_n hx hb dz_540 rfl (lv_at hl 0 rfl) ?_
  refine lv_iload hx hb dz_541 (lv_at hl 4 rfl) ?_
  refine lv_iconst (v := 3) hx hb dz_543 (by decide) ?_
  refine lv_iadd hx hb dz_544 ?_
  refine ow_topi (y := nI (6 * n + 3)) (nI_add (6 * n) 3) ?_
  refine va_sld hx hb hX hbl hbA hM.2.2.2.2.2 (vp_in_nI (n := 6 * n + 3) (N := L) (by omega) (by omega)) dz_545 ?_
  refine ow_topi (y := x3) ((congrArg xs (nI_clamp (by omega))).trans e3) ?_
  refine lv_aload_n hx hb dz_546 rfl (lv_at hl 3 rfl) ?_
  obtain ⟨v2, zc1, hcq, hq⟩ := tw_cl1 hq
  refine lx_wrap hM (vx_runSX (As := [.ref (u 0), .int x1, .int x2, .int x3, .ref (u 52001)]) (rest := []) ⟨hx, hb, hml, hown, hts⟩ (kl_L_linking l D q vl u hM.2.2.1.1 hG.1 sa K 0 x1 x2 x3 (by unfold cw_X11 ci_X11; exact List.mem_singleton.mpr rfl) zc zc1 v2 hcq) (vx_cwSW 5 hts (lx_gS (lx_all wLL_good rfl) (lx_mem hL1 (hZ _ zq_65)) (hZ _ zq_66) (hZ _ zq_67) (hZ _ zq_3) rfl rfl rfl) rfl rfl rfl (by decide +kernel) ⟨(Nat.le_of_ble_eq_true rfl), (Nat.le_of_ble_eq_true rfl)⟩) (lx_preL hG hM) rfl rfl hl.1 rfl (lv_room (Nat.le_of_ble_eq_true rfl)) dz_547 ⟨(by show _ ≤ 601024; omega), (by show _ ≤ 7293033; omega)⟩) (fun H locs hM => ?_)
  refine lv_istore (lv' := [(5, .int v2), (0, .ref b), (1, .ref (u 0)), (2, .ref (w 0)), (3, .ref (u 52001)), (4, .int (nI (6 * n)))]) hx hb dz_550 hl (by decide) rfl (fun ls hl => ?_)
  refine lv_aload_n hx hb dz_552 rfl (lv_at hl 3 rfl) ?_
  refine lv_aload_n hx hb dz_553 rfl (lv_at hl 1 rfl) ?_
  refine lv_iload hx hb dz_554 (lv_at hl 5 rfl) ?_
  refine lv_iconst (v := 1) hx hb dz_556 (by decide) ?_
  refine lv_iadd hx hb dz_557 ?_
  refine ow_topi (y := nI (6 * n + 1)) (nI_add (6 * n) 1) ?_
  refine va_sld hx hb hX hbl hbA hM.2.2.2.2.2 (vp_in_nI (n := 6 * n + 1) (N := L) (by omega) (by omega)) dz_558 ?_
  refine ow_topi (y := x1) ((congrArg xs (nI_clamp (by omega))).trans e1) ?_
  refine lv_aload_n hx hb dz_559 rfl (lv_at hl 1 rfl) ?_
  refine lv_iload hx hb dz_560 (lv_at hl 5 rfl) ?_
  refine lv_iconst (v := 2) hx hb dz_562 (by decide) ?_
  refine lv_iadd hx hb dz_563 ?_
  refine ow_topi (y := nI (6 * n + 2)) (nI_add (6 * n) 2) ?_
  refine va_sld hx hb hX hbl hbA hM.2.2.2.2.2 (vp_in_nI (n := 6 * n + 2) (N := L) (by omega) (by omega)) dz_564 ?_
  refine ow_topi (y := x2) ((congrArg xs (nI_clamp (by omega))).trans e2) ?_
  refine lv_aload_n hx hb dz_565 rfl (lv_at hl 1 rfl) ?_
  refine lv_iload hx hb dz_566 (lv_at hl 5 rfl) ?_
  refine lv_iconst (v := 3) hx hb dz_568 (by decide) ?_
  refine lv_iadd hx hb dz_569 ?_
  refine ow_topi (y := nI (6 * n + 3)) (nI_add (6 * n) 3) ?_
  refine va_sld hx hb hX hbl hbA hM.2.2.2.2.2 (vp_in_nI (n := 6 * n + 3) (N := L) (by omega) (by omega)) dz_570 ?_
  refine ow_topi (y := x3) ((congrArg xs (nI_clamp (by omega))).trans e3) ?_
  obtain ⟨v4, zm3, hcq, hq⟩ := tw_cl1 hq
  refine lx_refi hM (va_runV (As := [.int x1, .int x2, .int x3]) (rest := []) ⟨hx, hb, hml, hown, hts⟩ (km_X13_linking l D q5 w hM.2.2.2.1.1 K x1 x2 x3 zm zm3 v4 hcq) (cwV 3 hts (lx_gV (lx_all wM_good rfl) (lx_mem hM1 (hZ _ zq_68)) (hZ _ zq_69) (hZ _ zq_70) (hZ _ zq_71) (hZ _ zq_8) rfl rfl rfl rfl) rfl rfl rfl cd_X13_linking ⟨(Nat.le_of_ble_eq_true rfl), (Nat.le_of_ble_eq_true rfl)⟩) (lx_preM hG hM) rfl rfl hl.1 rfl (lv_room (Nat.le_of_ble_eq_true rfl)) dz_571 ⟨(by show _ ≤ 601024; omega), (by show _ ≤ 7293033; omega)⟩) (fun H locs hM => ?_)
  refine lv_istore (lv' := [(6, .int v4), (5, .int v2), (0, .ref b), (1, .ref (u 0)), (2, .ref (w 0)), (3, .ref (u 52001)), (4, .int (nI (6 * n)))]) hx hb dz_574 hl (by decide) rfl (fun ls hl => ?_)
  refine lv_goto (tgt := 1710) hx hb dz_576 (by decide) ?_
  exact kk _ _ H locs ls hM (lv_sub hl [2, 3, 4, 5, 6] rfl) hq
theorem dz_579 : decode cL_law 579 = .ok (.aload_n 1, 1) := dw_at dwl_4 (p := 99) rfl (by decide +kernel)
theorem dz_580 : decode cL_law 580 = .ok (.aload_n 0, 1) := dw_at dwl_4 (p := 100) rfl (by decide +kernel)
theorem dz_581 : decode cL_law 581 = .ok (.iload 4, 2) := dw_at dwl_4 (p := 101) rfl (by decide +kernel)
theorem dz_583 : decode cL_law 583 = .ok (.iconst 1, 1) := dw_at dwl_4 (p := 103) rfl (by decide +kernel)
theorem dz_584 : decode cL_law 584 = .ok (.iadd, 1) := dw_at dwl_4 (p := 104) rfl (by decide +kernel)
theorem dz_585 : decode cL_law 585 = .ok (.iaload, 1) := dw_at dwl_4 (p := 105) rfl (by decide +kernel)
theorem dz_586 : decode cL_law 586 = .ok (.aload_n 0, 1) := dw_at dwl_4 (p := 106) rfl (by decide +kernel)
theorem dz_587 : decode cL_law 587 = .ok (.iload 4, 2) := dw_at dwl_4 (p := 107) rfl (by decide +kernel)
theorem dz_589 : decode cL_law 589 = .ok (.iconst 2, 1) := dw_at dwl_4 (p := 109) rfl (by decide +kernel)
theorem dz_590 : decode cL_law 590 = .ok (.iadd, 1) := dw_at dwl_4 (p := 110) rfl (by decide +kernel)
theorem dz_591 : decode cL_law 591 = .ok (.iaload, 1) := dw_at dwl_4 (p := 111) rfl (by decide +kernel)
theorem dz_592 : decode cL_law 592 = .ok (.invokevirtual 172, 3) := dw_at dwl_4 (p := 112) rfl (by decide +kernel)
theorem dz_595 : decode cL_law 595 = .ok (.pop, 1) := dw_at dwl_4 (p := 115) rfl (by decide +kernel)
theorem dz_596 : decode cL_law 596 = .ok (.aload_n 2, 1) := dw_at dwl_4 (p := 116) rfl (by decide +kernel)
theorem dz_597 : decode cL_law 597 = .ok (.aload_n 0, 1) := dw_at dwl_4 (p := 117) rfl (by decide +kernel)
theorem dz_598 : decode cL_law 598 = .ok (.iload 4, 2) := dw_at dwl_4 (p := 118) rfl (by decide +kernel)
theorem dz_600 : decode cL_law 600 = .ok (.iconst 1, 1) := dw_at dwl_5 (p := 0) rfl (by decide +kernel)
theorem dz_601 : decode cL_law 601 = .ok (.iadd, 1) := dw_at dwl_5 (p := 1) rfl (by decide +kernel)
theorem dz_602 : decode cL_law 602 = .ok (.iaload, 1) := dw_at dwl_5 (p := 2) rfl (by decide +kernel)
theorem dz_603 : decode cL_law 603 = .ok (.aload_n 0, 1) := dw_at dwl_5 (p := 3) rfl (by decide +kernel)
theorem dz_604 : decode cL_law 604 = .ok (.iload 4, 2) := dw_at dwl_5 (p := 4) rfl (by decide +kernel)
theorem dz_606 : decode cL_law 606 = .ok (.iconst 2, 1) := dw_at dwl_5 (p := 6) rfl (by decide +kernel)
theorem dz_607 : decode cL_law 607 = .ok (.iadd, 1) := dw_at dwl_5 (p := 7) rfl (by decide +kernel)
theorem dz_608 : decode cL_law 608 = .ok (.iaload, 1) := dw_at dwl_5 (p := 8) rfl (by decide +kernel)
theorem dz_609 : decode cL_law 609 = .ok (.invokevirtual 176, 3) := dw_at dwl_5 (p := 9) rfl (by decide +kernel)
theorem dz_612 : decode cL_law 612 = .ok (.pop, 1) := dw_at dwl_5 (p := 12) rfl (by decide +kernel)
theorem dz_613 : decode cL_law 613 = .ok (.goto 1097, 3) := dw_at dwl_5 (p := 13) rfl (by decide +kernel)
def ltp_alike (vl : Nat → Nat) (K : Nat) (x1 : Int32) (x2 : Int32) (x3 : Int32) (x4 : Int32) (x5 : Int32) (zc zm : ow_MS) : Option ow_LwS :=
 cs1 (ce_X11_alike vl K 0 x1 x2 zc) fun v2 zc1 => cs1 (qe_X13_alike K x1 x2 zm) fun v4 zm3 => some (vl, zc1, zm3)
set_option maxHeartbeats 4000000 in
set_option maxRecDepth 100000 in
theorem lxc_alike {p : Program} {l : Launch} {e : Env} {s : State} {m : MethodId} {args : Array Value} {below : List Frame} {meth : Method} {c : Code} {b L K n : Nat} {xs : Nat → Int32} {D : va_G} {q : Nat → ClassId} {q5 : ow_Q5} {vl u w sa : Nat → Nat} {zc zm : ow_MS} {S1 : ow_LwS} {Ts : List Cond} {Q : State → Prop} {H : Heap} {locs : List Loc} {ls : Array Slot} {cells slots : Nat} (hx : p.tables.exec = Jvm.exec) (hb : c.code = cL_law) (hml : c.maxLocals = 8) (hown : s.vm.findClass RL = some m.cls) (hts : ∀ w ∈ Ts, w.before args s = true) (hX : va_X b L xs s s.heap) (hbl : b < s.heap.size) (hZ : ∀ w ∈ wZ, w ∈ Ts) (hL1 : ∀ w ∈ wLL, w ∈ Ts) (hC1 : ∀ w ∈ wC, w ∈ Ts) (hM1 : ∀ w ∈ wM, w ∈ Ts) (hG : lx_G l s D q q5 sa) (hLn : L ≤ 3072) (hn : 6 * n + 6 ≤ L) (hq : ltp_alike vl K (xs (6 * n + 1)) (xs (6 * n + 2)) (xs (6 * n + 3)) (xs (6 * n + 4)) (xs (6 * n + 5)) zc zm = some S1) (hM : lx_M D q q5 s vl u w zc zm H locs) (hl : lv_has ls 8 [(0, .ref b), (1, .ref (u 0)), (2, .ref (w 0)), (3, .ref (u 52001)), (4, .int (nI (6 * n)))]) (hc : cells + 0 ≤ 601024) (hs : slots + 0 ≤ 7293033) (kk : ∀ (zc1 zm1 : ow_MS) (H1 : Heap) (locs1 : List Loc) (ls1 : Array Slot), lx_M D q q5 s vl u w zc1 zm1 H1 locs1 → lv_has ls1 8 [(0, .ref b), (1, .ref (u 0)), (2, .ref (w 0)), (3, .ref (u 52001)), (4, .int (nI (6 * n)))] → some (vl, zc1, zm1) = some S1 → W p l e room_1 s m args below meth c H1 locs1 (cells + 0) (slots + 0) Q (F0 m 1710 ls1 [])) : W p l e room_1 s m args below meth c H locs cells slots Q (F0 m 579 ls []) := by
  have hbA : ¬ lx_A s b := Nat.not_le.mpr hbl
  generalize e1 : xs (6 * n + 1) = x1 at hq
  generalize e2 : xs (6 * n + 2) = x2 at hq
  generalize e3 : xs (6 * n + 3) = x3 at hq
  generalize e4 : xs (6 * n + 4) = x4 at hq
  generalize e5 : xs (6 * n + 5) = x5 at hq
  unfold ltp_alike at hq
  refine lv_aload_n hx hb dz_579 rfl (lv_at hl 1 rfl) ?_
  refine lv_aload_n hx hb dz_580 rfl (lv_at hl 0 rfl) ?_
  refine lv_iload hx hb dz_581 (lv_at hl 4 rfl) ?_
  refine lv_iconst (v := 1) hx hb dz_583 (by decide) ?_
  refine lv_iadd hx hb dz_584 ?_
  refine ow_topi (y := nI (6 * n + 1)) (nI_add (6 * n) 1) ?_
  refine va_sld hx hb hX hbl hbA hM.2.2.2.2.2 (vp_in_nI (n := 6 * n + 1) (N := L) (by omega) (by omega)) dz_585 ?_
  refine ow_topi (y := x1) ((congrArg xs (nI_clamp (by omega))).trans e1) ?_
  refine lv_aload_n hx hb dz_586 rfl (lv_at hl 0 rfl) ?_
  refine lv_iload hx hb dz_587 (lv_at hl 4 rfl) ?_
  refine lv_iconst (v := 2) hx hb dz_589 (by decide) ?_
  refine lv_iadd hx hb dz_590 ?_
  refine ow_topi (y := nI (6 * n + 2)) (nI_add (6 * n) 2) ?_
  refine va_sld hx hb hX hbl hbA hM.2.2.2.2.2 (vp_in_nI (n := 6 * n + 2) (N := L) (by omega) (by omega)) dz_591 ?_
  refine ow_topi (y := x2) ((congrArg xs (nI_clamp (by omega))).trans e2) ?_
  obtain ⟨v2, zc1, hcq, hq⟩ := tw_cl1 hq
  refine lx_cls hM (va_runV (As := [.int x1, .int x2]) (rest := []) ⟨hx, hb, hml, hown, hts⟩ (kc_X11_alike l D q vl u hM.2.2.1.1 K 0 x1 x2 (by unfold cw_X11 ci_X11; exact List.mem_singleton.mpr rfl) zc zc1 v2 hcq) (cwV 2 hts (lx_gV (lx_all wC_good rfl) (lx_mem hC1 (hZ _ zq_72)) (hZ _ zq_73) (hZ _ zq_74) (hZ _ zq_75) (hZ _ zq_38) rfl rfl rfl rfl) rfl rfl rfl cdd_X11_alike ⟨(Nat.le_of_ble_eq_true rfl), (Nat.le_of_ble_eq_true rfl)⟩) (lx_preC hG hM) rfl rfl hl.1 rfl (lv_room (Nat.le_of_ble_eq_true rfl)) dz_592 ⟨(by show _ ≤ 601024; omega), (by show _ ≤ 7293033; omega)⟩) (fun H locs hM => ?_)
  refine lv_pop hx hb dz_595 rfl ?_
  refine lv_aload_n hx hb dz_596 rfl (lv_at hl 2 rfl) ?_
  refine lv_aload_n hx hb dz_597 rfl (lv_at hl 0 rfl) ?_
  refine lv_iload hx hb dz_598 (lv_at hl 4 rfl) ?_
  refine lv_iconst (v := 1) hx hb dz_600 (by decide) ?_
  refine lv_iadd hx hb dz_601 ?_
  refine ow_topi (y := nI (6 * n + 1)) (nI_add (6 * n) 1) ?_
  refine va_sld hx hb hX hbl hbA hM.2.2.2.2.2 (vp_in_nI (n := 6 * n + 1) (N := L) (by omega) (by omega)) dz_602 ?_
  refine ow_topi (y := x1) ((congrArg xs (nI_clamp (by omega))).trans e1) ?_
  refine lv_aload_n hx hb dz_603 rfl (lv_at hl 0 rfl) ?_
  refine lv_iload hx hb dz_604 (lv_at hl 4 rfl) ?_
  refine lv_iconst (v := 2) hx hb dz_606 (by decide) ?_
  refine lv_iadd hx hb dz_607 ?_
  refine ow_topi (y := nI (6 * n + 2)) (nI_add (6 * n) 2) ?_
  refine va_sld hx hb hX hbl hbA hM.2.2.2.2.2 (vp_in_nI (n := 6 * n + 2) (N := L) (by omega) (by omega)) dz_608 ?_
  refine ow_topi (y := x2) ((congrArg xs (nI_clamp (by omega))).trans e2) ?_
  obtain ⟨v4, zm3, hcq, hq⟩ := tw_cl1 hq
  refine lx_refi hM (va_runV (As := [.int x1, .int x2]) (rest := []) ⟨hx, hb, hml, hown, hts⟩ (km_X13_alike l D q5 w hM.2.2.2.1.1 K x1 x2 zm zm3 v4 hcq) (cwV 2 hts (lx_gV (lx_all wM_good rfl) (lx_mem hM1 (hZ _ zq_76)) (hZ _ zq_77) (hZ _ zq_78) (hZ _ zq_79) (hZ _ zq_8) rfl rfl rfl rfl) rfl rfl rfl cd_X13_alike ⟨(Nat.le_of_ble_eq_true rfl), (Nat.le_of_ble_eq_true rfl)⟩) (lx_preM hG hM) rfl rfl hl.1 rfl (lv_room (Nat.le_of_ble_eq_true rfl)) dz_609 ⟨(by show _ ≤ 601024; omega), (by show _ ≤ 7293033; omega)⟩) (fun H locs hM => ?_)
  refine lv_pop hx hb dz_612 rfl ?_
  refine lv_goto (tgt := 1710) hx hb dz_613 (by decide) ?_
  exact kk _ _ H locs ls hM (lv_sub hl [0, 1, 2, 3, 4] rfl) hq
theorem dz_616 : decode cL_law 616 = .ok (.aload_n 1, 1) := dw_at dwl_5 (p := 16) rfl (by decide +kernel)
theorem dz_617 : decode cL_law 617 = .ok (.aload_n 0, 1) := dw_at dwl_5 (p := 17) rfl (by decide +kernel)
theorem dz_618 : decode cL_law 618 = .ok (.iload 4, 2) := dw_at dwl_5 (p := 18) rfl (by decide +kernel)
theorem dz_620 : decode cL_law 620 = .ok (.iconst 1, 1) := dw_at dwl_5 (p := 20) rfl (by decide +kernel)
theorem dz_621 : decode cL_law 621 = .ok (.iadd, 1) := dw_at dwl_5 (p := 21) rfl (by decide +kernel)
theorem dz_622 : decode cL_law 622 = .ok (.iaload, 1) := dw_at dwl_5 (p := 22) rfl (by decide +kernel)
theorem dz_623 : decode cL_law 623 = .ok (.aload_n 3, 1) := dw_at dwl_5 (p := 23) rfl (by decide +kernel)
theorem dz_624 : decode cL_law 624 = .ok (.invokestatic 177, 3) := dw_at dwl_5 (p := 24) rfl (by decide +kernel)
theorem dz_627 : decode cL_law 627 = .ok (.istore 5, 2) := dw_at dwl_5 (p := 27) rfl (by decide +kernel)
theorem dz_629 : decode cL_law 629 = .ok (.aload_n 2, 1) := dw_at dwl_5 (p := 29) rfl (by decide +kernel)
theorem dz_630 : decode cL_law 630 = .ok (.aload_n 0, 1) := dw_at dwl_5 (p := 30) rfl (by decide +kernel)
theorem dz_631 : decode cL_law 631 = .ok (.iload 4, 2) := dw_at dwl_5 (p := 31) rfl (by decide +kernel)
theorem dz_633 : decode cL_law 633 = .ok (.iconst 1, 1) := dw_at dwl_5 (p := 33) rfl (by decide +kernel)
theorem dz_634 : decode cL_law 634 = .ok (.iadd, 1) := dw_at dwl_5 (p := 34) rfl (by decide +kernel)
theorem dz_635 : decode cL_law 635 = .ok (.iaload, 1) := dw_at dwl_5 (p := 35) rfl (by decide +kernel)
theorem dz_636 : decode cL_law 636 = .ok (.invokevirtual 179, 3) := dw_at dwl_5 (p := 36) rfl (by decide +kernel)
theorem dz_639 : decode cL_law 639 = .ok (.istore 6, 2) := dw_at dwl_5 (p := 39) rfl (by decide +kernel)
theorem dz_641 : decode cL_law 641 = .ok (.goto 1069, 3) := dw_at dwl_5 (p := 41) rfl (by decide +kernel)
def ltp_mirror (vl : Nat → Nat) (K : Nat) (x1 : Int32) (x2 : Int32) (x3 : Int32) (x4 : Int32) (x5 : Int32) (zc zm : ow_MS) : Option ow_LwS :=
 cs1 (le_L_mirror vl K 0 x1 zc) fun v2 zc1 => cs1 (qe_X13_mirror K x1 zm) fun v4 zm3 => some (vl, zc1, zm3)
set_option maxHeartbeats 4000000 in
set_option maxRecDepth 100000 in
theorem lxc_mirror {p : Program} {l : Launch} {e : Env} {s : State} {m : MethodId} {args : Array Value} {below : List Frame} {meth : Method} {c : Code} {b L K n : Nat} {xs : Nat → Int32} {D : va_G} {q : Nat → ClassId} {q5 : ow_Q5} {vl u w sa : Nat → Nat} {zc zm : ow_MS} {S1 : ow_LwS} {Ts : List Cond} {Q : State → Prop} {H : Heap} {locs : List Loc} {ls : Array Slot} {cells slots : Nat} (hx : p.tables.exec = Jvm.exec) (hb : c.code = cL_law) (hml : c.maxLocals = 8) (hown : s.vm.findClass RL = some m.cls) (hts : ∀ w ∈ Ts, w.before args s = true) (hX : va_X b L xs s s.heap) (hbl : b < s.heap.size) (hZ : ∀ w ∈ wZ, w ∈ Ts) (hL1 : ∀ w ∈ wLL, w ∈ Ts) (hC1 : ∀ w ∈ wC, w ∈ Ts) (hM1 : ∀ w ∈ wM, w ∈ Ts) (hG : lx_G l s D q q5 sa) (hLn : L ≤ 3072) (hn : 6 * n + 6 ≤ L) (hq : ltp_mirror vl K (xs (6 * n + 1)) (xs (6 * n + 2)) (xs (6 * n + 3)) (xs (6 * n + 4)) (xs (6 * n + 5)) zc zm = some S1) (hM : lx_M D q q5 s vl u w zc zm H locs) (hl : lv_has ls 8 [(0, .ref b), (1, .ref (u 0)), (2, .ref (w 0)), (3, .ref (u 52001)), (4, .int (nI (6 * n)))]) (hc : cells + 2 ≤ 601024) (hs : slots + 12 ≤ 7293033) (kk : ∀ (zc1 zm1 : ow_MS) (H1 : Heap) (locs1 : List Loc) (ls1 : Array Slot), lx_M D q q5 s vl u w zc1 zm1 H1 locs1 → lv_has ls1 8 [(0, .ref b), (1, .ref (u 0)), (2, .ref (w 0)), (3, .ref (u 52001)), (4, .int (nI (6 * n)))] → some (vl, zc1, zm1) = some S1 → W p l e room_1 s m args below meth c H1 locs1 (cells + 2) (slots + 12) Q (F0 m 1710 ls1 [])) : W p l e room_1 s m args below meth c H locs cells slots Q (F0 m 616 ls []) := by
  have hbA : ¬ lx_A s b := Nat.not_le.mpr hbl
  generalize e1 : xs (6 * n + 1) = x1 at hq
  generalize e2 : xs (6 * n + 2) = x2 at hq
  generalize e3 : xs (6 * n + 3) = x3 at hq
  generalize e4 : xs (6 * n + 4) = x4 at hq
  generalize e5 : xs (6 * n + 5) = x5 at hq
  unfold ltp_mirror at hq
  refine lv_aload_n hx hb dz_616 rfl (lv_at hl 1 rfl) ?_
  refine lv_aload_n hx hb dz_617 rfl (lv_at hl 0 rfl) ?_
  refine lv_iload hx hb dz_618 (lv_at hl 4 rfl) ?_
  refine lv_iconst (v := 1) hx hb dz_620 (by decide) ?_
  refine lv_iadd hx hb dz_621 ?_
  refine ow_topi (y := nI (6 * n + 1)) (nI_add (6 * n) 1) ?_
  refine va_sld hx hb hX hbl hbA hM.2.2.2.2.2 (vp_in_nI (n := 6 * n + 1) (N := L) (by omega) (by omega)) dz_622 ?_
  refine ow_topi (y := x1) ((congrArg xs (nI_clamp (by omega))).trans e1) ?_
  refine lv_aload_n hx hb dz_623 rfl (lv_at hl 3 rfl) ?_
  obtain ⟨v2, zc1, hcq, hq⟩ := tw_cl1 hq
  refine lx_wrap hM (vx_runSX (As := [.ref (u 0), .int x1, .ref (u 52001)]) (rest := []) ⟨hx, hb, hml, hown, hts⟩ (kl_L_mirror l D q vl u hM.2.2.1.1 hG.1 sa K 0 x1 (by unfold cw_X11 ci_X11; exact List.mem_singleton.mpr rfl) zc zc1 v2 hcq) (vx_cwSW 3 hts (lx_gS (lx_all wLL_good rfl) (lx_mem hL1 (hZ _ zq_80)) (hZ _ zq_81) (hZ _ zq_82) (hZ _ zq_3) rfl rfl rfl) rfl rfl rfl (by decide +kernel) ⟨(Nat.le_of_ble_eq_true rfl), (Nat.le_of_ble_eq_true rfl)⟩) (lx_preL hG hM) rfl rfl hl.1 rfl (lv_room (Nat.le_of_ble_eq_true rfl)) dz_624 ⟨(by show _ ≤ 601024; omega), (by show _ ≤ 7293033; omega)⟩) (fun H locs hM => ?_)
  refine lv_istore (lv' := [(5, .int v2), (0, .ref b), (1, .ref (u 0)), (2, .ref (w 0)), (3, .ref (u 52001)), (4, .int (nI (6 * n)))]) hx hb dz_627 hl (by decide) rfl (fun ls hl => ?_)
  refine lv_aload_n hx hb dz_629 rfl (lv_at hl 3 rfl) ?_
  refine lv_aload_n hx hb dz_630 rfl (lv_at hl 1 rfl) ?_
  refine lv_iload hx hb dz_631 (lv_at hl 5 rfl) ?_
  refine lv_iconst (v := 1) hx hb dz_633 (by decide) ?_
  refine lv_iadd hx hb dz_634 ?_
  refine ow_topi (y := nI (6 * n + 1)) (nI_add (6 * n) 1) ?_
  refine va_sld hx hb hX hbl hbA hM.2.2.2.2.2 (vp_in_nI (n := 6 * n + 1) (N := L) (by omega) (by omega)) dz_635 ?_
  refine ow_topi (y := x1) ((congrArg xs (nI_clamp (by omega))).trans e1) ?_
  obtain ⟨v4, zm3, hcq, hq⟩ := tw_cl1 hq
  refine lx_refi hM (va_runV (As := [.int x1]) (rest := []) ⟨hx, hb, hml, hown, hts⟩ (km_X13_mirror l D q5 w hM.2.2.2.1.1 K x1 zm zm3 v4 hcq) (cwV 1 hts (lx_gV (lx_all wM_good rfl) (lx_mem hM1 (hZ _ zq_83)) (hZ _ zq_84) (hZ _ zq_85) (hZ _ zq_86) (hZ _ zq_8) rfl rfl rfl rfl) rfl rfl rfl cd_X13_mirror ⟨(Nat.le_of_ble_eq_true rfl), (Nat.le_of_ble_eq_true rfl)⟩) (lx_preM hG hM) rfl rfl hl.1 rfl (lv_room (Nat.le_of_ble_eq_true rfl)) dz_636 ⟨(by show _ ≤ 601024; omega), (by show _ ≤ 7293033; omega)⟩) (fun H locs hM => ?_)
  refine lv_istore (lv' := [(6, .int v4), (5, .int v2), (0, .ref b), (1, .ref (u 0)), (2, .ref (w 0)), (3, .ref (u 52001)), (4, .int (nI (6 * n)))]) hx hb dz_639 hl (by decide) rfl (fun ls hl => ?_)
  refine lv_goto (tgt := 1710) hx hb dz_641 (by decide) ?_
  exact kk _ _ H locs ls hM (lv_sub hl [2, 3, 4, 5, 6] rfl) hq
theorem dz_644 : decode cL_law 644 = .ok (.aload_n 1, 1) := dw_at dwl_5 (p := 44) rfl (by decide +kernel)
theorem dz_645 : decode cL_law 645 = .ok (.aload_n 0, 1) := dw_at dwl_5 (p := 45) rfl (by decide +kernel)
theorem dz_646 : decode cL_law 646 = .ok (.iload 4, 2) := dw_at dwl_5 (p := 46) rfl (by decide +kernel)
theorem dz_648 : decode cL_law 648 = .ok (.iconst 1, 1) := dw_at dwl_5 (p := 48) rfl (by decide +kernel)
theorem dz_649 : decode cL_law 649 = .ok (.iadd, 1) := dw_at dwl_5 (p := 49) rfl (by decide +kernel)
theorem dz_650 : decode cL_law 650 = .ok (.iaload, 1) := dw_at dwl_5 (p := 50) rfl (by decide +kernel)
theorem dz_651 : decode cL_law 651 = .ok (.aload_n 0, 1) := dw_at dwl_5 (p := 51) rfl (by decide +kernel)
theorem dz_652 : decode cL_law 652 = .ok (.iload 4, 2) := dw_at dwl_5 (p := 52) rfl (by decide +kernel)
theorem dz_654 : decode cL_law 654 = .ok (.iconst 2, 1) := dw_at dwl_5 (p := 54) rfl (by decide +kernel)
theorem dz_655 : decode cL_law 655 = .ok (.iadd, 1) := dw_at dwl_5 (p := 55) rfl (by decide +kernel)
theorem dz_656 : decode cL_law 656 = .ok (.iaload, 1) := dw_at dwl_5 (p := 56) rfl (by decide +kernel)
theorem dz_657 : decode cL_law 657 = .ok (.aload_n 3, 1) := dw_at dwl_5 (p := 57) rfl (by decide +kernel)
theorem dz_658 : decode cL_law 658 = .ok (.invokestatic 180, 3) := dw_at dwl_5 (p := 58) rfl (by decide +kernel)
theorem dz_661 : decode cL_law 661 = .ok (.istore 5, 2) := dw_at dwl_5 (p := 61) rfl (by decide +kernel)
theorem dz_663 : decode cL_law 663 = .ok (.aload_n 2, 1) := dw_at dwl_5 (p := 63) rfl (by decide +kernel)
theorem dz_664 : decode cL_law 664 = .ok (.aload_n 0, 1) := dw_at dwl_5 (p := 64) rfl (by decide +kernel)
theorem dz_665 : decode cL_law 665 = .ok (.iload 4, 2) := dw_at dwl_5 (p := 65) rfl (by decide +kernel)
theorem dz_667 : decode cL_law 667 = .ok (.iconst 1, 1) := dw_at dwl_5 (p := 67) rfl (by decide +kernel)
theorem dz_668 : decode cL_law 668 = .ok (.iadd, 1) := dw_at dwl_5 (p := 68) rfl (by decide +kernel)
theorem dz_669 : decode cL_law 669 = .ok (.iaload, 1) := dw_at dwl_5 (p := 69) rfl (by decide +kernel)
theorem dz_670 : decode cL_law 670 = .ok (.aload_n 0, 1) := dw_at dwl_5 (p := 70) rfl (by decide +kernel)
theorem dz_671 : decode cL_law 671 = .ok (.iload 4, 2) := dw_at dwl_5 (p := 71) rfl (by decide +kernel)
theorem dz_673 : decode cL_law 673 = .ok (.iconst 2, 1) := dw_at dwl_5 (p := 73) rfl (by decide +kernel)
theorem dz_674 : decode cL_law 674 = .ok (.iadd, 1) := dw_at dwl_5 (p := 74) rfl (by decide +kernel)
theorem dz_675 : decode cL_law 675 = .ok (.iaload, 1) := dw_at dwl_5 (p := 75) rfl (by decide +kernel)
theorem dz_676 : decode cL_law 676 = .ok (.invokevirtual 182, 3) := dw_at dwl_5 (p := 76) rfl (by decide +kernel)
theorem dz_679 : decode cL_law 679 = .ok (.istore 6, 2) := dw_at dwl_5 (p := 79) rfl (by decide +kernel)
theorem dz_681 : decode cL_law 681 = .ok (.goto 1029, 3) := dw_at dwl_5 (p := 81) rfl (by decide +kernel)
def ltp_reverse (vl : Nat → Nat) (K : Nat) (x1 : Int32) (x2 : Int32) (x3 : Int32) (x4 : Int32) (x5 : Int32) (zc zm : ow_MS) : Option ow_LwS :=
 cs1 (le_L_reverse vl K 0 x1 x2 zc) fun v2 zc1 => cs1 (qe_X13_reverse K x1 x2 zm) fun v4 zm3 => some (vl, zc1, zm3)
set_option maxHeartbeats 4000000 in
set_option maxRecDepth 100000 in
theorem lxc_reverse {p : Program} {l : Launch} {e : Env} {s : State} {m : MethodId} {args : Array Value} {below : List Frame} {meth : Method} {c : Code} {b L K n : Nat} {xs : Nat → Int32} {D : va_G} {q : Nat → ClassId} {q5 : ow_Q5} {vl u w sa : Nat → Nat} {zc zm : ow_MS} {S1 : ow_LwS} {Ts : List Cond} {Q : State → Prop} {H : Heap} {locs : List Loc} {ls : Array Slot} {cells slots : Nat} (hx : p.tables.exec = Jvm.exec) (hb : c.code = cL_law) (hml : c.maxLocals = 8) (hown : s.vm.findClass RL = some m.cls) (hts : ∀ w ∈ Ts, w.before args s = true) (hX : va_X b L xs s s.heap) (hbl : b < s.heap.size) (hZ : ∀ w ∈ wZ, w ∈ Ts) (hL1 : ∀ w ∈ wLL, w ∈ Ts) (hC1 : ∀ w ∈ wC, w ∈ Ts) (hM1 : ∀ w ∈ wM, w ∈ Ts) (hG : lx_G l s D q q5 sa) (hLn : L ≤ 3072) (hn : 6 * n + 6 ≤ L) (hq : ltp_reverse vl K (xs (6 * n + 1)) (xs (6 * n + 2)) (xs (6 * n + 3)) (xs (6 * n + 4)) (xs (6 * n + 5)) zc zm = some S1) (hM : lx_M D q q5 s vl u w zc zm H locs) (hl : lv_has ls 8 [(0, .ref b), (1, .ref (u 0)), (2, .ref (w 0)), (3, .ref (u 52001)), (4, .int (nI (6 * n)))]) (hc : cells + 3 ≤ 601024) (hs : slots + 18 ≤ 7293033) (kk : ∀ (zc1 zm1 : ow_MS) (H1 : Heap) (locs1 : List Loc) (ls1 : Array Slot), lx_M D q q5 s vl u w zc1 zm1 H1 locs1 → lv_has ls1 8 [(0, .ref b), (1, .ref (u 0)), (2, .ref (w 0)), (3, .ref (u 52001)), (4, .int (nI (6 * n)))] → some (vl, zc1, zm1) = some S1 → W p l e room_1 s m args below meth c H1 locs1 (cells + 3) (slots + 18) Q (F0 m 1710 ls1 [])) : W p l e room_1 s m args below meth c H locs cells slots Q (F0 m 644 ls []) := by
  have hbA : ¬ lx_A s b := Nat.not_le.mpr hbl
  generalize e1 : xs (6 * n + 1) = x1 at hq
  generalize e2 : xs (6 * n + 2) = x2 at hq
  generalize e3 : xs (6 * n + 3) = x3 at hq
  generalize e4 : xs (6 * n + 4) = x4 at hq
  generalize e5 : xs (6 * n + 5) = x5 at hq
  unfold ltp_reverse at hq
  refine lv_aload_n hx hb dz_644 rfl (lv_at hl 1 rfl) ?_
  refine lv_aload_n hx hb dz_645 rfl (lv_at hl 0 rfl) ?_
  refine lv_iload hx hb dz_646 (lv_at hl 4 rfl) ?_
  refine lv_iconst (v := 1) hx hb dz_648 (by decide) ?_
  refine lv_iadd hx hb dz_649 ?_
  refine ow_topi (y := nI (6 * n + 1)) (nI_add (6 * n) 1) ?_
  refine va_sld hx hb hX hbl hbA hM.2.2.2.2.2 (vp_in_nI (n := 6 * n + 1) (N := L) (by omega) (by omega)) dz_650 ?_
  refine ow_topi (y := x1) ((congrArg xs (nI_clamp (by omega))).trans e1) ?_
  refine lv_aload_n hx hb dz_651 rfl (lv_at hl 0 rfl) ?_
  refine lv_iload hx hb dz_652 (lv_at hl 4 rfl) ?_
  refine lv_iconst (v := 2) hx hb dz_654 (by decide) ?_
  refine lv_iadd hx hb dz_655 ?_
  refine ow_topi (y := nI (6 * n + 2)) (nI_add (6 * n) 2) ?_
  refine va_sld hx hb hX hbl hbA hM.2.2.2.2.2 (vp_in_nI (n := 6 * n + 2) (N := L) (by omega) (by omega)) dz_656 ?_
  refine ow_topi (y := x2) ((congrArg xs (nI_clamp (by omega))).trans e2) ?_
  refine lv_aload_n hx hb dz_657 rfl (lv_at hl 3 rfl) ?_
  obtain ⟨v2, zc1, hcq, hq⟩ := tw_cl1 hq
  refine lx_wrap hM (vx_runSX (As := [.ref (u 0), .int x1, .int x2, .ref (u 52001)]) (rest := []) ⟨hx, hb, hml, hown, hts⟩ (kl_L_reverse l D q vl u hM.2.2.1.1 hG.1 sa K 0 x1 x2 (by unfold cw_X11 ci_X11; exact List.mem_singleton.mpr rfl) zc zc1 v2 hcq) (vx_cwSW 4 hts (lx_gS (lx_all wLL_good rfl) (lx_mem hL1 (hZ _ zq_87)) (hZ _ zq_88) (hZ _ zq_89) (hZ _ zq_3) rfl rfl rfl) rfl rfl rfl (by decide +kernel) ⟨(Nat.le_of_ble_eq_true rfl), (Nat.le_of_ble_eq_true rfl)⟩) (lx_preL hG hM) rfl rfl hl.1 rfl (lv_room (Nat.le_of_ble_eq_true rfl)) dz_658 ⟨(by show _ ≤ 601024; omega), (by show _ ≤ 7293033; omega)⟩) (fun H locs hM => ?_)
  refine lv_istore (lv' := [(5, .int v2), (0, .ref b), (1, .ref (u 0)), (2, .ref (w 0)), (3, .ref (u 52001)), (4, .int (nI (6 * n)))]) hx hb dz_661 hl (by decide) rfl (fun ls hl => ?_)
  refine lv_aload_n hx hb dz_663 rfl (lv_at hl 3 rfl) ?_
  refine lv_aload_n hx hb dz_664 rfl (lv_at hl 1 rfl) ?_
  refine lv_iload hx hb dz_665 (lv_at hl 5 rfl) ?_
  refine lv_iconst (v := 1) hx hb dz_667 (by decide) ?_
  refine lv_iadd hx hb dz_668 ?_
  refine ow_topi (y := nI (6 * n + 1)) (nI_add (6 * n) 1) ?_
  refine va_sld hx hb hX hbl hbA hM.2.2.2.2.2 (vp_in_nI (n := 6 * n + 1) (N := L) (by omega) (by omega)) dz_669 ?_
  refine ow_topi (y := x1) ((congrArg xs (nI_clamp (by omega))).trans e1) ?_
  refine lv_aload_n hx hb dz_670 rfl (lv_at hl 1 rfl) ?_
  refine lv_iload hx hb dz_671 (lv_at hl 5 rfl) ?_
  refine lv_iconst (v := 2) hx hb dz_673 (by decide) ?_
  refine lv_iadd hx hb dz_674 ?_
  refine ow_topi (y := nI (6 * n + 2)) (nI_add (6 * n) 2) ?_
  refine va_sld hx hb hX hbl hbA hM.2.2.2.2.2 (vp_in_nI (n := 6 * n + 2) (N := L) (by omega) (by omega)) dz_675 ?_
  refine ow_topi (y := x2) ((congrArg xs (nI_clamp (by omega))).trans e2) ?_
  obtain ⟨v4, zm3, hcq, hq⟩ := tw_cl1 hq
  refine lx_refi hM (va_runV (As := [.int x1, .int x2]) (rest := []) ⟨hx, hb, hml, hown, hts⟩ (km_X13_reverse l D q5 w hM.2.2.2.1.1 K x1 x2 zm zm3 v4 hcq) (cwV 2 hts (lx_gV (lx_all wM_good rfl) (lx_mem hM1 (hZ _ zq_90)) (hZ _ zq_91) (hZ _ zq_92) (hZ _ zq_93) (hZ _ zq_8) rfl rfl rfl rfl) rfl rfl rfl cd_X13_reverse ⟨(Nat.le_of_ble_eq_true rfl), (Nat.le_of_ble_eq_true rfl)⟩) (lx_preM hG hM) rfl rfl hl.1 rfl (lv_room (Nat.le_of_ble_eq_true rfl)) dz_676 ⟨(by show _ ≤ 601024; omega), (by show _ ≤ 7293033; omega)⟩) (fun H locs hM => ?_)
  refine lv_istore (lv' := [(6, .int v4), (5, .int v2), (0, .ref b), (1, .ref (u 0)), (2, .ref (w 0)), (3, .ref (u 52001)), (4, .int (nI (6 * n)))]) hx hb dz_679 hl (by decide) rfl (fun ls hl => ?_)
  refine lv_goto (tgt := 1710) hx hb dz_681 (by decide) ?_
  exact kk _ _ H locs ls hM (lv_sub hl [2, 3, 4, 5, 6] rfl) hq
theorem dz_684 : decode cL_law 684 = .ok (.aload_n 1, 1) := dw_at dwl_5 (p := 84) rfl (by decide +kernel)
theorem dz_685 : decode cL_law 685 = .ok (.aload_n 0, 1) := dw_at dwl_5 (p := 85) rfl (by decide +kernel)
theorem dz_686 : decode cL_law 686 = .ok (.iload 4, 2) := dw_at dwl_5 (p := 86) rfl (by decide +kernel)
theorem dz_688 : decode cL_law 688 = .ok (.iconst 1, 1) := dw_at dwl_5 (p := 88) rfl (by decide +kernel)
theorem dz_689 : decode cL_law 689 = .ok (.iadd, 1) := dw_at dwl_5 (p := 89) rfl (by decide +kernel)
theorem dz_690 : decode cL_law 690 = .ok (.iaload, 1) := dw_at dwl_5 (p := 90) rfl (by decide +kernel)
theorem dz_691 : decode cL_law 691 = .ok (.aload_n 0, 1) := dw_at dwl_5 (p := 91) rfl (by decide +kernel)
theorem dz_692 : decode cL_law 692 = .ok (.iload 4, 2) := dw_at dwl_5 (p := 92) rfl (by decide +kernel)
theorem dz_694 : decode cL_law 694 = .ok (.iconst 2, 1) := dw_at dwl_5 (p := 94) rfl (by decide +kernel)
theorem dz_695 : decode cL_law 695 = .ok (.iadd, 1) := dw_at dwl_5 (p := 95) rfl (by decide +kernel)
theorem dz_696 : decode cL_law 696 = .ok (.iaload, 1) := dw_at dwl_5 (p := 96) rfl (by decide +kernel)
theorem dz_697 : decode cL_law 697 = .ok (.aload_n 3, 1) := dw_at dwl_5 (p := 97) rfl (by decide +kernel)
theorem dz_698 : decode cL_law 698 = .ok (.invokestatic 183, 3) := dw_at dwl_5 (p := 98) rfl (by decide +kernel)
theorem dz_701 : decode cL_law 701 = .ok (.istore 5, 2) := dw_at dwl_5 (p := 101) rfl (by decide +kernel)
theorem dz_703 : decode cL_law 703 = .ok (.aload_n 2, 1) := dw_at dwl_5 (p := 103) rfl (by decide +kernel)
theorem dz_704 : decode cL_law 704 = .ok (.aload_n 0, 1) := dw_at dwl_5 (p := 104) rfl (by decide +kernel)
theorem dz_705 : decode cL_law 705 = .ok (.iload 4, 2) := dw_at dwl_5 (p := 105) rfl (by decide +kernel)
theorem dz_707 : decode cL_law 707 = .ok (.iconst 1, 1) := dw_at dwl_5 (p := 107) rfl (by decide +kernel)
theorem dz_708 : decode cL_law 708 = .ok (.iadd, 1) := dw_at dwl_5 (p := 108) rfl (by decide +kernel)
theorem dz_709 : decode cL_law 709 = .ok (.iaload, 1) := dw_at dwl_5 (p := 109) rfl (by decide +kernel)
theorem dz_710 : decode cL_law 710 = .ok (.aload_n 0, 1) := dw_at dwl_5 (p := 110) rfl (by decide +kernel)
theorem dz_711 : decode cL_law 711 = .ok (.iload 4, 2) := dw_at dwl_5 (p := 111) rfl (by decide +kernel)
theorem dz_713 : decode cL_law 713 = .ok (.iconst 2, 1) := dw_at dwl_5 (p := 113) rfl (by decide +kernel)
theorem dz_714 : decode cL_law 714 = .ok (.iadd, 1) := dw_at dwl_5 (p := 114) rfl (by decide +kernel)
theorem dz_715 : decode cL_law 715 = .ok (.iaload, 1) := dw_at dwl_5 (p := 115) rfl (by decide +kernel)
theorem dz_716 : decode cL_law 716 = .ok (.invokevirtual 185, 3) := dw_at dwl_5 (p := 116) rfl (by decide +kernel)
theorem dz_719 : decode cL_law 719 = .ok (.istore 6, 2) := dw_at dwl_5 (p := 119) rfl (by decide +kernel)
theorem dz_721 : decode cL_law 721 = .ok (.goto 989, 3) := dw_at dwl_6 (p := 1) rfl (by decide +kernel)
def ltp_change (vl : Nat → Nat) (K : Nat) (x1 : Int32) (x2 : Int32) (x3 : Int32) (x4 : Int32) (x5 : Int32) (zc zm : ow_MS) : Option ow_LwS :=
 cs1 (le_L_change vl K 0 x1 x2 zc) fun v2 zc1 => cs1 (qe_X13_change K x1 x2 zm) fun v4 zm3 => some (vl, zc1, zm3)
set_option maxHeartbeats 4000000 in
set_option maxRecDepth 100000 in
theorem lxc_change {p : Program} {l : Launch} {e : Env} {s : State} {m : MethodId} {args : Array Value} {below : List Frame} {meth : Method} {c : Code} {b L K n : Nat} {xs : Nat → Int32} {D : va_G} {q : Nat → ClassId} {q5 : ow_Q5} {vl u w sa : Nat → Nat} {zc zm : ow_MS} {S1 : ow_LwS} {Ts : List Cond} {Q : State → Prop} {H : Heap} {locs : List Loc} {ls : Array Slot} {cells slots : Nat} (hx : p.tables.exec = Jvm.exec) (hb : c.code = cL_law) (hml : c.maxLocals = 8) (hown : s.vm.findClass RL = some m.cls) (hts : ∀ w ∈ Ts, w.before args s = true) (hX : va_X b L xs s s.heap) (hbl : b < s.heap.size) (hZ : ∀ w ∈ wZ, w ∈ Ts) (hL1 : ∀ w ∈ wLL, w ∈ Ts) (hC1 : ∀ w ∈ wC, w ∈ Ts) (hM1 : ∀ w ∈ wM, w ∈ Ts) (hG : lx_G l s D q q5 sa) (hLn : L ≤ 3072) (hn : 6 * n + 6 ≤ L) (hq : ltp_change vl K (xs (6 * n + 1)) (xs (6 * n + 2)) (xs (6 * n + 3)) (xs (6 * n + 4)) (xs (6 * n + 5)) zc zm = some S1) (hM : lx_M D q q5 s vl u w zc zm H locs) (hl : lv_has ls 8 [(0, .ref b), (1, .ref (u 0)), (2, .ref (w 0)), (3, .ref (u 52001)), (4, .int (nI (6 * n)))]) (hc : cells + 3 ≤ 601024) (hs : slots + 18 ≤ 7293033) (kk : ∀ (zc1 zm1 : ow_MS) (H1 : Heap) (locs1 : List Loc) (ls1 : Array Slot), lx_M D q q5 s vl u w zc1 zm1 H1 locs1 → lv_has ls1 8 [(0, .ref b), (1, .ref (u 0)), (2, .ref (w 0)), (3, .ref (u 52001)), (4, .int (nI (6 * n)))] → some (vl, zc1, zm1) = some S1 → W p l e room_1 s m args below meth c H1 locs1 (cells + 3) (slots + 18) Q (F0 m 1710 ls1 [])) : W p l e room_1 s m args below meth c H locs cells slots Q (F0 m 684 ls []) := by
  have hbA : ¬ lx_A s b := Nat.not_le.mpr hbl
  generalize e1 : xs (6 * n + 1) = x1 at hq
  generalize e2 : xs (6 * n + 2) = x2 at hq
  generalize e3 : xs (6 * n + 3) = x3 at hq
  generalize e4 : xs (6 * n + 4) = x4 at hq
  generalize e5 : xs (6 * n + 5) = x5 at hq
  unfold ltp_change at hq
  refine lv_aload_n hx hb dz_684 rfl (lv_at hl 1 rfl) ?_
  refine lv_aload_n hx hb dz_685 rfl (lv_at hl 0 rfl) ?_
  refine lv_iload hx hb dz_686 (lv_at hl 4 rfl) ?_
  refine lv_iconst (v := 1) hx hb dz_688 (by decide) ?_
  refine lv_iadd hx hb dz_689 ?_
  refine ow_topi (y := nI (6 * n + 1)) (nI_add (6 * n) 1) ?_
  refine va_sld hx hb hX hbl hbA hM.2.2.2.2.2 (vp_in_nI (n := 6 * n + 1) (N := L) (by omega) (by omega)) dz_690 ?_
  refine ow_topi (y := x1) ((congrArg xs (nI_clamp (by omega))).trans e1) ?_
  refine lv_aload_n hx hb dz_691 rfl (lv_at hl 0 rfl) ?_
  refine lv_iload hx hb dz_692 (lv_at hl 4 rfl) ?_
  refine lv_iconst (v := 2) hx hb dz_694 (by decide) ?_
  refine lv_iadd hx hb dz_695 ?_
  refine ow_topi (y := nI (6 * n + 2)) (nI_add (6 * n) 2) ?_
  refine va_sld hx hb hX hbl hbA hM.2.2.2.2.2 (vp_in_nI (n := 6 * n + 2) (N := L) (by omega) (by omega)) dz_696 ?_
  refine ow_topi (y := x2) ((congrArg xs (nI_clamp (by omega))).trans e2) ?_
  refine lv_aload_n hx hb dz_697 rfl (lv_at hl 3 rfl) ?_
  obtain ⟨v2, zc1, hcq, hq⟩ := tw_cl1 hq
  refine lx_wrap hM (vx_runSX (As := [.ref (u 0), .int x1, .int x2, .ref (u 52001)]) (rest := []) ⟨hx, hb, hml, hown, hts⟩ (kl_L_change l D q vl u hM.2.2.1.1 hG.1 sa K 0 x1 x2 (by unfold cw_X11 ci_X11; exact List.mem_singleton.mpr rfl) zc zc1 v2 hcq) (vx_cwSW 4 hts (lx_gS (lx_all wLL_good rfl) (lx_mem hL1 (hZ _ zq_94)) (hZ _ zq_95) (hZ _ zq_96) (hZ _ zq_3) rfl rfl rfl) rfl rfl rfl (by decide +kernel) ⟨(Nat.le_of_ble_eq_true rfl), (Nat.le_of_ble_eq_true rfl)⟩) (lx_preL hG hM) rfl rfl hl.1 rfl (lv_room (Nat.le_of_ble_eq_true rfl)) dz_698 ⟨(by show _ ≤ 601024; omega), (by show _ ≤ 7293033; omega)⟩) (fun H locs hM => ?_)
  refine lv_istore (lv' := [(5, .int v2), (0, .ref b), (1, .ref (u 0)), (2, .ref (w 0)), (3, .ref (u 52001)), (4, .int (nI (6 * n)))]) hx hb dz_701 hl (by decide) rfl (fun ls hl => ?_)
  refine lv_aload_n hx hb dz_703 rfl (lv_at hl 3 rfl) ?_
  refine lv_aload_n hx hb dz_704 rfl (lv_at hl 1 rfl) ?_
  refine lv_iload hx hb dz_705 (lv_at hl 5 rfl) ?_
  refine lv_iconst (v := 1) hx hb dz_707 (by decide) ?_
  refine lv_iadd hx hb dz_708 ?_
  refine ow_topi (y := nI (6 * n + 1)) (nI_add (6 * n) 1) ?_
  refine va_sld hx hb hX hbl hbA hM.2.2.2.2.2 (vp_in_nI (n := 6 * n + 1) (N := L) (by omega) (by omega)) dz_709 ?_
  refine ow_topi (y := x1) ((congrArg xs (nI_clamp (by omega))).trans e1) ?_
  refine lv_aload_n hx hb dz_710 rfl (lv_at hl 1 rfl) ?_
  refine lv_iload hx hb dz_711 (lv_at hl 5 rfl) ?_
  refine lv_iconst (v := 2) hx hb dz_713 (by decide) ?_
  refine lv_iadd hx hb dz_714 ?_
  refine ow_topi (y := nI (6 * n + 2)) (nI_add (6 * n) 2) ?_
  refine va_sld hx hb hX hbl hbA hM.2.2.2.2.2 (vp_in_nI (n := 6 * n + 2) (N := L) (by omega) (by omega)) dz_715 ?_
  refine ow_topi (y := x2) ((congrArg xs (nI_clamp (by omega))).trans e2) ?_
  obtain ⟨v4, zm3, hcq, hq⟩ := tw_cl1 hq
  refine lx_refi hM (va_runV (As := [.int x1, .int x2]) (rest := []) ⟨hx, hb, hml, hown, hts⟩ (km_X13_change l D q5 w hM.2.2.2.1.1 K x1 x2 zm zm3 v4 hcq) (cwV 2 hts (lx_gV (lx_all wM_good rfl) (lx_mem hM1 (hZ _ zq_97)) (hZ _ zq_98) (hZ _ zq_99) (hZ _ zq_100) (hZ _ zq_8) rfl rfl rfl rfl) rfl rfl rfl cd_X13_change ⟨(Nat.le_of_ble_eq_true rfl), (Nat.le_of_ble_eq_true rfl)⟩) (lx_preM hG hM) rfl rfl hl.1 rfl (lv_room (Nat.le_of_ble_eq_true rfl)) dz_716 ⟨(by show _ ≤ 601024; omega), (by show _ ≤ 7293033; omega)⟩) (fun H locs hM => ?_)
  refine lv_istore (lv' := [(6, .int v4), (5, .int v2), (0, .ref b), (1, .ref (u 0)), (2, .ref (w 0)), (3, .ref (u 52001)), (4, .int (nI (6 * n)))]) hx hb dz_719 hl (by decide) rfl (fun ls hl => ?_)
  refine lv_goto (tgt := 1710) hx hb dz_721 (by decide) ?_
  exact kk _ _ H locs ls hM (lv_sub hl [2, 3, 4, 5, 6] rfl) hq
theorem dz_724 : decode cL_law 724 = .ok (.aload_n 1, 1) := dw_at dwl_6 (p := 4) rfl (by decide +kernel)
theorem dz_725 : decode cL_law 725 = .ok (.aload_n 0, 1) := dw_at dwl_6 (p := 5) rfl (by decide +kernel)
theorem dz_726 : decode cL_law 726 = .ok (.iload 4, 2) := dw_at dwl_6 (p := 6) rfl (by decide +kernel)
theorem dz_728 : decode cL_law 728 = .ok (.iconst 1, 1) := dw_at dwl_6 (p := 8) rfl (by decide +kernel)
theorem dz_729 : decode cL_law 729 = .ok (.iadd, 1) := dw_at dwl_6 (p := 9) rfl (by decide +kernel)
theorem dz_730 : decode cL_law 730 = .ok (.iaload, 1) := dw_at dwl_6 (p := 10) rfl (by decide +kernel)
theorem dz_731 : decode cL_law 731 = .ok (.aload_n 0, 1) := dw_at dwl_6 (p := 11) rfl (by decide +kernel)
theorem dz_732 : decode cL_law 732 = .ok (.iload 4, 2) := dw_at dwl_6 (p := 12) rfl (by decide +kernel)
theorem dz_734 : decode cL_law 734 = .ok (.iconst 2, 1) := dw_at dwl_6 (p := 14) rfl (by decide +kernel)
theorem dz_735 : decode cL_law 735 = .ok (.iadd, 1) := dw_at dwl_6 (p := 15) rfl (by decide +kernel)
theorem dz_736 : decode cL_law 736 = .ok (.iaload, 1) := dw_at dwl_6 (p := 16) rfl (by decide +kernel)
theorem dz_737 : decode cL_law 737 = .ok (.aload_n 3, 1) := dw_at dwl_6 (p := 17) rfl (by decide +kernel)
theorem dz_738 : decode cL_law 738 = .ok (.invokestatic 186, 3) := dw_at dwl_6 (p := 18) rfl (by decide +kernel)
theorem dz_741 : decode cL_law 741 = .ok (.istore 5, 2) := dw_at dwl_6 (p := 21) rfl (by decide +kernel)
theorem dz_743 : decode cL_law 743 = .ok (.aload_n 2, 1) := dw_at dwl_6 (p := 23) rfl (by decide +kernel)
theorem dz_744 : decode cL_law 744 = .ok (.aload_n 0, 1) := dw_at dwl_6 (p := 24) rfl (by decide +kernel)
theorem dz_745 : decode cL_law 745 = .ok (.iload 4, 2) := dw_at dwl_6 (p := 25) rfl (by decide +kernel)
theorem dz_747 : decode cL_law 747 = .ok (.iconst 1, 1) := dw_at dwl_6 (p := 27) rfl (by decide +kernel)
theorem dz_748 : decode cL_law 748 = .ok (.iadd, 1) := dw_at dwl_6 (p := 28) rfl (by decide +kernel)
theorem dz_749 : decode cL_law 749 = .ok (.iaload, 1) := dw_at dwl_6 (p := 29) rfl (by decide +kernel)
theorem dz_750 : decode cL_law 750 = .ok (.aload_n 0, 1) := dw_at dwl_6 (p := 30) rfl (by decide +kernel)
theorem dz_751 : decode cL_law 751 = .ok (.iload 4, 2) := dw_at dwl_6 (p := 31) rfl (by decide +kernel)
theorem dz_753 : decode cL_law 753 = .ok (.iconst 2, 1) := dw_at dwl_6 (p := 33) rfl (by decide +kernel)
theorem dz_754 : decode cL_law 754 = .ok (.iadd, 1) := dw_at dwl_6 (p := 34) rfl (by decide +kernel)
theorem dz_755 : decode cL_law 755 = .ok (.iaload, 1) := dw_at dwl_6 (p := 35) rfl (by decide +kernel)
theorem dz_756 : decode cL_law 756 = .ok (.invokevirtual 188, 3) := dw_at dwl_6 (p := 36) rfl (by decide +kernel)
theorem dz_759 : decode cL_law 759 = .ok (.istore 6, 2) := dw_at dwl_6 (p := 39) rfl (by decide +kernel)
theorem dz_761 : decode cL_law 761 = .ok (.goto 949, 3) := dw_at dwl_6 (p := 41) rfl (by decide +kernel)
def ltp_smooth (vl : Nat → Nat) (K : Nat) (x1 : Int32) (x2 : Int32) (x3 : Int32) (x4 : Int32) (x5 : Int32) (zc zm : ow_MS) : Option ow_LwS :=
 cs1 (le_L_smooth vl K 0 x1 x2 zc) fun v2 zc1 => cs1 (qe_X13_smooth K x1 x2 zm) fun v4 zm3 => some (vl, zc1, zm3)
set_option maxHeartbeats 4000000 in
set_option maxRecDepth 100000 in
theorem lxc_smooth {p : Program} {l : Launch} {e : Env} {s : State} {m : MethodId} {args : Array Value} {below : List Frame} {meth : Method} {c : Code} {b L K n : Nat} {xs : Nat → Int32} {D : va_G} {q : Nat → ClassId} {q5 : ow_Q5} {vl u w sa : Nat → Nat} {zc zm : ow_MS} {S1 : ow_LwS} {Ts : List Cond} {Q : State → Prop} {H : Heap} {locs : List Loc} {ls : Array Slot} {cells slots : Nat} (hx : p.tables.exec = Jvm.exec) (hb : c.code = cL_law) (hml : c.maxLocals = 8) (hown : s.vm.findClass RL = some m.cls) (hts : ∀ w ∈ Ts, w.before args s = true) (hX : va_X b L xs s s.heap) (hbl : b < s.heap.size) (hZ : ∀ w ∈ wZ, w ∈ Ts) (hL1 : ∀ w ∈ wLL, w ∈ Ts) (hC1 : ∀ w ∈ wC, w ∈ Ts) (hM1 : ∀ w ∈ wM, w ∈ Ts) (hG : lx_G l s D q q5 sa) (hLn : L ≤ 3072) (hn : 6 * n + 6 ≤ L) (hq : ltp_smooth vl K (xs (6 * n + 1)) (xs (6 * n + 2)) (xs (6 * n + 3)) (xs (6 * n + 4)) (xs (6 * n + 5)) zc zm = some S1) (hM : lx_M D q q5 s vl u w zc zm H locs) (hl : lv_has ls 8 [(0, .ref b), (1, .ref (u 0)), (2, .ref (w 0)), (3, .ref (u 52001)), (4, .int (nI (6 * n)))]) (hc : cells + 4 ≤ 601024) (hs : slots + 24 ≤ 7293033) (kk : ∀ (zc1 zm1 : ow_MS) (H1 : Heap) (locs1 : List Loc) (ls1 : Array Slot), lx_M D q q5 s vl u w zc1 zm1 H1 locs1 → lv_has ls1 8 [(0, .ref b), (1, .ref (u 0)), (2, .ref (w 0)), (3, .ref (u 52001)), (4, .int (nI (6 * n)))] → some (vl, zc1, zm1) = some S1 → W p l e room_1 s m args below meth c H1 locs1 (cells + 4) (slots + 24) Q (F0 m 1710 ls1 [])) : W p l e room_1 s m args below meth c H locs cells slots Q (F0 m 724 ls []) := by
  have hbA : ¬ lx_A s b := Nat.not_le.mpr hbl
  generalize e1 : xs (6 * n + 1) = x1 at hq
  generalize e2 : xs (6 * n + 2) = x2 at hq
  generalize e3 : xs (6 * n + 3) = x3 at hq
  generalize e4 : xs (6 * n + 4) = x4 at hq
  generalize e5 : xs (6 * n + 5) = x5 at hq
  unfold ltp_smooth at hq
  refine lv_aload_n hx hb dz_724 rfl (lv_at hl 1 rfl) ?_
  refine lv_aload_n hx hb dz_725 rfl (lv_at hl 0 rfl) ?_
  refine lv_iload hx hb dz_726 (lv_at hl 4 rfl) ?_
  refine lv_iconst (v := 1) hx hb dz_728 (by decide) ?_
  refine lv_iadd hx hb dz_729 ?_
  refine ow_topi (y := nI (6 * n + 1)) (nI_add (6 * n) 1) ?_
  refine va_sld hx hb hX hbl hbA hM.2.2.2.2.2 (vp_in_nI (n := 6 * n + 1) (N := L) (by omega) (by omega)) dz_730 ?_
  refine ow_topi (y := x1) ((congrArg xs (nI_clamp (by omega))).trans e1) ?_
  refine lv_aload_n hx hb dz_731 rfl (lv_at hl 0 rfl) ?_
  refine lv_iload hx hb dz_732 (lv_at hl 4 rfl) ?_
  refine lv_iconst (v := 2) hx hb dz_734 (by decide) ?_
  refine lv_iadd hx hb dz_735 ?_
  refine ow_topi (y := nI (6 * n + 2)) (nI_add (6 * n) 2) ?_
  refine va_sld hx hb hX hbl hbA hM.2.2.2.2.2 (vp_in_nI (n := 6 * n + 2) (N := L) (by omega) (by omega)) dz_736 ?_
  refine ow_topi (y := x2) ((congrArg xs (nI_clamp (by omega))).trans e2) ?_
  refine lv_aload_n hx hb dz_737 rfl (lv_at hl 3 rfl) ?_
  obtain ⟨v2, zc1, hcq, hq⟩ := tw_cl1 hq
  refine lx_wrap hM (vx_runSX (As := [.ref (u 0), .int x1, .int x2, .ref (u 52001)]) (rest := []) ⟨hx, hb, hml, hown, hts⟩ (kl_L_smooth l D q vl u hM.2.2.1.1 hG.1 sa K 0 x1 x2 (by unfold cw_X11 ci_X11; exact List.mem_singleton.mpr rfl) zc zc1 v2 hcq) (vx_cwSW 4 hts (lx_gS (lx_all wLL_good rfl) (lx_mem hL1 (hZ _ zq_101)) (hZ _ zq_102) (hZ _ zq_103) (hZ _ zq_3) rfl rfl rfl) rfl rfl rfl (by decide +kernel) ⟨(Nat.le_of_ble_eq_true rfl), (Nat.le_of_ble_eq_true rfl)⟩) (lx_preL hG hM) rfl rfl hl.1 rfl (lv_room (Nat.le_of_ble_eq_true rfl)) dz_738 ⟨(by show _ ≤ 601024; omega), (by show _ ≤ 7293033; omega)⟩) (fun H locs hM => ?_)
  refine lv_istore (lv' := [(5, .int v2), (0, .ref b), (1, .ref (u 0)), (2, .ref (w 0)), (3, .ref (u 52001)), (4, .int (nI (6 * n)))]) hx hb dz_741 hl (by decide) rfl (fun ls hl => ?_)
  refine lv_aload_n hx hb dz_743 rfl (lv_at hl 3 rfl) ?_
  refine lv_aload_n hx hb dz_744 rfl (lv_at hl 1 rfl) ?_
  refine lv_iload hx hb dz_745 (lv_at hl 5 rfl) ?_
  refine lv_iconst (v := 1) hx hb dz_747 (by decide) ?_
  refine lv_iadd hx hb dz_748 ?_
  refine ow_topi (y := nI (6 * n + 1)) (nI_add (6 * n) 1) ?_
  refine va_sld hx hb hX hbl hbA hM.2.2.2.2.2 (vp_in_nI (n := 6 * n + 1) (N := L) (by omega) (by omega)) dz_749 ?_
  refine ow_topi (y := x1) ((congrArg xs (nI_clamp (by omega))).trans e1) ?_
  refine lv_aload_n hx hb dz_750 rfl (lv_at hl 1 rfl) ?_
  refine lv_iload hx hb dz_751 (lv_at hl 5 rfl) ?_
  refine lv_iconst (v := 2) hx hb dz_753 (by decide) ?_
  refine lv_iadd hx hb dz_754 ?_
  refine ow_topi (y := nI (6 * n + 2)) (nI_add (6 * n) 2) ?_
  refine va_sld hx hb hX hbl hbA hM.2.2.2.2.2 (vp_in_nI (n := 6 * n + 2) (N := L) (by omega) (by omega)) dz_755 ?_
  refine ow_topi (y := x2) ((congrArg xs (nI_clamp (by omega))).trans e2) ?_
  obtain ⟨v4, zm3, hcq, hq⟩ := tw_cl1 hq
  refine lx_refi hM (va_runV (As := [.int x1, .int x2]) (rest := []) ⟨hx, hb, hml, hown, hts⟩ (km_X13_smooth l D q5 w hM.2.2.2.1.1 K x1 x2 zm zm3 v4 hcq) (cwV 2 hts (lx_gV (lx_all wM_good rfl) (lx_mem hM1 (hZ _ zq_104)) (hZ _ zq_105) (hZ _ zq_106) (hZ _ zq_107) (hZ _ zq_8) rfl rfl rfl rfl) rfl rfl rfl cd_X13_smooth ⟨(Nat.le_of_ble_eq_true rfl), (Nat.le_of_ble_eq_true rfl)⟩) (lx_preM hG hM) rfl rfl hl.1 rfl (lv_room (Nat.le_of_ble_eq_true rfl)) dz_756 ⟨(by show _ ≤ 601024; omega), (by show _ ≤ 7293033; omega)⟩) (fun H locs hM => ?_)
  refine lv_istore (lv' := [(6, .int v4), (5, .int v2), (0, .ref b), (1, .ref (u 0)), (2, .ref (w 0)), (3, .ref (u 52001)), (4, .int (nI (6 * n)))]) hx hb dz_759 hl (by decide) rfl (fun ls hl => ?_)
  refine lv_goto (tgt := 1710) hx hb dz_761 (by decide) ?_
  exact kk _ _ H locs ls hM (lv_sub hl [2, 3, 4, 5, 6] rfl) hq
theorem dz_764 : decode cL_law 764 = .ok (.aload_n 1, 1) := dw_at dwl_6 (p := 44) rfl (by decide +kernel)
theorem dz_765 : decode cL_law 765 = .ok (.aload_n 0, 1) := dw_at dwl_6 (p := 45) rfl (by decide +kernel)
theorem dz_766 : decode cL_law 766 = .ok (.iload 4, 2) := dw_at dwl_6 (p := 46) rfl (by decide +kernel)
theorem dz_768 : decode cL_law 768 = .ok (.iconst 1, 1) := dw_at dwl_6 (p := 48) rfl (by decide +kernel)
theorem dz_769 : decode cL_law 769 = .ok (.iadd, 1) := dw_at dwl_6 (p := 49) rfl (by decide +kernel)
theorem dz_770 : decode cL_law 770 = .ok (.iaload, 1) := dw_at dwl_6 (p := 50) rfl (by decide +kernel)
theorem dz_771 : decode cL_law 771 = .ok (.aload_n 0, 1) := dw_at dwl_6 (p := 51) rfl (by decide +kernel)
theorem dz_772 : decode cL_law 772 = .ok (.iload 4, 2) := dw_at dwl_6 (p := 52) rfl (by decide +kernel)
theorem dz_774 : decode cL_law 774 = .ok (.iconst 2, 1) := dw_at dwl_6 (p := 54) rfl (by decide +kernel)
theorem dz_775 : decode cL_law 775 = .ok (.iadd, 1) := dw_at dwl_6 (p := 55) rfl (by decide +kernel)
theorem dz_776 : decode cL_law 776 = .ok (.iaload, 1) := dw_at dwl_6 (p := 56) rfl (by decide +kernel)
theorem dz_777 : decode cL_law 777 = .ok (.aload_n 3, 1) := dw_at dwl_6 (p := 57) rfl (by decide +kernel)
theorem dz_778 : decode cL_law 778 = .ok (.invokestatic 189, 3) := dw_at dwl_6 (p := 58) rfl (by decide +kernel)
theorem dz_781 : decode cL_law 781 = .ok (.istore 5, 2) := dw_at dwl_6 (p := 61) rfl (by decide +kernel)
theorem dz_783 : decode cL_law 783 = .ok (.aload_n 2, 1) := dw_at dwl_6 (p := 63) rfl (by decide +kernel)
theorem dz_784 : decode cL_law 784 = .ok (.aload_n 0, 1) := dw_at dwl_6 (p := 64) rfl (by decide +kernel)
theorem dz_785 : decode cL_law 785 = .ok (.iload 4, 2) := dw_at dwl_6 (p := 65) rfl (by decide +kernel)
theorem dz_787 : decode cL_law 787 = .ok (.iconst 1, 1) := dw_at dwl_6 (p := 67) rfl (by decide +kernel)
theorem dz_788 : decode cL_law 788 = .ok (.iadd, 1) := dw_at dwl_6 (p := 68) rfl (by decide +kernel)
theorem dz_789 : decode cL_law 789 = .ok (.iaload, 1) := dw_at dwl_6 (p := 69) rfl (by decide +kernel)
theorem dz_790 : decode cL_law 790 = .ok (.aload_n 0, 1) := dw_at dwl_6 (p := 70) rfl (by decide +kernel)
theorem dz_791 : decode cL_law 791 = .ok (.iload 4, 2) := dw_at dwl_6 (p := 71) rfl (by decide +kernel)
theorem dz_793 : decode cL_law 793 = .ok (.iconst 2, 1) := dw_at dwl_6 (p := 73) rfl (by decide +kernel)
theorem dz_794 : decode cL_law 794 = .ok (.iadd, 1) := dw_at dwl_6 (p := 74) rfl (by decide +kernel)
theorem dz_795 : decode cL_law 795 = .ok (.iaload, 1) := dw_at dwl_6 (p := 75) rfl (by decide +kernel)
theorem dz_796 : decode cL_law 796 = .ok (.invokevirtual 191, 3) := dw_at dwl_6 (p := 76) rfl (by decide +kernel)
theorem dz_799 : decode cL_law 799 = .ok (.istore 6, 2) := dw_at dwl_6 (p := 79) rfl (by decide +kernel)
theorem dz_801 : decode cL_law 801 = .ok (.goto 909, 3) := dw_at dwl_6 (p := 81) rfl (by decide +kernel)
def ltp_apart (vl : Nat → Nat) (K : Nat) (x1 : Int32) (x2 : Int32) (x3 : Int32) (x4 : Int32) (x5 : Int32) (zc zm : ow_MS) : Option ow_LwS :=
 cs1 (le_L_apart vl K 0 x1 x2 zc) fun v2 zc1 => cs1 (qe_X13_apart K x1 x2 zm) fun v4 zm3 => some (vl, zc1, zm3)
set_option maxHeartbeats 4000000 in
set_option maxRecDepth 100000 in
theorem lxc_apart {p : Program} {l : Launch} {e : Env} {s : State} {m : MethodId} {args : Array Value} {below : List Frame} {meth : Method} {c : Code} {b L K n : Nat} {xs : Nat → Int32} {D : va_G} {q : Nat → ClassId} {q5 : ow_Q5} {vl u w sa : Nat → Nat} {zc zm : ow_MS} {S1 : ow_LwS} {Ts : List Cond} {Q : State → Prop} {H : Heap} {locs : List Loc} {ls : Array Slot} {cells slots : Nat} (hx : p.tables.exec = Jvm.exec) (hb : c.code = cL_law) (hml : c.maxLocals = 8) (hown : s.vm.findClass RL = some m.cls) (hts : ∀ w ∈ Ts, w.before args s = true) (hX : va_X b L xs s s.heap) (hbl : b < s.heap.size) (hZ : ∀ w ∈ wZ, w ∈ Ts) (hL1 : ∀ w ∈ wLL, w ∈ Ts) (hC1 : ∀ w ∈ wC, w ∈ Ts) (hM1 : ∀ w ∈ wM, w ∈ Ts) (hG : lx_G l s D q q5 sa) (hLn : L ≤ 3072) (hn : 6 * n + 6 ≤ L) (hq : ltp_apart vl K (xs (6 * n + 1)) (xs (6 * n + 2)) (xs (6 * n + 3)) (xs (6 * n + 4)) (xs (6 * n + 5)) zc zm = some S1) (hM : lx_M D q q5 s vl u w zc zm H locs) (hl : lv_has ls 8 [(0, .ref b), (1, .ref (u 0)), (2, .ref (w 0)), (3, .ref (u 52001)), (4, .int (nI (6 * n)))]) (hc : cells + 4 ≤ 601024) (hs : slots + 24 ≤ 7293033) (kk : ∀ (zc1 zm1 : ow_MS) (H1 : Heap) (locs1 : List Loc) (ls1 : Array Slot), lx_M D q q5 s vl u w zc1 zm1 H1 locs1 → lv_has ls1 8 [(0, .ref b), (1, .ref (u 0)), (2, .ref (w 0)), (3, .ref (u 52001)), (4, .int (nI (6 * n)))] → some (vl, zc1, zm1) = some S1 → W p l e room_1 s m args below meth c H1 locs1 (cells + 4) (slots + 24) Q (F0 m 1710 ls1 [])) : W p l e room_1 s m args below meth c H locs cells slots Q (F0 m 764 ls []) := by
  have hbA : ¬ lx_A s b := Nat.not_le.mpr hbl
  generalize e1 : xs (6 * n + 1) = x1 at hq
  generalize e2 : xs (6 * n + 2) = x2 at hq
  generalize e3 : xs (6 * n + 3) = x3 at hq
  generalize e4 : xs (6 * n + 4) = x4 at hq
  generalize e5 : xs (6 * n + 5) = x5 at hq
  unfold ltp_apart at hq
  refine lv_aload_n hx hb dz_764 rfl (lv_at hl 1 rfl) ?_
  refine lv_aload_n hx hb dz_765 rfl (lv_at hl 0 rfl) ?_
  refine lv_iload hx hb dz_766 (lv_at hl 4 rfl) ?_
  refine lv_iconst (v := 1) hx hb dz_768 (by decide) ?_
  refine lv_iadd hx hb dz_769 ?_
  refine ow_topi (y := nI (6 * n + 1)) (nI_add (6 * n) 1) ?_
  refine va_sld hx hb hX hbl hbA hM.2.2.2.2.2 (vp_in_nI (n := 6 * n + 1) (N := L) (by omega) (by omega)) dz_770 ?_
  refine ow_topi (y := x1) ((congrArg xs (nI_clamp (by omega))).trans e1) ?_
  refine lv_aload_n hx hb dz_771 rfl (lv_at hl 0 rfl) ?_
  refine lv_iload hx hb dz_772 (lv_at hl 4 rfl) ?_
  refine lv_iconst (v := 2) hx hb dz_774 (by decide) ?_
  refine lv_iadd hx hb dz_775 ?_
  refine ow_topi (y := nI (6 * n + 2)) (nI_add (6 * n) 2) ?_
  refine va_sld hx hb hX hbl hbA hM.2.2.2.2.2 (vp_in_nI (n := 6 * n + 2) (N := L) (by omega) (by omega)) dz_776 ?_
  refine ow_topi (y := x2) ((congrArg xs (nI_clamp (by omega))).trans e2) ?_
  refine lv_aload_n hx hb dz_777 rfl (lv_at hl 3 rfl) ?_
  obtain ⟨v2, zc1, hcq, hq⟩ := tw_cl1 hq
  refine lx_wrap hM (vx_runSX (As := [.ref (u 0), .int x1, .int x2, .ref (u 52001)]) (rest := []) ⟨hx, hb, hml, hown, hts⟩ (kl_L_apart l D q vl u hM.2.2.1.1 hG.1 sa K 0 x1 x2 (by unfold cw_X11 ci_X11; exact List.mem_singleton.mpr rfl) zc zc1 v2 hcq) (vx_cwSW 4 hts (lx_gS (lx_all wLL_good rfl) (lx_mem hL1 (hZ _ zq_108)) (hZ _ zq_109) (hZ _ zq_110) (hZ _ zq_3) rfl rfl rfl) rfl rfl rfl (by decide +kernel) ⟨(Nat.le_of_ble_eq_true rfl), (Nat.le_of_ble_eq_true rfl)⟩) (lx_preL hG hM) rfl rfl hl.1 rfl (lv_room (Nat.le_of_ble_eq_true rfl)) dz_778 ⟨(by show _ ≤ 601024; omega), (by show _ ≤ 7293033; omega)⟩) (fun H locs hM => ?_)
  refine lv_istore (lv' := [(5, .int v2), (0, .ref b), (1, .ref (u 0)), (2, .ref (w 0)), (3, .ref (u 52001)), (4, .int (nI (6 * n)))]) hx hb dz_781 hl (by decide) rfl (fun ls hl => ?_)
  refine lv_aload_n hx hb dz_783 rfl (lv_at hl 3 rfl) ?_
  refine lv_aload_n hx hb dz_784 rfl (lv_at hl 1 rfl) ?_
  refine lv_iload hx hb dz_785 (lv_at hl 5 rfl) ?_
  refine lv_iconst (v := 1) hx hb dz_787 (by decide) ?_
  refine lv_iadd hx hb dz_788 ?_
  refine ow_topi (y := nI (6 * n + 1)) (nI_add (6 * n) 1) ?_
  refine va_sld hx hb hX hbl hbA hM.2.2.2.2.2 (vp_in_nI (n := 6 * n + 1) (N := L) (by omega) (by omega)) dz_789 ?_
  refine ow_topi (y := x1) ((congrArg xs (nI_clamp (by omega))).trans e1) ?_
  refine lv_aload_n hx hb dz_790 rfl (lv_at hl 1 rfl) ?_
  refine lv_iload hx hb dz_791 (lv_at hl 5 rfl) ?_
  refine lv_iconst (v := 2) hx hb dz_793 (by decide) ?_
  refine lv_iadd hx hb dz_794 ?_
  refine ow_topi (y := nI (6 * n + 2)) (nI_add (6 * n) 2) ?_
  refine va_sld hx hb hX hbl hbA hM.2.2.2.2.2 (vp_in_nI (n := 6 * n + 2) (N := L) (by omega) (by omega)) dz_795 ?_
  refine ow_topi (y := x2) ((congrArg xs (nI_clamp (by omega))).trans e2) ?_
  obtain ⟨v4, zm3, hcq, hq⟩ := tw_cl1 hq
  refine lx_refi hM (va_runV (As := [.int x1, .int x2]) (rest := []) ⟨hx, hb, hml, hown, hts⟩ (km_X13_apart l D q5 w hM.2.2.2.1.1 K x1 x2 zm zm3 v4 hcq) (cwV 2 hts (lx_gV (lx_all wM_good rfl) (lx_mem hM1 (hZ _ zq_111)) (hZ _ zq_112) (hZ _ zq_113) (hZ _ zq_114) (hZ _ zq_8) rfl rfl rfl rfl) rfl rfl rfl cd_X13_apart ⟨(Nat.le_of_ble_eq_true rfl), (Nat.le_of_ble_eq_true rfl)⟩) (lx_preM hG hM) rfl rfl hl.1 rfl (lv_room (Nat.le_of_ble_eq_true rfl)) dz_796 ⟨(by show _ ≤ 601024; omega), (by show _ ≤ 7293033; omega)⟩) (fun H locs hM => ?_)
  refine lv_istore (lv' := [(6, .int v4), (5, .int v2), (0, .ref b), (1, .ref (u 0)), (2, .ref (w 0)), (3, .ref (u 52001)), (4, .int (nI (6 * n)))]) hx hb dz_799 hl (by decide) rfl (fun ls hl => ?_)
  refine lv_goto (tgt := 1710) hx hb dz_801 (by decide) ?_
  exact kk _ _ H locs ls hM (lv_sub hl [2, 3, 4, 5, 6] rfl) hq
theorem dz_804 : decode cL_law 804 = .ok (.aload_n 1, 1) := dw_at dwl_6 (p := 84) rfl (by decide +kernel)
theorem dz_805 : decode cL_law 805 = .ok (.aload_n 0, 1) := dw_at dwl_6 (p := 85) rfl (by decide +kernel)
theorem dz_806 : decode cL_law 806 = .ok (.iload 4, 2) := dw_at dwl_6 (p := 86) rfl (by decide +kernel)
theorem dz_808 : decode cL_law 808 = .ok (.iconst 1, 1) := dw_at dwl_6 (p := 88) rfl (by decide +kernel)
theorem dz_809 : decode cL_law 809 = .ok (.iadd, 1) := dw_at dwl_6 (p := 89) rfl (by decide +kernel)
theorem dz_810 : decode cL_law 810 = .ok (.iaload, 1) := dw_at dwl_6 (p := 90) rfl (by decide +kernel)
theorem dz_811 : decode cL_law 811 = .ok (.aload_n 0, 1) := dw_at dwl_6 (p := 91) rfl (by decide +kernel)
theorem dz_812 : decode cL_law 812 = .ok (.iload 4, 2) := dw_at dwl_6 (p := 92) rfl (by decide +kernel)
theorem dz_814 : decode cL_law 814 = .ok (.iconst 2, 1) := dw_at dwl_6 (p := 94) rfl (by decide +kernel)
theorem dz_815 : decode cL_law 815 = .ok (.iadd, 1) := dw_at dwl_6 (p := 95) rfl (by decide +kernel)
theorem dz_816 : decode cL_law 816 = .ok (.iaload, 1) := dw_at dwl_6 (p := 96) rfl (by decide +kernel)
theorem dz_817 : decode cL_law 817 = .ok (.aload_n 0, 1) := dw_at dwl_6 (p := 97) rfl (by decide +kernel)
theorem dz_818 : decode cL_law 818 = .ok (.iload 4, 2) := dw_at dwl_6 (p := 98) rfl (by decide +kernel)
theorem dz_820 : decode cL_law 820 = .ok (.iconst 3, 1) := dw_at dwl_6 (p := 100) rfl (by decide +kernel)
theorem dz_821 : decode cL_law 821 = .ok (.iadd, 1) := dw_at dwl_6 (p := 101) rfl (by decide +kernel)
theorem dz_822 : decode cL_law 822 = .ok (.iaload, 1) := dw_at dwl_6 (p := 102) rfl (by decide +kernel)
theorem dz_823 : decode cL_law 823 = .ok (.aload_n 0, 1) := dw_at dwl_6 (p := 103) rfl (by decide +kernel)
theorem dz_824 : decode cL_law 824 = .ok (.iload 4, 2) := dw_at dwl_6 (p := 104) rfl (by decide +kernel)
theorem dz_826 : decode cL_law 826 = .ok (.iconst 4, 1) := dw_at dwl_6 (p := 106) rfl (by decide +kernel)
theorem dz_827 : decode cL_law 827 = .ok (.iadd, 1) := dw_at dwl_6 (p := 107) rfl (by decide +kernel)
theorem dz_828 : decode cL_law 828 = .ok (.iaload, 1) := dw_at dwl_6 (p := 108) rfl (by decide +kernel)
theorem dz_829 : decode cL_law 829 = .ok (.aload_n 3, 1) := dw_at dwl_6 (p := 109) rfl (by decide +kernel)
theorem dz_830 : decode cL_law 830 = .ok (.invokestatic 192, 3) := dw_at dwl_6 (p := 110) rfl (by decide +kernel)
theorem dz_833 : decode cL_law 833 = .ok (.istore 5, 2) := dw_at dwl_6 (p := 113) rfl (by decide +kernel)
theorem dz_835 : decode cL_law 835 = .ok (.aload_n 2, 1) := dw_at dwl_6 (p := 115) rfl (by decide +kernel)
theorem dz_836 : decode cL_law 836 = .ok (.aload_n 0, 1) := dw_at dwl_6 (p := 116) rfl (by decide +kernel)
theorem dz_837 : decode cL_law 837 = .ok (.iload 4, 2) := dw_at dwl_6 (p := 117) rfl (by decide +kernel)
theorem dz_839 : decode cL_law 839 = .ok (.iconst 1, 1) := dw_at dwl_6 (p := 119) rfl (by decide +kernel)
theorem dz_840 : decode cL_law 840 = .ok (.iadd, 1) := dw_at dwl_7 (p := 0) rfl (by decide +kernel)
theorem dz_841 : decode cL_law 841 = .ok (.iaload, 1) := dw_at dwl_7 (p := 1) rfl (by decide +kernel)
theorem dz_842 : decode cL_law 842 = .ok (.aload_n 0, 1) := dw_at dwl_7 (p := 2) rfl (by decide +kernel)
theorem dz_843 : decode cL_law 843 = .ok (.iload 4, 2) := dw_at dwl_7 (p := 3) rfl (by decide +kernel)
theorem dz_845 : decode cL_law 845 = .ok (.iconst 2, 1) := dw_at dwl_7 (p := 5) rfl (by decide +kernel)
theorem dz_846 : decode cL_law 846 = .ok (.iadd, 1) := dw_at dwl_7 (p := 6) rfl (by decide +kernel)
theorem dz_847 : decode cL_law 847 = .ok (.iaload, 1) := dw_at dwl_7 (p := 7) rfl (by decide +kernel)
theorem dz_848 : decode cL_law 848 = .ok (.aload_n 0, 1) := dw_at dwl_7 (p := 8) rfl (by decide +kernel)
theorem dz_849 : decode cL_law 849 = .ok (.iload 4, 2) := dw_at dwl_7 (p := 9) rfl (by decide +kernel)
theorem dz_851 : decode cL_law 851 = .ok (.iconst 3, 1) := dw_at dwl_7 (p := 11) rfl (by decide +kernel)
theorem dz_852 : decode cL_law 852 = .ok (.iadd, 1) := dw_at dwl_7 (p := 12) rfl (by decide +kernel)
theorem dz_853 : decode cL_law 853 = .ok (.iaload, 1) := dw_at dwl_7 (p := 13) rfl (by decide +kernel)
theorem dz_854 : decode cL_law 854 = .ok (.aload_n 0, 1) := dw_at dwl_7 (p := 14) rfl (by decide +kernel)
theorem dz_855 : decode cL_law 855 = .ok (.iload 4, 2) := dw_at dwl_7 (p := 15) rfl (by decide +kernel)
theorem dz_857 : decode cL_law 857 = .ok (.iconst 4, 1) := dw_at dwl_7 (p := 17) rfl (by decide +kernel)
theorem dz_858 : decode cL_law 858 = .ok (.iadd, 1) := dw_at dwl_7 (p := 18) rfl (by decide +kernel)
theorem dz_859 : decode cL_law 859 = .ok (.iaload, 1) := dw_at dwl_7 (p := 19) rfl (by decide +kernel)
theorem dz_860 : decode cL_law 860 = .ok (.invokevirtual 195, 3) := dw_at dwl_7 (p := 20) rfl (by decide +kernel)
theorem dz_863 : decode cL_law 863 = .ok (.istore 6, 2) := dw_at dwl_7 (p := 23) rfl (by decide +kernel)
theorem dz_865 : decode cL_law 865 = .ok (.goto 845, 3) := dw_at dwl_7 (p := 25) rfl (by decide +kernel)
def ltp_join (vl : Nat → Nat) (K : Nat) (x1 : Int32) (x2 : Int32) (x3 : Int32) (x4 : Int32) (x5 : Int32) (zc zm : ow_MS) : Option ow_LwS :=
 cs1 (le_L_join vl K 0 x1 x2 x3 x4 zc) fun v2 zc1 => cs1 (qe_X13_join K x1 x2 x3 x4 zm) fun v4 zm3 => some (vl, zc1, zm3)
set_option maxHeartbeats 4000000 in
set_option maxRecDepth 100000 in
theorem lxc_join {p : Program} {l : Launch} {e : Env} {s : State} {m : MethodId} {args : Array Value} {below : List Frame} {meth : Method} {c : Code} {b L K n : Nat} {xs : Nat → Int32} {D : va_G} {q : Nat → ClassId} {q5 : ow_Q5} {vl u w sa : Nat → Nat} {zc zm : ow_MS} {S1 : ow_LwS} {Ts : List Cond} {Q : State → Prop} {H : Heap} {locs : List Loc} {ls : Array Slot} {cells slots : Nat} (hx : p.tables.exec = Jvm.exec) (hb : c.code = cL_law) (hml : c.maxLocals = 8) (hown : s.vm.findClass RL = some m.cls) (hts : ∀ w ∈ Ts, w.before args s = true) (hX : va_X b L xs s s.heap) (hbl : b < s.heap.size) (hZ : ∀ w ∈ wZ, w ∈ Ts) (hL1 : ∀ w ∈ wLL, w ∈ Ts) (hC1 : ∀ w ∈ wC, w ∈ Ts) (hM1 : ∀ w ∈ wM, w ∈ Ts) (hG : lx_G l s D q q5 sa) (hLn : L ≤ 3072) (hn : 6 * n + 6 ≤ L) (hq : ltp_join vl K (xs (6 * n + 1)) (xs (6 * n + 2)) (xs (6 * n + 3)) (xs (6 * n + 4)) (xs (6 * n + 5)) zc zm = some S1) (hM : lx_M D q q5 s vl u w zc zm H locs) (hl : lv_has ls 8 [(0, .ref b), (1, .ref (u 0)), (2, .ref (w 0)), (3, .ref (u 52001)), (4, .int (nI (6 * n)))]) (hc : cells + 5 ≤ 601024) (hs : slots + 30 ≤ 7293033) (kk : ∀ (zc1 zm1 : ow_MS) (H1 : Heap) (locs1 : List Loc) (ls1 : Array Slot), lx_M D q q5 s vl u w zc1 zm1 H1 locs1 → lv_has ls1 8 [(0, .ref b), (1, .ref (u 0)), (2, .ref (w 0)), (3, .ref (u 52001)), (4, .int (nI (6 * n)))] → some (vl, zc1, zm1) = some S1 → W p l e room_1 s m args below meth c H1 locs1 (cells + 5) (slots + 30) Q (F0 m 1710 ls1 [])) : W p l e room_1 s m args below meth c H locs cells slots Q (F0 m 804 ls []) := by
  have hbA : ¬ lx_A s b := Nat.not_le.mpr hbl
  generalize e1 : xs (6 * n + 1) = x1 at hq
  generalize e2 : xs (6 * n + 2) = x2 at hq
  generalize e3 : xs (6 * n + 3) = x3 at hq
  generalize e4 : xs (6 * n + 4) = x4 at hq
  generalize e5 : xs (6 * n + 5) = x5 at hq
  unfold ltp_join at hq
  refine lv_aload_n hx hb dz_804 rfl (lv_at hl 1 rfl) ?_
  refine lv_aload_n hx hb dz_805 rfl (lv_at hl 0 rfl) ?_
  refine lv_iload hx hb dz_806 (lv_at hl 4 rfl) ?_
  refine lv_iconst (v := 1) hx hb dz_808 (by decide) ?_
  refine lv_iadd hx hb dz_809 ?_
  refine ow_topi (y := nI (6 * n + 1)) (nI_add (6 * n) 1) ?_
  refine va_sld hx hb hX hbl hbA hM.2.2.2.2.2 (vp_in_nI (n := 6 * n + 1) (N := L) (by omega) (by omega)) dz_810 ?_
  refine ow_topi (y := x1) ((congrArg xs (nI_clamp (by omega))).trans e1) ?_
  refine lv_aload_n hx hb dz_811 rfl (lv_at hl 0 rfl) ?_
  refine lv_iload hx hb dz_812 (lv_at hl 4 rfl) ?_
  refine lv_iconst (v := 2) hx hb dz_814 (by decide) ?_
  refine lv_iadd hx hb dz_815 ?_
  refine ow_topi (y := nI (6 * n + 2)) (nI_add (6 * n) 2) ?_
  refine va_sld hx hb hX hbl hbA hM.2.2.2.2.2 (vp_in_nI (n := 6 * n + 2) (N := L) (by omega) (by omega)) dz_816 ?_
  refine ow_topi (y := x2) ((congrArg xs (nI_clamp (by omega))).trans e2) ?_
  refine lv_aload_n hx hb dz_817 rfl (lv_at hl 0 rfl) ?_
  refine lv_iload hx hb dz_818 (lv_at hl 4 rfl) ?_
  refine lv_iconst (v := 3) hx hb dz_820 (by decide) ?_
  refine lv_iadd hx hb dz_821 ?_
  refine ow_topi (y := nI (6 * n + 3)) (nI_add (6 * n) 3) ?_
  refine va_sld hx hb hX hbl hbA hM.2.2.2.2.2 (vp_in_nI (n := 6 * n + 3) (N := L) (by omega) (by omega)) dz_822 ?_
  refine ow_topi (y := x3) ((congrArg xs (nI_clamp (by omega))).trans e3) ?_
  refine lv_aload_n hx hb dz_823 rfl (lv_at hl 0 rfl) ?_
  refine lv_iload hx hb dz_824 (lv_at hl 4 rfl) ?_
  refine lv_iconst (v := 4) hx hb dz_826 (by decide) ?_
  refine lv_iadd hx hb dz_827 ?_
  refine ow_topi (y := nI (6 * n + 4)) (nI_add (6 * n) 4) ?_
  refine va_sld hx hb hX hbl hbA hM.2.2.2.2.2 (vp_in_nI (n := 6 * n + 4) (N := L) (by omega) (by omega)) dz_828 ?_
  refine ow_topi (y := x4) ((congrArg xs (nI_clamp (by omega))).trans e4) ?_
  refine lv_aload_n hx hb dz_829 rfl (lv_at hl 3 rfl) ?_
  obtain ⟨v2, zc1, hcq, hq⟩ := tw_cl1 hq
  refine lx_wrap hM (vx_runSX (As := [.ref (u 0), .int x1, .int x2, .int x3, .int x4, .ref (u 52001)]) (rest := []) ⟨hx, hb, hml, hown, hts⟩ (kl_L_join l D q vl u hM.2.2.1.1 hG.1 sa K 0 x1 x2 x3 x4 (by unfold cw_X11 ci_X11; exact List.mem_singleton.mpr rfl) zc zc1 v2 hcq) (vx_cwSW 6 hts (lx_gS (lx_all wLL_good rfl) (lx_mem hL1 (hZ _ zq_115)) (hZ _ zq_116) (hZ _ zq_117) (hZ _ zq_3) rfl rfl rfl) rfl rfl rfl (by decide +kernel) ⟨(Nat.le_of_ble_eq_true rfl), (Nat.le_of_ble_eq_true rfl)⟩) (lx_preL hG hM) rfl rfl hl.1 rfl (lv_room (Nat.le_of_ble_eq_true rfl)) dz_830 ⟨(by show _ ≤ 601024; omega), (by show _ ≤ 7293033; omega)⟩) (fun H locs hM => ?_)
  refine lv_istore (lv' := [(5, .int v2), (0, .ref b), (1, .ref (u 0)), (2, .ref (w 0)), (3, .ref (u 52001)), (4, .int (nI (6 * n)))]) hx hb dz_833 hl (by decide) rfl (fun ls hl => ?_)
  refine lv_aload_n hx hb dz_835 rfl (lv_at hl 3 rfl) ?_
  refine lv_aload_n hx hb dz_836 rfl (lv_at hl 1 rfl) ?_
  refine lv_iload hx hb dz_837 (lv_at hl 5 rfl) ?_
  refine lv_iconst (v := 1) hx hb dz_839 (by decide) ?_
  refine lv_iadd hx hb dz_840 ?_
  refine ow_topi (y := nI (6 * n + 1)) (nI_add (6 * n) 1) ?_
  refine va_sld hx hb hX hbl hbA hM.2.2.2.2.2 (vp_in_nI (n := 6 * n + 1) (N := L) (by omega) (by omega)) dz_841 ?_
  refine ow_topi (y := x1) ((congrArg xs (nI_clamp (by omega))).trans e1) ?_
  refine lv_aload_n hx hb dz_842 rfl (lv_at hl 1 rfl) ?_
  refine lv_iload hx hb dz_843 (lv_at hl 5 rfl) ?_
  refine lv_iconst (v := 2) hx hb dz_845 (by decide) ?_
  refine lv_iadd hx hb dz_846 ?_
  refine ow_topi (y := nI (6 * n + 2)) (nI_add (6 * n) 2) ?_
  refine va_sld hx hb hX hbl hbA hM.2.2.2.2.2 (vp_in_nI (n := 6 * n + 2) (N := L) (by omega) (by omega)) dz_847 ?_
  refine ow_topi (y := x2) ((congrArg xs (nI_clamp (by omega))).trans e2) ?_
  refine lv_aload_n hx hb dz_848 rfl (lv_at hl 1 rfl) ?_
  refine lv_iload hx hb dz_849 (lv_at hl 5 rfl) ?_
  refine lv_iconst (v := 3) hx hb dz_851 (by decide) ?_
  refine lv_iadd hx hb dz_852 ?_
  refine ow_topi (y := nI (6 * n + 3)) (nI_add (6 * n) 3) ?_
  refine va_sld hx hb hX hbl hbA hM.2.2.2.2.2 (vp_in_nI (n := 6 * n + 3) (N := L) (by omega) (by omega)) dz_853 ?_
  refine ow_topi (y := x3) ((congrArg xs (nI_clamp (by omega))).trans e3) ?_
  refine lv_aload_n hx hb dz_854 rfl (lv_at hl 1 rfl) ?_
  refine lv_iload hx hb dz_855 (lv_at hl 5 rfl) ?_
  refine lv_iconst (v := 4) hx hb dz_857 (by decide) ?_
  refine lv_iadd hx hb dz_858 ?_
  refine ow_topi (y := nI (6 * n + 4)) (nI_add (6 * n) 4) ?_
  refine va_sld hx hb hX hbl hbA hM.2.2.2.2.2 (vp_in_nI (n := 6 * n + 4) (N := L) (by omega) (by omega)) dz_859 ?_
  refine ow_topi (y := x4) ((congrArg xs (nI_clamp (by omega))).trans e4) ?_
  obtain ⟨v4, zm3, hcq, hq⟩ := tw_cl1 hq
  refine lx_refi hM (va_runV (As := [.int x1, .int x2, .int x3, .int x4]) (rest := []) ⟨hx, hb, hml, hown, hts⟩ (km_X13_join l D q5 w hM.2.2.2.1.1 K x1 x2 x3 x4 zm zm3 v4 hcq) (cwV 4 hts (lx_gV (lx_all wM_good rfl) (lx_mem hM1 (hZ _ zq_118)) (hZ _ zq_119) (hZ _ zq_120) (hZ _ zq_121) (hZ _ zq_8) rfl rfl rfl rfl) rfl rfl rfl cd_X13_join ⟨(Nat.le_of_ble_eq_true rfl), (Nat.le_of_ble_eq_true rfl)⟩) (lx_preM hG hM) rfl rfl hl.1 rfl (lv_room (Nat.le_of_ble_eq_true rfl)) dz_860 ⟨(by show _ ≤ 601024; omega), (by show _ ≤ 7293033; omega)⟩) (fun H locs hM => ?_)
  refine lv_istore (lv' := [(6, .int v4), (5, .int v2), (0, .ref b), (1, .ref (u 0)), (2, .ref (w 0)), (3, .ref (u 52001)), (4, .int (nI (6 * n)))]) hx hb dz_863 hl (by decide) rfl (fun ls hl => ?_)
  refine lv_goto (tgt := 1710) hx hb dz_865 (by decide) ?_
  exact kk _ _ H locs ls hM (lv_sub hl [2, 3, 4, 5, 6] rfl) hq
theorem dz_868 : decode cL_law 868 = .ok (.aload_n 1, 1) := dw_at dwl_7 (p := 28) rfl (by decide +kernel)
theorem dz_869 : decode cL_law 869 = .ok (.aload_n 0, 1) := dw_at dwl_7 (p := 29) rfl (by decide +kernel)
theorem dz_870 : decode cL_law 870 = .ok (.iload 4, 2) := dw_at dwl_7 (p := 30) rfl (by decide +kernel)
theorem dz_872 : decode cL_law 872 = .ok (.iconst 1, 1) := dw_at dwl_7 (p := 32) rfl (by decide +kernel)
theorem dz_873 : decode cL_law 873 = .ok (.iadd, 1) := dw_at dwl_7 (p := 33) rfl (by decide +kernel)
theorem dz_874 : decode cL_law 874 = .ok (.iaload, 1) := dw_at dwl_7 (p := 34) rfl (by decide +kernel)
theorem dz_875 : decode cL_law 875 = .ok (.aload_n 0, 1) := dw_at dwl_7 (p := 35) rfl (by decide +kernel)
theorem dz_876 : decode cL_law 876 = .ok (.iload 4, 2) := dw_at dwl_7 (p := 36) rfl (by decide +kernel)
theorem dz_878 : decode cL_law 878 = .ok (.iconst 2, 1) := dw_at dwl_7 (p := 38) rfl (by decide +kernel)
theorem dz_879 : decode cL_law 879 = .ok (.iadd, 1) := dw_at dwl_7 (p := 39) rfl (by decide +kernel)
theorem dz_880 : decode cL_law 880 = .ok (.iaload, 1) := dw_at dwl_7 (p := 40) rfl (by decide +kernel)
theorem dz_881 : decode cL_law 881 = .ok (.aload_n 3, 1) := dw_at dwl_7 (p := 41) rfl (by decide +kernel)
theorem dz_882 : decode cL_law 882 = .ok (.invokestatic 196, 3) := dw_at dwl_7 (p := 42) rfl (by decide +kernel)
theorem dz_885 : decode cL_law 885 = .ok (.istore 5, 2) := dw_at dwl_7 (p := 45) rfl (by decide +kernel)
theorem dz_887 : decode cL_law 887 = .ok (.aload_n 2, 1) := dw_at dwl_7 (p := 47) rfl (by decide +kernel)
theorem dz_888 : decode cL_law 888 = .ok (.aload_n 0, 1) := dw_at dwl_7 (p := 48) rfl (by decide +kernel)
theorem dz_889 : decode cL_law 889 = .ok (.iload 4, 2) := dw_at dwl_7 (p := 49) rfl (by decide +kernel)
theorem dz_891 : decode cL_law 891 = .ok (.iconst 1, 1) := dw_at dwl_7 (p := 51) rfl (by decide +kernel)
theorem dz_892 : decode cL_law 892 = .ok (.iadd, 1) := dw_at dwl_7 (p := 52) rfl (by decide +kernel)
theorem dz_893 : decode cL_law 893 = .ok (.iaload, 1) := dw_at dwl_7 (p := 53) rfl (by decide +kernel)
theorem dz_894 : decode cL_law 894 = .ok (.aload_n 0, 1) := dw_at dwl_7 (p := 54) rfl (by decide +kernel)
theorem dz_895 : decode cL_law 895 = .ok (.iload 4, 2) := dw_at dwl_7 (p := 55) rfl (by decide +kernel)
theorem dz_897 : decode cL_law 897 = .ok (.iconst 2, 1) := dw_at dwl_7 (p := 57) rfl (by decide +kernel)
theorem dz_898 : decode cL_law 898 = .ok (.iadd, 1) := dw_at dwl_7 (p := 58) rfl (by decide +kernel)
theorem dz_899 : decode cL_law 899 = .ok (.iaload, 1) := dw_at dwl_7 (p := 59) rfl (by decide +kernel)
theorem dz_900 : decode cL_law 900 = .ok (.invokevirtual 198, 3) := dw_at dwl_7 (p := 60) rfl (by decide +kernel)
theorem dz_903 : decode cL_law 903 = .ok (.istore 6, 2) := dw_at dwl_7 (p := 63) rfl (by decide +kernel)
theorem dz_905 : decode cL_law 905 = .ok (.goto 805, 3) := dw_at dwl_7 (p := 65) rfl (by decide +kernel)
def ltp_moves (vl : Nat → Nat) (K : Nat) (x1 : Int32) (x2 : Int32) (x3 : Int32) (x4 : Int32) (x5 : Int32) (zc zm : ow_MS) : Option ow_LwS :=
 cs1 (le_L_moves vl K 0 x1 x2 zc) fun v2 zc1 => cs1 (qe_X13_moves K x1 x2 zm) fun v4 zm3 => some (vl, zc1, zm3)
set_option maxHeartbeats 4000000 in
set_option maxRecDepth 100000 in
theorem lxc_moves {p : Program} {l : Launch} {e : Env} {s : State} {m : MethodId} {args : Array Value} {below : List Frame} {meth : Method} {c : Code} {b L K n : Nat} {xs : Nat → Int32} {D : va_G} {q : Nat → ClassId} {q5 : ow_Q5} {vl u w sa : Nat → Nat} {zc zm : ow_MS} {S1 : ow_LwS} {Ts : List Cond} {Q : State → Prop} {H : Heap} {locs : List Loc} {ls : Array Slot} {cells slots : Nat} (hx : p.tables.exec = Jvm.exec) (hb : c.code = cL_law) (hml : c.maxLocals = 8) (hown : s.vm.findClass RL = some m.cls) (hts : ∀ w ∈ Ts, w.before args s = true) (hX : va_X b L xs s s.heap) (hbl : b < s.heap.size) (hZ : ∀ w ∈ wZ, w ∈ Ts) (hL1 : ∀ w ∈ wLL, w ∈ Ts) (hC1 : ∀ w ∈ wC, w ∈ Ts) (hM1 : ∀ w ∈ wM, w ∈ Ts) (hG : lx_G l s D q q5 sa) (hLn : L ≤ 3072) (hn : 6 * n + 6 ≤ L) (hq : ltp_moves vl K (xs (6 * n + 1)) (xs (6 * n + 2)) (xs (6 * n + 3)) (xs (6 * n + 4)) (xs (6 * n + 5)) zc zm = some S1) (hM : lx_M D q q5 s vl u w zc zm H locs) (hl : lv_has ls 8 [(0, .ref b), (1, .ref (u 0)), (2, .ref (w 0)), (3, .ref (u 52001)), (4, .int (nI (6 * n)))]) (hc : cells + 2 ≤ 601024) (hs : slots + 12 ≤ 7293033) (kk : ∀ (zc1 zm1 : ow_MS) (H1 : Heap) (locs1 : List Loc) (ls1 : Array Slot), lx_M D q q5 s vl u w zc1 zm1 H1 locs1 → lv_has ls1 8 [(0, .ref b), (1, .ref (u 0)), (2, .ref (w 0)), (3, .ref (u 52001)), (4, .int (nI (6 * n)))] → some (vl, zc1, zm1) = some S1 → W p l e room_1 s m args below meth c H1 locs1 (cells + 2) (slots + 12) Q (F0 m 1710 ls1 [])) : W p l e room_1 s m args below meth c H locs cells slots Q (F0 m 868 ls []) := by
  have hbA : ¬ lx_A s b := Nat.not_le.mpr hbl
  generalize e1 : xs (6 * n + 1) = x1 at hq
  generalize e2 : xs (6 * n + 2) = x2 at hq
  generalize e3 : xs (6 * n + 3) = x3 at hq
  generalize e4 : xs (6 * n + 4) = x4 at hq
  generalize e5 : xs (6 * n + 5) = x5 at hq
  unfold ltp_moves at hq
  refine lv_aload_n hx hb dz_868 rfl (lv_at hl 1 rfl) ?_
  refine lv_aload_n hx hb dz_869 rfl (lv_at hl 0 rfl) ?_
  refine lv_iload hx hb dz_870 (lv_at hl 4 rfl) ?_
  refine lv_iconst (v := 1) hx hb dz_872 (by decide) ?_
  refine lv_iadd hx hb dz_873 ?_
  refine ow_topi (y := nI (6 * n + 1)) (nI_add (6 * n) 1) ?_
  refine va_sld hx hb hX hbl hbA hM.2.2.2.2.2 (vp_in_nI (n := 6 * n + 1) (N := L) (by omega) (by omega)) dz_874 ?_
  refine ow_topi (y := x1) ((congrArg xs (nI_clamp (by omega))).trans e1) ?_
  refine lv_aload_n hx hb dz_875 rfl (lv_at hl 0 rfl) ?_
  refine lv_iload hx hb dz_876 (lv_at hl 4 rfl) ?_
  refine lv_iconst (v := 2) hx hb dz_878 (by decide) ?_
  refine lv_iadd hx hb dz_879 ?_
  refine ow_topi (y := nI (6 * n + 2)) (nI_add (6 * n) 2) ?_
  refine va_sld hx hb hX hbl hbA hM.2.2.2.2.2 (vp_in_nI (n := 6 * n + 2) (N := L) (by omega) (by omega)) dz_880 ?_
  refine ow_topi (y := x2) ((congrArg xs (nI_clamp (by omega))).trans e2) ?_
  refine lv_aload_n hx hb dz_881 rfl (lv_at hl 3 rfl) ?_
  obtain ⟨v2, zc1, hcq, hq⟩ := tw_cl1 hq
  refine lx_wrap hM (vx_runSX (As := [.ref (u 0), .int x1, .int x2, .ref (u 52001)]) (rest := []) ⟨hx, hb, hml, hown, hts⟩ (kl_L_moves l D q vl u hM.2.2.1.1 hG.1 sa K 0 x1 x2 (by unfold cw_X11 ci_X11; exact List.mem_singleton.mpr rfl) zc zc1 v2 hcq) (vx_cwSW 4 hts (lx_gS (lx_all wLL_good rfl) (lx_mem hL1 (hZ _ zq_122)) (hZ _ zq_123) (hZ _ zq_124) (hZ _ zq_3) rfl rfl rfl) rfl rfl rfl (by decide +kernel) ⟨(Nat.le_of_ble_eq_true rfl), (Nat.le_of_ble_eq_true rfl)⟩) (lx_preL hG hM) rfl rfl hl.1 rfl (lv_room (Nat.le_of_ble_eq_true rfl)) dz_882 ⟨(by show _ ≤ 601024; omega), (by show _ ≤ 7293033; omega)⟩) (fun H locs hM => ?_)
  refine lv_istore (lv' := [(5, .int v2), (0, .ref b), (1, .ref (u 0)), (2, .ref (w 0)), (3, .ref (u 52001)), (4, .int (nI (6 * n)))]) hx hb dz_885 hl (by decide) rfl (fun ls hl => ?_)
  refine lv_aload_n hx hb dz_887 rfl (lv_at hl 3 rfl) ?_
  refine lv_aload_n hx hb dz_888 rfl (lv_at hl 1 rfl) ?_
  refine lv_iload hx hb dz_889 (lv_at hl 5 rfl) ?_
  refine lv_iconst (v := 1) hx hb dz_891 (by decide) ?_
  refine lv_iadd hx hb dz_892 ?_
  refine ow_topi (y := nI (6 * n + 1)) (nI_add (6 * n) 1) ?_
  refine va_sld hx hb hX hbl hbA hM.2.2.2.2.2 (vp_in_nI (n := 6 * n + 1) (N := L) (by omega) (by omega)) dz_893 ?_
  refine ow_topi (y := x1) ((congrArg xs (nI_clamp (by omega))).trans e1) ?_
  refine lv_aload_n hx hb dz_894 rfl (lv_at hl 1 rfl) ?_
  refine lv_iload hx hb dz_895 (lv_at hl 5 rfl) ?_
  refine lv_iconst (v := 2) hx hb dz_897 (by decide) ?_
  refine lv_iadd hx hb dz_898 ?_
  refine ow_topi (y := nI (6 * n + 2)) (nI_add (6 * n) 2) ?_
  refine va_sld hx hb hX hbl hbA hM.2.2.2.2.2 (vp_in_nI (n := 6 * n + 2) (N := L) (by omega) (by omega)) dz_899 ?_
  refine ow_topi (y := x2) ((congrArg xs (nI_clamp (by omega))).trans e2) ?_
  obtain ⟨v4, zm3, hcq, hq⟩ := tw_cl1 hq
  refine lx_refi hM (va_runV (As := [.int x1, .int x2]) (rest := []) ⟨hx, hb, hml, hown, hts⟩ (km_X13_moves l D q5 w hM.2.2.2.1.1 K x1 x2 zm zm3 v4 hcq) (cwV 2 hts (lx_gV (lx_all wM_good rfl) (lx_mem hM1 (hZ _ zq_125)) (hZ _ zq_126) (hZ _ zq_127) (hZ _ zq_128) (hZ _ zq_8) rfl rfl rfl rfl) rfl rfl rfl cd_X13_moves ⟨(Nat.le_of_ble_eq_true rfl), (Nat.le_of_ble_eq_true rfl)⟩) (lx_preM hG hM) rfl rfl hl.1 rfl (lv_room (Nat.le_of_ble_eq_true rfl)) dz_900 ⟨(by show _ ≤ 601024; omega), (by show _ ≤ 7293033; omega)⟩) (fun H locs hM => ?_)
  refine lv_istore (lv' := [(6, .int v4), (5, .int v2), (0, .ref b), (1, .ref (u 0)), (2, .ref (w 0)), (3, .ref (u 52001)), (4, .int (nI (6 * n)))]) hx hb dz_903 hl (by decide) rfl (fun ls hl => ?_)
  refine lv_goto (tgt := 1710) hx hb dz_905 (by decide) ?_
  exact kk _ _ H locs ls hM (lv_sub hl [2, 3, 4, 5, 6] rfl) hq
theorem dz_908 : decode cL_law 908 = .ok (.aload_n 1, 1) := dw_at dwl_7 (p := 68) rfl (by decide +kernel)
theorem dz_909 : decode cL_law 909 = .ok (.aload_n 0, 1) := dw_at dwl_7 (p := 69) rfl (by decide +kernel)
theorem dz_910 : decode cL_law 910 = .ok (.iload 4, 2) := dw_at dwl_7 (p := 70) rfl (by decide +kernel)
theorem dz_912 : decode cL_law 912 = .ok (.iconst 1, 1) := dw_at dwl_7 (p := 72) rfl (by decide +kernel)
theorem dz_913 : decode cL_law 913 = .ok (.iadd, 1) := dw_at dwl_7 (p := 73) rfl (by decide +kernel)
theorem dz_914 : decode cL_law 914 = .ok (.iaload, 1) := dw_at dwl_7 (p := 74) rfl (by decide +kernel)
theorem dz_915 : decode cL_law 915 = .ok (.aload_n 3, 1) := dw_at dwl_7 (p := 75) rfl (by decide +kernel)
theorem dz_916 : decode cL_law 916 = .ok (.invokestatic 199, 3) := dw_at dwl_7 (p := 76) rfl (by decide +kernel)
theorem dz_919 : decode cL_law 919 = .ok (.istore 5, 2) := dw_at dwl_7 (p := 79) rfl (by decide +kernel)
theorem dz_921 : decode cL_law 921 = .ok (.aload_n 2, 1) := dw_at dwl_7 (p := 81) rfl (by decide +kernel)
theorem dz_922 : decode cL_law 922 = .ok (.aload_n 0, 1) := dw_at dwl_7 (p := 82) rfl (by decide +kernel)
theorem dz_923 : decode cL_law 923 = .ok (.iload 4, 2) := dw_at dwl_7 (p := 83) rfl (by decide +kernel)
theorem dz_925 : decode cL_law 925 = .ok (.iconst 1, 1) := dw_at dwl_7 (p := 85) rfl (by decide +kernel)
theorem dz_926 : decode cL_law 926 = .ok (.iadd, 1) := dw_at dwl_7 (p := 86) rfl (by decide +kernel)
theorem dz_927 : decode cL_law 927 = .ok (.iaload, 1) := dw_at dwl_7 (p := 87) rfl (by decide +kernel)
theorem dz_928 : decode cL_law 928 = .ok (.invokevirtual 201, 3) := dw_at dwl_7 (p := 88) rfl (by decide +kernel)
theorem dz_931 : decode cL_law 931 = .ok (.istore 6, 2) := dw_at dwl_7 (p := 91) rfl (by decide +kernel)
theorem dz_933 : decode cL_law 933 = .ok (.goto 777, 3) := dw_at dwl_7 (p := 93) rfl (by decide +kernel)
def ltp_moved (vl : Nat → Nat) (K : Nat) (x1 : Int32) (x2 : Int32) (x3 : Int32) (x4 : Int32) (x5 : Int32) (zc zm : ow_MS) : Option ow_LwS :=
 cs1 (le_L_moved vl K 0 x1 zc) fun v2 zc1 => cs1 (qe_X13_moved K x1 zm) fun v4 zm3 => some (vl, zc1, zm3)
set_option maxHeartbeats 4000000 in
set_option maxRecDepth 100000 in
theorem lxc_moved {p : Program} {l : Launch} {e : Env} {s : State} {m : MethodId} {args : Array Value} {below : List Frame} {meth : Method} {c : Code} {b L K n : Nat} {xs : Nat → Int32} {D : va_G} {q : Nat → ClassId} {q5 : ow_Q5} {vl u w sa : Nat → Nat} {zc zm : ow_MS} {S1 : ow_LwS} {Ts : List Cond} {Q : State → Prop} {H : Heap} {locs : List Loc} {ls : Array Slot} {cells slots : Nat} (hx : p.tables.exec = Jvm.exec) (hb : c.code = cL_law) (hml : c.maxLocals = 8) (hown : s.vm.findClass RL = some m.cls) (hts : ∀ w ∈ Ts, w.before args s = true) (hX : va_X b L xs s s.heap) (hbl : b < s.heap.size) (hZ : ∀ w ∈ wZ, w ∈ Ts) (hL1 : ∀ w ∈ wLL, w ∈ Ts) (hC1 : ∀ w ∈ wC, w ∈ Ts) (hM1 : ∀ w ∈ wM, w ∈ Ts) (hG : lx_G l s D q q5 sa) (hLn : L ≤ 3072) (hn : 6 * n + 6 ≤ L) (hq : ltp_moved vl K (xs (6 * n + 1)) (xs (6 * n + 2)) (xs (6 * n + 3)) (xs (6 * n + 4)) (xs (6 * n + 5)) zc zm = some S1) (hM : lx_M D q q5 s vl u w zc zm H locs) (hl : lv_has ls 8 [(0, .ref b), (1, .ref (u 0)), (2, .ref (w 0)), (3, .ref (u 52001)), (4, .int (nI (6 * n)))]) (hc : cells + 2 ≤ 601024) (hs : slots + 12 ≤ 7293033) (kk : ∀ (zc1 zm1 : ow_MS) (H1 : Heap) (locs1 : List Loc) (ls1 : Array Slot), lx_M D q q5 s vl u w zc1 zm1 H1 locs1 → lv_has ls1 8 [(0, .ref b), (1, .ref (u 0)), (2, .ref (w 0)), (3, .ref (u 52001)), (4, .int (nI (6 * n)))] → some (vl, zc1, zm1) = some S1 → W p l e room_1 s m args below meth c H1 locs1 (cells + 2) (slots + 12) Q (F0 m 1710 ls1 [])) : W p l e room_1 s m args below meth c H locs cells slots Q (F0 m 908 ls []) := by
  have hbA : ¬ lx_A s b := Nat.not_le.mpr hbl
  generalize e1 : xs (6 * n + 1) = x1 at hq
  generalize e2 : xs (6 * n + 2) = x2 at hq
  generalize e3 : xs (6 * n + 3) = x3 at hq
  generalize e4 : xs (6 * n + 4) = x4 at hq
  generalize e5 : xs (6 * n + 5) = x5 at hq
  unfold ltp_moved at hq
  refine lv_aload_n hx hb dz_908 rfl (lv_at hl 1 rfl) ?_
  refine lv_aload_n hx hb dz_909 rfl (lv_at hl 0 rfl) ?_
  refine lv_iload hx hb dz_910 (lv_at hl 4 rfl) ?_
  refine lv_iconst (v := 1) hx hb dz_912 (by decide) ?_
  refine lv_iadd hx hb dz_913 ?_
  refine ow_topi (y := nI (6 * n + 1)) (nI_add (6 * n) 1) ?_
  refine va_sld hx hb hX hbl hbA hM.2.2.2.2.2 (vp_in_nI (n := 6 * n + 1) (N := L) (by omega) (by omega)) dz_914 ?_
  refine ow_topi (y := x1) ((congrArg xs (nI_clamp (by omega))).trans e1) ?_
  refine lv_aload_n hx hb dz_915 rfl (lv_at hl 3 rfl) ?_
  obtain ⟨v2, zc1, hcq, hq⟩ := tw_cl1 hq
  refine lx_wrap hM (vx_runSX (As := [.ref (u 0), .int x1, .ref (u 52001)]) (rest := []) ⟨hx, hb, hml, hown, hts⟩ (kl_L_moved l D q vl u hM.2.2.1.1 hG.1 sa K 0 x1 (by unfold cw_X11 ci_X11; exact List.mem_singleton.mpr rfl) zc zc1 v2 hcq) (vx_cwSW 3 hts (lx_gS (lx_all wLL_good rfl) (lx_mem hL1 (hZ _ zq_129)) (hZ _ zq_130) (hZ _ zq_131) (hZ _ zq_3) rfl rfl rfl) rfl rfl rfl (by decide +kernel) ⟨(Nat.le_of_ble_eq_true rfl), (Nat.le_of_ble_eq_true rfl)⟩) (lx_preL hG hM) rfl rfl hl.1 rfl (lv_room (Nat.le_of_ble_eq_true rfl)) dz_916 ⟨(by show _ ≤ 601024; omega), (by show _ ≤ 7293033; omega)⟩) (fun H locs hM => ?_)
  refine lv_istore (lv' := [(5, .int v2), (0, .ref b), (1, .ref (u 0)), (2, .ref (w 0)), (3, .ref (u 52001)), (4, .int (nI (6 * n)))]) hx hb dz_919 hl (by decide) rfl (fun ls hl => ?_)
  refine lv_aload_n hx hb dz_921 rfl (lv_at hl 3 rfl) ?_
  refine lv_aload_n hx hb dz_922 rfl (lv_at hl 1 rfl) ?_
  refine lv_iload hx hb dz_923 (lv_at hl 5 rfl) ?_
  refine lv_iconst (v := 1) hx hb dz_925 (by decide) ?_
  refine lv_iadd hx hb dz_926 ?_
  refine ow_topi (y := nI (6 * n + 1)) (nI_add (6 * n) 1) ?_
  refine va_sld hx hb hX hbl hbA hM.2.2.2.2.2 (vp_in_nI (n := 6 * n + 1) (N := L) (by omega) (by omega)) dz_927 ?_
  refine ow_topi (y := x1) ((congrArg xs (nI_clamp (by omega))).trans e1) ?_
  obtain ⟨v4, zm3, hcq, hq⟩ := tw_cl1 hq
  refine lx_refi hM (va_runV (As := [.int x1]) (rest := []) ⟨hx, hb, hml, hown, hts⟩ (km_X13_moved l D q5 w hM.2.2.2.1.1 K x1 zm zm3 v4 hcq) (cwV 1 hts (lx_gV (lx_all wM_good rfl) (lx_mem hM1 (hZ _ zq_132)) (hZ _ zq_133) (hZ _ zq_134) (hZ _ zq_135) (hZ _ zq_8) rfl rfl rfl rfl) rfl rfl rfl cd_X13_moved ⟨(Nat.le_of_ble_eq_true rfl), (Nat.le_of_ble_eq_true rfl)⟩) (lx_preM hG hM) rfl rfl hl.1 rfl (lv_room (Nat.le_of_ble_eq_true rfl)) dz_928 ⟨(by show _ ≤ 601024; omega), (by show _ ≤ 7293033; omega)⟩) (fun H locs hM => ?_)
  refine lv_istore (lv' := [(6, .int v4), (5, .int v2), (0, .ref b), (1, .ref (u 0)), (2, .ref (w 0)), (3, .ref (u 52001)), (4, .int (nI (6 * n)))]) hx hb dz_931 hl (by decide) rfl (fun ls hl => ?_)
  refine lv_goto (tgt := 1710) hx hb dz_933 (by decide) ?_
  exact kk _ _ H locs ls hM (lv_sub hl [2, 3, 4, 5, 6] rfl) hq
theorem dz_936 : decode cL_law 936 = .ok (.aload_n 1, 1) := dw_at dwl_7 (p := 96) rfl (by decide +kernel)
theorem dz_937 : decode cL_law 937 = .ok (.aload_n 0, 1) := dw_at dwl_7 (p := 97) rfl (by decide +kernel)
theorem dz_938 : decode cL_law 938 = .ok (.iload 4, 2) := dw_at dwl_7 (p := 98) rfl (by decide +kernel)
theorem dz_940 : decode cL_law 940 = .ok (.iconst 1, 1) := dw_at dwl_7 (p := 100) rfl (by decide +kernel)
theorem dz_941 : decode cL_law 941 = .ok (.iadd, 1) := dw_at dwl_7 (p := 101) rfl (by decide +kernel)
theorem dz_942 : decode cL_law 942 = .ok (.iaload, 1) := dw_at dwl_7 (p := 102) rfl (by decide +kernel)
theorem dz_943 : decode cL_law 943 = .ok (.aload_n 3, 1) := dw_at dwl_7 (p := 103) rfl (by decide +kernel)
theorem dz_944 : decode cL_law 944 = .ok (.invokestatic 202, 3) := dw_at dwl_7 (p := 104) rfl (by decide +kernel)
theorem dz_947 : decode cL_law 947 = .ok (.istore 5, 2) := dw_at dwl_7 (p := 107) rfl (by decide +kernel)
theorem dz_949 : decode cL_law 949 = .ok (.aload_n 2, 1) := dw_at dwl_7 (p := 109) rfl (by decide +kernel)
theorem dz_950 : decode cL_law 950 = .ok (.aload_n 0, 1) := dw_at dwl_7 (p := 110) rfl (by decide +kernel)
theorem dz_951 : decode cL_law 951 = .ok (.iload 4, 2) := dw_at dwl_7 (p := 111) rfl (by decide +kernel)
theorem dz_953 : decode cL_law 953 = .ok (.iconst 1, 1) := dw_at dwl_7 (p := 113) rfl (by decide +kernel)
theorem dz_954 : decode cL_law 954 = .ok (.iadd, 1) := dw_at dwl_7 (p := 114) rfl (by decide +kernel)
theorem dz_955 : decode cL_law 955 = .ok (.iaload, 1) := dw_at dwl_7 (p := 115) rfl (by decide +kernel)
theorem dz_956 : decode cL_law 956 = .ok (.invokevirtual 204, 3) := dw_at dwl_7 (p := 116) rfl (by decide +kernel)
theorem dz_959 : decode cL_law 959 = .ok (.istore 6, 2) := dw_at dwl_7 (p := 119) rfl (by decide +kernel)
theorem dz_961 : decode cL_law 961 = .ok (.goto 749, 3) := dw_at dwl_8 (p := 1) rfl (by decide +kernel)
def ltp_simplify (vl : Nat → Nat) (K : Nat) (x1 : Int32) (x2 : Int32) (x3 : Int32) (x4 : Int32) (x5 : Int32) (zc zm : ow_MS) : Option ow_LwS :=
 cs1 (le_L_simplify vl K 0 x1 zc) fun v2 zc1 => cs1 (qe_X13_simplify K x1 zm) fun v4 zm3 => some (vl, zc1, zm3)
set_option maxHeartbeats 4000000 in
set_option maxRecDepth 100000 in
theorem lxc_simplify {p : Program} {l : Launch} {e : Env} {s : State} {m : MethodId} {args : Array Value} {below : List Frame} {meth : Method} {c : Code} {b L K n : Nat} {xs : Nat → Int32} {D : va_G} {q : Nat → ClassId} {q5 : ow_Q5} {vl u w sa : Nat → Nat} {zc zm : ow_MS} {S1 : ow_LwS} {Ts : List Cond} {Q : State → Prop} {H : Heap} {locs : List Loc} {ls : Array Slot} {cells slots : Nat} (hx : p.tables.exec = Jvm.exec) (hb : c.code = cL_law) (hml : c.maxLocals = 8) (hown : s.vm.findClass RL = some m.cls) (hts : ∀ w ∈ Ts, w.before args s = true) (hX : va_X b L xs s s.heap) (hbl : b < s.heap.size) (hZ : ∀ w ∈ wZ, w ∈ Ts) (hL1 : ∀ w ∈ wLL, w ∈ Ts) (hC1 : ∀ w ∈ wC, w ∈ Ts) (hM1 : ∀ w ∈ wM, w ∈ Ts) (hG : lx_G l s D q q5 sa) (hLn : L ≤ 3072) (hn : 6 * n + 6 ≤ L) (hq : ltp_simplify vl K (xs (6 * n + 1)) (xs (6 * n + 2)) (xs (6 * n + 3)) (xs (6 * n + 4)) (xs (6 * n + 5)) zc zm = some S1) (hM : lx_M D q q5 s vl u w zc zm H locs) (hl : lv_has ls 8 [(0, .ref b), (1, .ref (u 0)), (2, .ref (w 0)), (3, .ref (u 52001)), (4, .int (nI (6 * n)))]) (hc : cells + 2 ≤ 601024) (hs : slots + 12 ≤ 7293033) (kk : ∀ (zc1 zm1 : ow_MS) (H1 : Heap) (locs1 : List Loc) (ls1 : Array Slot), lx_M D q q5 s vl u w zc1 zm1 H1 locs1 → lv_has ls1 8 [(0, .ref b), (1, .ref (u 0)), (2, .ref (w 0)), (3, .ref (u 52001)), (4, .int (nI (6 * n)))] → some (vl, zc1, zm1) = some S1 → W p l e room_1 s m args below meth c H1 locs1 (cells + 2) (slots + 12) Q (F0 m 1710 ls1 [])) : W p l e room_1 s m args below meth c H locs cells slots Q (F0 m 936 ls []) := by
  have hbA : ¬ lx_A s b := Nat.not_le.mpr hbl
  generalize e1 : xs (6 * n + 1) = x1 at hq
  generalize e2 : xs (6 * n + 2) = x2 at hq
  generalize e3 : xs (6 * n + 3) = x3 at hq
  generalize e4 : xs (6 * n + 4) = x4 at hq
  generalize e5 : xs (6 * n + 5) = x5 at hq
  unfold ltp_simplify at hq
  refine lv_aload_n hx hb dz_936 rfl (lv_at hl 1 rfl) ?_
  refine lv_aload_n hx hb dz_937 rfl (lv_at hl 0 rfl) ?_
  refine lv_iload hx hb dz_938 (lv_at hl 4 rfl) ?_
  refine lv_iconst (v := 1) hx hb dz_940 (by decide) ?_
  refine lv_iadd hx hb dz_941 ?_
  refine ow_topi (y := nI (6 * n + 1)) (nI_add (6 * n) 1) ?_
  refine va_sld hx hb hX hbl hbA hM.2.2.2.2.2 (vp_in_nI (n := 6 * n + 1) (N := L) (by omega) (by omega)) dz_942 ?_
  refine ow_topi (y := x1) ((congrArg xs (nI_clamp (by omega))).trans e1) ?_
  refine lv_aload_n hx hb dz_943 rfl (lv_at hl 3 rfl) ?_
  obtain ⟨v2, zc1, hcq, hq⟩ := tw_cl1 hq
  refine lx_wrap hM (vx_runSX (As := [.ref (u 0), .int x1, .ref (u 52001)]) (rest := []) ⟨hx, hb, hml, hown, hts⟩ (kl_L_simplify l D q vl u hM.2.2.1.1 hG.1 sa K 0 x1 (by unfold cw_X11 ci_X11; exact List.mem_singleton.mpr rfl) zc zc1 v2 hcq) (vx_cwSW 3 hts (lx_gS (lx_all wLL_good rfl) (lx_mem hL1 (hZ _ zq_136)) (hZ _ zq_137) (hZ _ zq_138) (hZ _ zq_3) rfl rfl rfl) rfl rfl rfl (by decide +kernel) ⟨(Nat.le_of_ble_eq_true rfl), (Nat.le_of_ble_eq_true rfl)⟩) (lx_preL hG hM) rfl rfl hl.1 rfl (lv_room (Nat.le_of_ble_eq_true rfl)) dz_944 ⟨(by show _ ≤ 601024; omega), (by show _ ≤ 7293033; omega)⟩) (fun H locs hM => ?_)
  refine lv_istore (lv' := [(5, .int v2), (0, .ref b), (1, .ref (u 0)), (2, .ref (w 0)), (3, .ref (u 52001)), (4, .int (nI (6 * n)))]) hx hb dz_947 hl (by decide) rfl (fun ls hl => ?_)
  refine lv_aload_n hx hb dz_949 rfl (lv_at hl 3 rfl) ?_
  refine lv_aload_n hx hb dz_950 rfl (lv_at hl 1 rfl) ?_
  refine lv_iload hx hb dz_951 (lv_at hl 5 rfl) ?_
  refine lv_iconst (v := 1) hx hb dz_953 (by decide) ?_
  refine lv_iadd hx hb dz_954 ?_
  refine ow_topi (y := nI (6 * n + 1)) (nI_add (6 * n) 1) ?_
  refine va_sld hx hb hX hbl hbA hM.2.2.2.2.2 (vp_in_nI (n := 6 * n + 1) (N := L) (by omega) (by omega)) dz_955 ?_
  refine ow_topi (y := x1) ((congrArg xs (nI_clamp (by omega))).trans e1) ?_
  obtain ⟨v4, zm3, hcq, hq⟩ := tw_cl1 hq
  refine lx_refi hM (va_runV (As := [.int x1]) (rest := []) ⟨hx, hb, hml, hown, hts⟩ (km_X13_simplify l D q5 w hM.2.2.2.1.1 K x1 zm zm3 v4 hcq) (cwV 1 hts (lx_gV (lx_all wM_good rfl) (lx_mem hM1 (hZ _ zq_139)) (hZ _ zq_140) (hZ _ zq_141) (hZ _ zq_142) (hZ _ zq_8) rfl rfl rfl rfl) rfl rfl rfl cd_X13_simplify ⟨(Nat.le_of_ble_eq_true rfl), (Nat.le_of_ble_eq_true rfl)⟩) (lx_preM hG hM) rfl rfl hl.1 rfl (lv_room (Nat.le_of_ble_eq_true rfl)) dz_956 ⟨(by show _ ≤ 601024; omega), (by show _ ≤ 7293033; omega)⟩) (fun H locs hM => ?_)
  refine lv_istore (lv' := [(6, .int v4), (5, .int v2), (0, .ref b), (1, .ref (u 0)), (2, .ref (w 0)), (3, .ref (u 52001)), (4, .int (nI (6 * n)))]) hx hb dz_959 hl (by decide) rfl (fun ls hl => ?_)
  refine lv_goto (tgt := 1710) hx hb dz_961 (by decide) ?_
  exact kk _ _ H locs ls hM (lv_sub hl [2, 3, 4, 5, 6] rfl) hq
theorem dz_964 : decode cL_law 964 = .ok (.aload_n 1, 1) := dw_at dwl_8 (p := 4) rfl (by decide +kernel)
theorem dz_965 : decode cL_law 965 = .ok (.aload_n 0, 1) := dw_at dwl_8 (p := 5) rfl (by decide +kernel)
theorem dz_966 : decode cL_law 966 = .ok (.iload 4, 2) := dw_at dwl_8 (p := 6) rfl (by decide +kernel)
theorem dz_968 : decode cL_law 968 = .ok (.iconst 1, 1) := dw_at dwl_8 (p := 8) rfl (by decide +kernel)
theorem dz_969 : decode cL_law 969 = .ok (.iadd, 1) := dw_at dwl_8 (p := 9) rfl (by decide +kernel)
theorem dz_970 : decode cL_law 970 = .ok (.iaload, 1) := dw_at dwl_8 (p := 10) rfl (by decide +kernel)
theorem dz_971 : decode cL_law 971 = .ok (.aload_n 0, 1) := dw_at dwl_8 (p := 11) rfl (by decide +kernel)
theorem dz_972 : decode cL_law 972 = .ok (.iload 4, 2) := dw_at dwl_8 (p := 12) rfl (by decide +kernel)
theorem dz_974 : decode cL_law 974 = .ok (.iconst 2, 1) := dw_at dwl_8 (p := 14) rfl (by decide +kernel)
theorem dz_975 : decode cL_law 975 = .ok (.iadd, 1) := dw_at dwl_8 (p := 15) rfl (by decide +kernel)
theorem dz_976 : decode cL_law 976 = .ok (.iaload, 1) := dw_at dwl_8 (p := 16) rfl (by decide +kernel)
theorem dz_977 : decode cL_law 977 = .ok (.aload_n 3, 1) := dw_at dwl_8 (p := 17) rfl (by decide +kernel)
theorem dz_978 : decode cL_law 978 = .ok (.invokestatic 205, 3) := dw_at dwl_8 (p := 18) rfl (by decide +kernel)
theorem dz_981 : decode cL_law 981 = .ok (.istore 5, 2) := dw_at dwl_8 (p := 21) rfl (by decide +kernel)
theorem dz_983 : decode cL_law 983 = .ok (.aload_n 2, 1) := dw_at dwl_8 (p := 23) rfl (by decide +kernel)
theorem dz_984 : decode cL_law 984 = .ok (.aload_n 0, 1) := dw_at dwl_8 (p := 24) rfl (by decide +kernel)
theorem dz_985 : decode cL_law 985 = .ok (.iload 4, 2) := dw_at dwl_8 (p := 25) rfl (by decide +kernel)
theorem dz_987 : decode cL_law 987 = .ok (.iconst 1, 1) := dw_at dwl_8 (p := 27) rfl (by decide +kernel)
theorem dz_988 : decode cL_law 988 = .ok (.iadd, 1) := dw_at dwl_8 (p := 28) rfl (by decide +kernel)
theorem dz_989 : decode cL_law 989 = .ok (.iaload, 1) := dw_at dwl_8 (p := 29) rfl (by decide +kernel)
theorem dz_990 : decode cL_law 990 = .ok (.aload_n 0, 1) := dw_at dwl_8 (p := 30) rfl (by decide +kernel)
theorem dz_991 : decode cL_law 991 = .ok (.iload 4, 2) := dw_at dwl_8 (p := 31) rfl (by decide +kernel)
theorem dz_993 : decode cL_law 993 = .ok (.iconst 2, 1) := dw_at dwl_8 (p := 33) rfl (by decide +kernel)
theorem dz_994 : decode cL_law 994 = .ok (.iadd, 1) := dw_at dwl_8 (p := 34) rfl (by decide +kernel)
theorem dz_995 : decode cL_law 995 = .ok (.iaload, 1) := dw_at dwl_8 (p := 35) rfl (by decide +kernel)
theorem dz_996 : decode cL_law 996 = .ok (.invokevirtual 207, 3) := dw_at dwl_8 (p := 36) rfl (by decide +kernel)
theorem dz_999 : decode cL_law 999 = .ok (.istore 6, 2) := dw_at dwl_8 (p := 39) rfl (by decide +kernel)
theorem dz_1001 : decode cL_law 1001 = .ok (.goto 709, 3) := dw_at dwl_8 (p := 41) rfl (by decide +kernel)
def ltp_way (vl : Nat → Nat) (K : Nat) (x1 : Int32) (x2 : Int32) (x3 : Int32) (x4 : Int32) (x5 : Int32) (zc zm : ow_MS) : Option ow_LwS :=
 cs1 (le_L_way vl K 0 x1 x2 zc) fun v2 zc1 => cs1 (qe_X13_way K x1 x2 zm) fun v4 zm3 => some (vl, zc1, zm3)
set_option maxHeartbeats 4000000 in
set_option maxRecDepth 100000 in
theorem lxc_way {p : Program} {l : Launch} {e : Env} {s : State} {m : MethodId} {args : Array Value} {below : List Frame} {meth : Method} {c : Code} {b L K n : Nat} {xs : Nat → Int32} {D : va_G} {q : Nat → ClassId} {q5 : ow_Q5} {vl u w sa : Nat → Nat} {zc zm : ow_MS} {S1 : ow_LwS} {Ts : List Cond} {Q : State → Prop} {H : Heap} {locs : List Loc} {ls : Array Slot} {cells slots : Nat} (hx : p.tables.exec = Jvm.exec) (hb : c.code = cL_law) (hml : c.maxLocals = 8) (hown : s.vm.findClass RL = some m.cls) (hts : ∀ w ∈ Ts, w.before args s = true) (hX : va_X b L xs s s.heap) (hbl : b < s.heap.size) (hZ : ∀ w ∈ wZ, w ∈ Ts) (hL1 : ∀ w ∈ wLL, w ∈ Ts) (hC1 : ∀ w ∈ wC, w ∈ Ts) (hM1 : ∀ w ∈ wM, w ∈ Ts) (hG : lx_G l s D q q5 sa) (hLn : L ≤ 3072) (hn : 6 * n + 6 ≤ L) (hq : ltp_way vl K (xs (6 * n + 1)) (xs (6 * n + 2)) (xs (6 * n + 3)) (xs (6 * n + 4)) (xs (6 * n + 5)) zc zm = some S1) (hM : lx_M D q q5 s vl u w zc zm H locs) (hl : lv_has ls 8 [(0, .ref b), (1, .ref (u 0)), (2, .ref (w 0)), (3, .ref (u 52001)), (4, .int (nI (6 * n)))]) (hc : cells + 3 ≤ 601024) (hs : slots + 18 ≤ 7293033) (kk : ∀ (zc1 zm1 : ow_MS) (H1 : Heap) (locs1 : List Loc) (ls1 : Array Slot), lx_M D q q5 s vl u w zc1 zm1 H1 locs1 → lv_has ls1 8 [(0, .ref b), (1, .ref (u 0)), (2, .ref (w 0)), (3, .ref (u 52001)), (4, .int (nI (6 * n)))] → some (vl, zc1, zm1) = some S1 → W p l e room_1 s m args below meth c H1 locs1 (cells + 3) (slots + 18) Q (F0 m 1710 ls1 [])) : W p l e room_1 s m args below meth c H locs cells slots Q (F0 m 964 ls []) := by
  have hbA : ¬ lx_A s b := Nat.not_le.mpr hbl
  generalize e1 : xs (6 * n + 1) = x1 at hq
  generalize e2 : xs (6 * n + 2) = x2 at hq
  generalize e3 : xs (6 * n + 3) = x3 at hq
  generalize e4 : xs (6 * n + 4) = x4 at hq
  generalize e5 : xs (6 * n + 5) = x5 at hq
  unfold ltp_way at hq
  refine lv_aload_n hx hb dz_964 rfl (lv_at hl 1 rfl) ?_
  refine lv_aload_n hx hb dz_965 rfl (lv_at hl 0 rfl) ?_
  refine lv_iload hx hb dz_966 (lv_at hl 4 rfl) ?_
  refine lv_iconst (v := 1) hx hb dz_968 (by decide) ?_
  refine lv_iadd hx hb dz_969 ?_
  refine ow_topi (y := nI (6 * n + 1)) (nI_add (6 * n) 1) ?_
  refine va_sld hx hb hX hbl hbA hM.2.2.2.2.2 (vp_in_nI (n := 6 * n + 1) (N := L) (by omega) (by omega)) dz_970 ?_
  refine ow_topi (y := x1) ((congrArg xs (nI_clamp (by omega))).trans e1) ?_
  refine lv_aload_n hx hb dz_971 rfl (lv_at hl 0 rfl) ?_
  refine lv_iload hx hb dz_972 (lv_at hl 4 rfl) ?_
  refine lv_iconst (v := 2) hx hb dz_974 (by decide) ?_
  refine lv_iadd hx hb dz_975 ?_
  refine ow_topi (y := nI (6 * n + 2)) (nI_add (6 * n) 2) ?_
  refine va_sld hx hb hX hbl hbA hM.2.2.2.2.2 (vp_in_nI (n := 6 * n + 2) (N := L) (by omega) (by omega)) dz_976 ?_
  refine ow_topi (y := x2) ((congrArg xs (nI_clamp (by omega))).trans e2) ?_
  refine lv_aload_n hx hb dz_977 rfl (lv_at hl 3 rfl) ?_
  obtain ⟨v2, zc1, hcq, hq⟩ := tw_cl1 hq
  refine lx_wrap hM (vx_runSX (As := [.ref (u 0), .int x1, .int x2, .ref (u 52001)]) (rest := []) ⟨hx, hb, hml, hown, hts⟩ (kl_L_way l D q vl u hM.2.2.1.1 hG.1 sa K 0 x1 x2 (by unfold cw_X11 ci_X11; exact List.mem_singleton.mpr rfl) zc zc1 v2 hcq) (vx_cwSW 4 hts (lx_gS (lx_all wLL_good rfl) (lx_mem hL1 (hZ _ zq_143)) (hZ _ zq_144) (hZ _ zq_145) (hZ _ zq_3) rfl rfl rfl) rfl rfl rfl (by decide +kernel) ⟨(Nat.le_of_ble_eq_true rfl), (Nat.le_of_ble_eq_true rfl)⟩) (lx_preL hG hM) rfl rfl hl.1 rfl (lv_room (Nat.le_of_ble_eq_true rfl)) dz_978 ⟨(by show _ ≤ 601024; omega), (by show _ ≤ 7293033; omega)⟩) (fun H locs hM => ?_)
  refine lv_istore (lv' := [(5, .int v2), (0, .ref b), (1, .ref (u 0)), (2, .ref (w 0)), (3, .ref (u 52001)), (4, .int (nI (6 * n)))]) hx hb dz_981 hl (by decide) rfl (fun ls hl => ?_)
  refine lv_aload_n hx hb dz_983 rfl (lv_at hl 3 rfl) ?_
  refine lv_aload_n hx hb dz_984 rfl (lv_at hl 1 rfl) ?_
  refine lv_iload hx hb dz_985 (lv_at hl 5 rfl) ?_
  refine lv_iconst (v := 1) hx hb dz_987 (by decide) ?_
  refine lv_iadd hx hb dz_988 ?_
  refine ow_topi (y := nI (6 * n + 1)) (nI_add (6 * n) 1) ?_
  refine va_sld hx hb hX hbl hbA hM.2.2.2.2.2 (vp_in_nI (n := 6 * n + 1) (N := L) (by omega) (by omega)) dz_989 ?_
  refine ow_topi (y := x1) ((congrArg xs (nI_clamp (by omega))).trans e1) ?_
  refine lv_aload_n hx hb dz_990 rfl (lv_at hl 1 rfl) ?_
  refine lv_iload hx hb dz_991 (lv_at hl 5 rfl) ?_
  refine lv_iconst (v := 2) hx hb dz_993 (by decide) ?_
  refine lv_iadd hx hb dz_994 ?_
  refine ow_topi (y := nI (6 * n + 2)) (nI_add (6 * n) 2) ?_
  refine va_sld hx hb hX hbl hbA hM.2.2.2.2.2 (vp_in_nI (n := 6 * n + 2) (N := L) (by omega) (by omega)) dz_995 ?_
  refine ow_topi (y := x2) ((congrArg xs (nI_clamp (by omega))).trans e2) ?_
  obtain ⟨v4, zm3, hcq, hq⟩ := tw_cl1 hq
  refine lx_refi hM (va_runV (As := [.int x1, .int x2]) (rest := []) ⟨hx, hb, hml, hown, hts⟩ (km_X13_way l D q5 w hM.2.2.2.1.1 K x1 x2 zm zm3 v4 hcq) (cwV 2 hts (lx_gV (lx_all wM_good rfl) (lx_mem hM1 (hZ _ zq_146)) (hZ _ zq_147) (hZ _ zq_148) (hZ _ zq_149) (hZ _ zq_8) rfl rfl rfl rfl) rfl rfl rfl cd_X13_way ⟨(Nat.le_of_ble_eq_true rfl), (Nat.le_of_ble_eq_true rfl)⟩) (lx_preM hG hM) rfl rfl hl.1 rfl (lv_room (Nat.le_of_ble_eq_true rfl)) dz_996 ⟨(by show _ ≤ 601024; omega), (by show _ ≤ 7293033; omega)⟩) (fun H locs hM => ?_)
  refine lv_istore (lv' := [(6, .int v4), (5, .int v2), (0, .ref b), (1, .ref (u 0)), (2, .ref (w 0)), (3, .ref (u 52001)), (4, .int (nI (6 * n)))]) hx hb dz_999 hl (by decide) rfl (fun ls hl => ?_)
  refine lv_goto (tgt := 1710) hx hb dz_1001 (by decide) ?_
  exact kk _ _ H locs ls hM (lv_sub hl [2, 3, 4, 5, 6] rfl) hq
theorem dz_1004 : decode cL_law 1004 = .ok (.aload_n 1, 1) := dw_at dwl_8 (p := 44) rfl (by decide +kernel)
theorem dz_1005 : decode cL_law 1005 = .ok (.aload_n 0, 1) := dw_at dwl_8 (p := 45) rfl (by decide +kernel)
theorem dz_1006 : decode cL_law 1006 = .ok (.iload 4, 2) := dw_at dwl_8 (p := 46) rfl (by decide +kernel)
theorem dz_1008 : decode cL_law 1008 = .ok (.iconst 1, 1) := dw_at dwl_8 (p := 48) rfl (by decide +kernel)
theorem dz_1009 : decode cL_law 1009 = .ok (.iadd, 1) := dw_at dwl_8 (p := 49) rfl (by decide +kernel)
theorem dz_1010 : decode cL_law 1010 = .ok (.iaload, 1) := dw_at dwl_8 (p := 50) rfl (by decide +kernel)
theorem dz_1011 : decode cL_law 1011 = .ok (.aload_n 3, 1) := dw_at dwl_8 (p := 51) rfl (by decide +kernel)
theorem dz_1012 : decode cL_law 1012 = .ok (.invokestatic 208, 3) := dw_at dwl_8 (p := 52) rfl (by decide +kernel)
theorem dz_1015 : decode cL_law 1015 = .ok (.istore 5, 2) := dw_at dwl_8 (p := 55) rfl (by decide +kernel)
theorem dz_1017 : decode cL_law 1017 = .ok (.aload_n 2, 1) := dw_at dwl_8 (p := 57) rfl (by decide +kernel)
theorem dz_1018 : decode cL_law 1018 = .ok (.aload_n 0, 1) := dw_at dwl_8 (p := 58) rfl (by decide +kernel)
theorem dz_1019 : decode cL_law 1019 = .ok (.iload 4, 2) := dw_at dwl_8 (p := 59) rfl (by decide +kernel)
theorem dz_1021 : decode cL_law 1021 = .ok (.iconst 1, 1) := dw_at dwl_8 (p := 61) rfl (by decide +kernel)
theorem dz_1022 : decode cL_law 1022 = .ok (.iadd, 1) := dw_at dwl_8 (p := 62) rfl (by decide +kernel)
theorem dz_1023 : decode cL_law 1023 = .ok (.iaload, 1) := dw_at dwl_8 (p := 63) rfl (by decide +kernel)
theorem dz_1024 : decode cL_law 1024 = .ok (.invokevirtual 210, 3) := dw_at dwl_8 (p := 64) rfl (by decide +kernel)
theorem dz_1027 : decode cL_law 1027 = .ok (.istore 6, 2) := dw_at dwl_8 (p := 67) rfl (by decide +kernel)
theorem dz_1029 : decode cL_law 1029 = .ok (.goto 681, 3) := dw_at dwl_8 (p := 69) rfl (by decide +kernel)
def ltp_summands (vl : Nat → Nat) (K : Nat) (x1 : Int32) (x2 : Int32) (x3 : Int32) (x4 : Int32) (x5 : Int32) (zc zm : ow_MS) : Option ow_LwS :=
 cs1 (le_L_summands vl K 0 x1 zc) fun v2 zc1 => cs1 (qe_X13_summands K x1 zm) fun v4 zm3 => some (vl, zc1, zm3)
set_option maxHeartbeats 4000000 in
set_option maxRecDepth 100000 in
theorem lxc_summands {p : Program} {l : Launch} {e : Env} {s : State} {m : MethodId} {args : Array Value} {below : List Frame} {meth : Method} {c : Code} {b L K n : Nat} {xs : Nat → Int32} {D : va_G} {q : Nat → ClassId} {q5 : ow_Q5} {vl u w sa : Nat → Nat} {zc zm : ow_MS} {S1 : ow_LwS} {Ts : List Cond} {Q : State → Prop} {H : Heap} {locs : List Loc} {ls : Array Slot} {cells slots : Nat} (hx : p.tables.exec = Jvm.exec) (hb : c.code = cL_law) (hml : c.maxLocals = 8) (hown : s.vm.findClass RL = some m.cls) (hts : ∀ w ∈ Ts, w.before args s = true) (hX : va_X b L xs s s.heap) (hbl : b < s.heap.size) (hZ : ∀ w ∈ wZ, w ∈ Ts) (hL1 : ∀ w ∈ wLL, w ∈ Ts) (hC1 : ∀ w ∈ wC, w ∈ Ts) (hM1 : ∀ w ∈ wM, w ∈ Ts) (hG : lx_G l s D q q5 sa) (hLn : L ≤ 3072) (hn : 6 * n + 6 ≤ L) (hq : ltp_summands vl K (xs (6 * n + 1)) (xs (6 * n + 2)) (xs (6 * n + 3)) (xs (6 * n + 4)) (xs (6 * n + 5)) zc zm = some S1) (hM : lx_M D q q5 s vl u w zc zm H locs) (hl : lv_has ls 8 [(0, .ref b), (1, .ref (u 0)), (2, .ref (w 0)), (3, .ref (u 52001)), (4, .int (nI (6 * n)))]) (hc : cells + 1 ≤ 601024) (hs : slots + 6 ≤ 7293033) (kk : ∀ (zc1 zm1 : ow_MS) (H1 : Heap) (locs1 : List Loc) (ls1 : Array Slot), lx_M D q q5 s vl u w zc1 zm1 H1 locs1 → lv_has ls1 8 [(0, .ref b), (1, .ref (u 0)), (2, .ref (w 0)), (3, .ref (u 52001)), (4, .int (nI (6 * n)))] → some (vl, zc1, zm1) = some S1 → W p l e room_1 s m args below meth c H1 locs1 (cells + 1) (slots + 6) Q (F0 m 1710 ls1 [])) : W p l e room_1 s m args below meth c H locs cells slots Q (F0 m 1004 ls []) := by
  have hbA : ¬ lx_A s b := Nat.not_le.mpr hbl
  generalize e1 : xs (6 * n + 1) = x1 at hq
  generalize e2 : xs (6 * n + 2) = x2 at hq
  generalize e3 : xs (6 * n + 3) = x3 at hq
  generalize e4 : xs (6 * n + 4) = x4 at hq
  generalize e5 : xs (6 * n + 5) = x5 at hq
  unfold ltp_summands at hq
  refine lv_aload_n hx hb dz_1004 rfl (lv_at hl 1 rfl) ?_
  refine lv_aload_n hx hb dz_1005 rfl (lv_at hl 0 rfl) ?_
  refine lv_iload hx hb dz_1006 (lv_at hl 4 rfl) ?_
  refine lv_iconst (v := 1) hx hb dz_1008 (by decide) ?_
  refine lv_iadd hx hb dz_1009 ?_
  refine ow_topi (y := nI (6 * n + 1)) (nI_add (6 * n) 1) ?_
  refine va_sld hx hb hX hbl hbA hM.2.2.2.2.2 (vp_in_nI (n := 6 * n + 1) (N := L) (by omega) (by omega)) dz_1010 ?_
  refine ow_topi (y := x1) ((congrArg xs (nI_clamp (by omega))).trans e1) ?_
  refine lv_aload_n hx hb dz_1011 rfl (lv_at hl 3 rfl) ?_
  obtain ⟨v2, zc1, hcq, hq⟩ := tw_cl1 hq
  refine lx_wrap hM (vx_runSX (As := [.ref (u 0), .int x1, .ref (u 52001)]) (rest := []) ⟨hx, hb, hml, hown, hts⟩ (kl_L_summands l D q vl u hM.2.2.1.1 hG.1 sa K 0 x1 (by unfold cw_X11 ci_X11; exact List.mem_singleton.mpr rfl) zc zc1 v2 hcq) (vx_cwSW 3 hts (lx_gS (lx_all wLL_good rfl) (lx_mem hL1 (hZ _ zq_150)) (hZ _ zq_151) (hZ _ zq_152) (hZ _ zq_3) rfl rfl rfl) rfl rfl rfl (by decide +kernel) ⟨(Nat.le_of_ble_eq_true rfl), (Nat.le_of_ble_eq_true rfl)⟩) (lx_preL hG hM) rfl rfl hl.1 rfl (lv_room (Nat.le_of_ble_eq_true rfl)) dz_1012 ⟨(by show _ ≤ 601024; omega), (by show _ ≤ 7293033; omega)⟩) (fun H locs hM => ?_)
  refine lv_istore (lv' := [(5, .int v2), (0, .ref b), (1, .ref (u 0)), (2, .ref (w 0)), (3, .ref (u 52001)), (4, .int (nI (6 * n)))]) hx hb dz_1015 hl (by decide) rfl (fun ls hl => ?_)
  refine lv_aload_n hx hb dz_1017 rfl (lv_at hl 3 rfl) ?_
  refine lv_aload_n hx hb dz_1018 rfl (lv_at hl 1 rfl) ?_
  refine lv_iload hx hb dz_1019 (lv_at hl 5 rfl) ?_
  refine lv_iconst (v := 1) hx hb dz_1021 (by decide) ?_
  refine lv_iadd hx hb dz_1022 ?_
  refine ow_topi (y := nI (6 * n + 1)) (nI_add (6 * n) 1) ?_
  refine va_sld hx hb hX hbl hbA hM.2.2.2.2.2 (vp_in_nI (n := 6 * n + 1) (N := L) (by omega) (by omega)) dz_1023 ?_
  refine ow_topi (y := x1) ((congrArg xs (nI_clamp (by omega))).trans e1) ?_
  obtain ⟨v4, zm3, hcq, hq⟩ := tw_cl1 hq
  refine lx_refi hM (va_runV (As := [.int x1]) (rest := []) ⟨hx, hb, hml, hown, hts⟩ (km_X13_summands l D q5 w hM.2.2.2.1.1 K x1 zm zm3 v4 hcq) (cwV 1 hts (lx_gV (lx_all wM_good rfl) (lx_mem hM1 (hZ _ zq_153)) (hZ _ zq_154) (hZ _ zq_155) (hZ _ zq_156) (hZ _ zq_8) rfl rfl rfl rfl) rfl rfl rfl cd_X13_summands ⟨(Nat.le_of_ble_eq_true rfl), (Nat.le_of_ble_eq_true rfl)⟩) (lx_preM hG hM) rfl rfl hl.1 rfl (lv_room (Nat.le_of_ble_eq_true rfl)) dz_1024 ⟨(by show _ ≤ 601024; omega), (by show _ ≤ 7293033; omega)⟩) (fun H locs hM => ?_)
  refine lv_istore (lv' := [(6, .int v4), (5, .int v2), (0, .ref b), (1, .ref (u 0)), (2, .ref (w 0)), (3, .ref (u 52001)), (4, .int (nI (6 * n)))]) hx hb dz_1027 hl (by decide) rfl (fun ls hl => ?_)
  refine lv_goto (tgt := 1710) hx hb dz_1029 (by decide) ?_
  exact kk _ _ H locs ls hM (lv_sub hl [2, 3, 4, 5, 6] rfl) hq
theorem dz_1032 : decode cL_law 1032 = .ok (.aload_n 1, 1) := dw_at dwl_8 (p := 72) rfl (by decide +kernel)
theorem dz_1033 : decode cL_law 1033 = .ok (.aload_n 0, 1) := dw_at dwl_8 (p := 73) rfl (by decide +kernel)
theorem dz_1034 : decode cL_law 1034 = .ok (.iload 4, 2) := dw_at dwl_8 (p := 74) rfl (by decide +kernel)
theorem dz_1036 : decode cL_law 1036 = .ok (.iconst 1, 1) := dw_at dwl_8 (p := 76) rfl (by decide +kernel)
theorem dz_1037 : decode cL_law 1037 = .ok (.iadd, 1) := dw_at dwl_8 (p := 77) rfl (by decide +kernel)
theorem dz_1038 : decode cL_law 1038 = .ok (.iaload, 1) := dw_at dwl_8 (p := 78) rfl (by decide +kernel)
theorem dz_1039 : decode cL_law 1039 = .ok (.aload_n 3, 1) := dw_at dwl_8 (p := 79) rfl (by decide +kernel)
theorem dz_1040 : decode cL_law 1040 = .ok (.invokestatic 211, 3) := dw_at dwl_8 (p := 80) rfl (by decide +kernel)
theorem dz_1043 : decode cL_law 1043 = .ok (.istore 5, 2) := dw_at dwl_8 (p := 83) rfl (by decide +kernel)
theorem dz_1045 : decode cL_law 1045 = .ok (.aload_n 2, 1) := dw_at dwl_8 (p := 85) rfl (by decide +kernel)
theorem dz_1046 : decode cL_law 1046 = .ok (.aload_n 0, 1) := dw_at dwl_8 (p := 86) rfl (by decide +kernel)
theorem dz_1047 : decode cL_law 1047 = .ok (.iload 4, 2) := dw_at dwl_8 (p := 87) rfl (by decide +kernel)
theorem dz_1049 : decode cL_law 1049 = .ok (.iconst 1, 1) := dw_at dwl_8 (p := 89) rfl (by decide +kernel)
theorem dz_1050 : decode cL_law 1050 = .ok (.iadd, 1) := dw_at dwl_8 (p := 90) rfl (by decide +kernel)
theorem dz_1051 : decode cL_law 1051 = .ok (.iaload, 1) := dw_at dwl_8 (p := 91) rfl (by decide +kernel)
theorem dz_1052 : decode cL_law 1052 = .ok (.invokevirtual 213, 3) := dw_at dwl_8 (p := 92) rfl (by decide +kernel)
theorem dz_1055 : decode cL_law 1055 = .ok (.istore 6, 2) := dw_at dwl_8 (p := 95) rfl (by decide +kernel)
theorem dz_1057 : decode cL_law 1057 = .ok (.goto 653, 3) := dw_at dwl_8 (p := 97) rfl (by decide +kernel)
def ltp_summand (vl : Nat → Nat) (K : Nat) (x1 : Int32) (x2 : Int32) (x3 : Int32) (x4 : Int32) (x5 : Int32) (zc zm : ow_MS) : Option ow_LwS :=
 cs1 (le_L_summand vl K 0 x1 zc) fun v2 zc1 => cs1 (qe_X13_summand K x1 zm) fun v4 zm3 => some (vl, zc1, zm3)
set_option maxHeartbeats 4000000 in
set_option maxRecDepth 100000 in
theorem lxc_summand {p : Program} {l : Launch} {e : Env} {s : State} {m : MethodId} {args : Array Value} {below : List Frame} {meth : Method} {c : Code} {b L K n : Nat} {xs : Nat → Int32} {D : va_G} {q : Nat → ClassId} {q5 : ow_Q5} {vl u w sa : Nat → Nat} {zc zm : ow_MS} {S1 : ow_LwS} {Ts : List Cond} {Q : State → Prop} {H : Heap} {locs : List Loc} {ls : Array Slot} {cells slots : Nat} (hx : p.tables.exec = Jvm.exec) (hb : c.code = cL_law) (hml : c.maxLocals = 8) (hown : s.vm.findClass RL = some m.cls) (hts : ∀ w ∈ Ts, w.before args s = true) (hX : va_X b L xs s s.heap) (hbl : b < s.heap.size) (hZ : ∀ w ∈ wZ, w ∈ Ts) (hL1 : ∀ w ∈ wLL, w ∈ Ts) (hC1 : ∀ w ∈ wC, w ∈ Ts) (hM1 : ∀ w ∈ wM, w ∈ Ts) (hG : lx_G l s D q q5 sa) (hLn : L ≤ 3072) (hn : 6 * n + 6 ≤ L) (hq : ltp_summand vl K (xs (6 * n + 1)) (xs (6 * n + 2)) (xs (6 * n + 3)) (xs (6 * n + 4)) (xs (6 * n + 5)) zc zm = some S1) (hM : lx_M D q q5 s vl u w zc zm H locs) (hl : lv_has ls 8 [(0, .ref b), (1, .ref (u 0)), (2, .ref (w 0)), (3, .ref (u 52001)), (4, .int (nI (6 * n)))]) (hc : cells + 2 ≤ 601024) (hs : slots + 12 ≤ 7293033) (kk : ∀ (zc1 zm1 : ow_MS) (H1 : Heap) (locs1 : List Loc) (ls1 : Array Slot), lx_M D q q5 s vl u w zc1 zm1 H1 locs1 → lv_has ls1 8 [(0, .ref b), (1, .ref (u 0)), (2, .ref (w 0)), (3, .ref (u 52001)), (4, .int (nI (6 * n)))] → some (vl, zc1, zm1) = some S1 → W p l e room_1 s m args below meth c H1 locs1 (cells + 2) (slots + 12) Q (F0 m 1710 ls1 [])) : W p l e room_1 s m args below meth c H locs cells slots Q (F0 m 1032 ls []) := by
  have hbA : ¬ lx_A s b := Nat.not_le.mpr hbl
  generalize e1 : xs (6 * n + 1) = x1 at hq
  generalize e2 : xs (6 * n + 2) = x2 at hq
  generalize e3 : xs (6 * n + 3) = x3 at hq
  generalize e4 : xs (6 * n + 4) = x4 at hq
  generalize e5 : xs (6 * n + 5) = x5 at hq
  unfold ltp_summand at hq
  refine lv_aload_n hx hb dz_1032 rfl (lv_at hl 1 rfl) ?_
  refine lv_aload_n hx hb dz_1033 rfl (lv_at hl 0 rfl) ?_
  refine lv_iload hx hb dz_1034 (lv_at hl 4 rfl) ?_
  refine lv_iconst (v := 1) hx hb dz_1036 (by decide) ?_
  refine lv_iadd hx hb dz_1037 ?_
  refine ow_topi (y := nI (6 * n + 1)) (nI_add (6 * n) 1) ?_
  refine va_sld hx hb hX hbl hbA hM.2.2.2.2.2 (vp_in_nI (n := 6 * n + 1) (N := L) (by omega) (by omega)) dz_1038 ?_
  refine ow_topi (y := x1) ((congrArg xs (nI_clamp (by omega))).trans e1) ?_
  refine lv_aload_n hx hb dz_1039 rfl (lv_at hl 3 rfl) ?_
  obtain ⟨v2, zc1, hcq, hq⟩ := tw_cl1 hq
  refine lx_wrap hM (vx_runSX (As := [.ref (u 0), .int x1, .ref (u 52001)]) (rest := []) ⟨hx, hb, hml, hown, hts⟩ (kl_L_summand l D q vl u hM.2.2.1.1 hG.1 sa K 0 x1 (by unfold cw_X11 ci_X11; exact List.mem_singleton.mpr rfl) zc zc1 v2 hcq) (vx_cwSW 3 hts (lx_gS (lx_all wLL_good rfl) (lx_mem hL1 (hZ _ zq_157)) (hZ _ zq_158) (hZ _ zq_159) (hZ _ zq_3) rfl rfl rfl) rfl rfl rfl (by decide +kernel) ⟨(Nat.le_of_ble_eq_true rfl), (Nat.le_of_ble_eq_true rfl)⟩) (lx_preL hG hM) rfl rfl hl.1 rfl (lv_room (Nat.le_of_ble_eq_true rfl)) dz_1040 ⟨(by show _ ≤ 601024; omega), (by show _ ≤ 7293033; omega)⟩) (fun H locs hM => ?_)
  refine lv_istore (lv' := [(5, .int v2), (0, .ref b), (1, .ref (u 0)), (2, .ref (w 0)), (3, .ref (u 52001)), (4, .int (nI (6 * n)))]) hx hb dz_1043 hl (by decide) rfl (fun ls hl => ?_)
  refine lv_aload_n hx hb dz_1045 rfl (lv_at hl 3 rfl) ?_
  refine lv_aload_n hx hb dz_1046 rfl (lv_at hl 1 rfl) ?_
  refine lv_iload hx hb dz_1047 (lv_at hl 5 rfl) ?_
  refine lv_iconst (v := 1) hx hb dz_1049 (by decide) ?_
  refine lv_iadd hx hb dz_1050 ?_
  refine ow_topi (y := nI (6 * n + 1)) (nI_add (6 * n) 1) ?_
  refine va_sld hx hb hX hbl hbA hM.2.2.2.2.2 (vp_in_nI (n := 6 * n + 1) (N := L) (by omega) (by omega)) dz_1051 ?_
  refine ow_topi (y := x1) ((congrArg xs (nI_clamp (by omega))).trans e1) ?_
  obtain ⟨v4, zm3, hcq, hq⟩ := tw_cl1 hq
  refine lx_refi hM (va_runV (As := [.int x1]) (rest := []) ⟨hx, hb, hml, hown, hts⟩ (km_X13_summand l D q5 w hM.2.2.2.1.1 K x1 zm zm3 v4 hcq) (cwV 1 hts (lx_gV (lx_all wM_good rfl) (lx_mem hM1 (hZ _ zq_160)) (hZ _ zq_161) (hZ _ zq_162) (hZ _ zq_163) (hZ _ zq_8) rfl rfl rfl rfl) rfl rfl rfl cd_X13_summand ⟨(Nat.le_of_ble_eq_true rfl), (Nat.le_of_ble_eq_true rfl)⟩) (lx_preM hG hM) rfl rfl hl.1 rfl (lv_room (Nat.le_of_ble_eq_true rfl)) dz_1052 ⟨(by show _ ≤ 601024; omega), (by show _ ≤ 7293033; omega)⟩) (fun H locs hM => ?_)
  refine lv_istore (lv' := [(6, .int v4), (5, .int v2), (0, .ref b), (1, .ref (u 0)), (2, .ref (w 0)), (3, .ref (u 52001)), (4, .int (nI (6 * n)))]) hx hb dz_1055 hl (by decide) rfl (fun ls hl => ?_)
  refine lv_goto (tgt := 1710) hx hb dz_1057 (by decide) ?_
  exact kk _ _ H locs ls hM (lv_sub hl [2, 3, 4, 5, 6] rfl) hq
theorem dz_1060 : decode cL_law 1060 = .ok (.aload_n 1, 1) := dw_at dwl_8 (p := 100) rfl (by decide +kernel)
theorem dz_1061 : decode cL_law 1061 = .ok (.aload_n 0, 1) := dw_at dwl_8 (p := 101) rfl (by decide +kernel)
theorem dz_1062 : decode cL_law 1062 = .ok (.iload 4, 2) := dw_at dwl_8 (p := 102) rfl (by decide +kernel)
theorem dz_1064 : decode cL_law 1064 = .ok (.iconst 1, 1) := dw_at dwl_8 (p := 104) rfl (by decide +kernel)
theorem dz_1065 : decode cL_law 1065 = .ok (.iadd, 1) := dw_at dwl_8 (p := 105) rfl (by decide +kernel)
theorem dz_1066 : decode cL_law 1066 = .ok (.iaload, 1) := dw_at dwl_8 (p := 106) rfl (by decide +kernel)
theorem dz_1067 : decode cL_law 1067 = .ok (.aload_n 0, 1) := dw_at dwl_8 (p := 107) rfl (by decide +kernel)
theorem dz_1068 : decode cL_law 1068 = .ok (.iload 4, 2) := dw_at dwl_8 (p := 108) rfl (by decide +kernel)
theorem dz_1070 : decode cL_law 1070 = .ok (.iconst 2, 1) := dw_at dwl_8 (p := 110) rfl (by decide +kernel)
theorem dz_1071 : decode cL_law 1071 = .ok (.iadd, 1) := dw_at dwl_8 (p := 111) rfl (by decide +kernel)
theorem dz_1072 : decode cL_law 1072 = .ok (.iaload, 1) := dw_at dwl_8 (p := 112) rfl (by decide +kernel)
theorem dz_1073 : decode cL_law 1073 = .ok (.aload_n 3, 1) := dw_at dwl_8 (p := 113) rfl (by decide +kernel)
theorem dz_1074 : decode cL_law 1074 = .ok (.invokestatic 214, 3) := dw_at dwl_8 (p := 114) rfl (by decide +kernel)
theorem dz_1077 : decode cL_law 1077 = .ok (.istore 5, 2) := dw_at dwl_8 (p := 117) rfl (by decide +kernel)
theorem dz_1079 : decode cL_law 1079 = .ok (.aload_n 2, 1) := dw_at dwl_8 (p := 119) rfl (by decide +kernel)
theorem dz_1080 : decode cL_law 1080 = .ok (.aload_n 0, 1) := dw_at dwl_9 (p := 0) rfl (by decide +kernel)
theorem dz_1081 : decode cL_law 1081 = .ok (.iload 4, 2) := dw_at dwl_9 (p := 1) rfl (by decide +kernel)
theorem dz_1083 : decode cL_law 1083 = .ok (.iconst 1, 1) := dw_at dwl_9 (p := 3) rfl (by decide +kernel)
theorem dz_1084 : decode cL_law 1084 = .ok (.iadd, 1) := dw_at dwl_9 (p := 4) rfl (by decide +kernel)
theorem dz_1085 : decode cL_law 1085 = .ok (.iaload, 1) := dw_at dwl_9 (p := 5) rfl (by decide +kernel)
theorem dz_1086 : decode cL_law 1086 = .ok (.aload_n 0, 1) := dw_at dwl_9 (p := 6) rfl (by decide +kernel)
theorem dz_1087 : decode cL_law 1087 = .ok (.iload 4, 2) := dw_at dwl_9 (p := 7) rfl (by decide +kernel)
theorem dz_1089 : decode cL_law 1089 = .ok (.iconst 2, 1) := dw_at dwl_9 (p := 9) rfl (by decide +kernel)
theorem dz_1090 : decode cL_law 1090 = .ok (.iadd, 1) := dw_at dwl_9 (p := 10) rfl (by decide +kernel)
theorem dz_1091 : decode cL_law 1091 = .ok (.iaload, 1) := dw_at dwl_9 (p := 11) rfl (by decide +kernel)
theorem dz_1092 : decode cL_law 1092 = .ok (.invokevirtual 216, 3) := dw_at dwl_9 (p := 12) rfl (by decide +kernel)
theorem dz_1095 : decode cL_law 1095 = .ok (.istore 6, 2) := dw_at dwl_9 (p := 15) rfl (by decide +kernel)
theorem dz_1097 : decode cL_law 1097 = .ok (.goto 613, 3) := dw_at dwl_9 (p := 17) rfl (by decide +kernel)
def ltp_conway (vl : Nat → Nat) (K : Nat) (x1 : Int32) (x2 : Int32) (x3 : Int32) (x4 : Int32) (x5 : Int32) (zc zm : ow_MS) : Option ow_LwS :=
 cs1 (le_L_conway vl K 0 x1 x2 zc) fun v2 zc1 => cs1 (qe_X13_conway K x1 x2 zm) fun v4 zm3 => some (vl, zc1, zm3)
set_option maxHeartbeats 4000000 in
set_option maxRecDepth 100000 in
theorem lxc_conway {p : Program} {l : Launch} {e : Env} {s : State} {m : MethodId} {args : Array Value} {below : List Frame} {meth : Method} {c : Code} {b L K n : Nat} {xs : Nat → Int32} {D : va_G} {q : Nat → ClassId} {q5 : ow_Q5} {vl u w sa : Nat → Nat} {zc zm : ow_MS} {S1 : ow_LwS} {Ts : List Cond} {Q : State → Prop} {H : Heap} {locs : List Loc} {ls : Array Slot} {cells slots : Nat} (hx : p.tables.exec = Jvm.exec) (hb : c.code = cL_law) (hml : c.maxLocals = 8) (hown : s.vm.findClass RL = some m.cls) (hts : ∀ w ∈ Ts, w.before args s = true) (hX : va_X b L xs s s.heap) (hbl : b < s.heap.size) (hZ : ∀ w ∈ wZ, w ∈ Ts) (hL1 : ∀ w ∈ wLL, w ∈ Ts) (hC1 : ∀ w ∈ wC, w ∈ Ts) (hM1 : ∀ w ∈ wM, w ∈ Ts) (hG : lx_G l s D q q5 sa) (hLn : L ≤ 3072) (hn : 6 * n + 6 ≤ L) (hq : ltp_conway vl K (xs (6 * n + 1)) (xs (6 * n + 2)) (xs (6 * n + 3)) (xs (6 * n + 4)) (xs (6 * n + 5)) zc zm = some S1) (hM : lx_M D q q5 s vl u w zc zm H locs) (hl : lv_has ls 8 [(0, .ref b), (1, .ref (u 0)), (2, .ref (w 0)), (3, .ref (u 52001)), (4, .int (nI (6 * n)))]) (hc : cells + 1 ≤ 601024) (hs : slots + 6 ≤ 7293033) (kk : ∀ (zc1 zm1 : ow_MS) (H1 : Heap) (locs1 : List Loc) (ls1 : Array Slot), lx_M D q q5 s vl u w zc1 zm1 H1 locs1 → lv_has ls1 8 [(0, .ref b), (1, .ref (u 0)), (2, .ref (w 0)), (3, .ref (u 52001)), (4, .int (nI (6 * n)))] → some (vl, zc1, zm1) = some S1 → W p l e room_1 s m args below meth c H1 locs1 (cells + 1) (slots + 6) Q (F0 m 1710 ls1 [])) : W p l e room_1 s m args below meth c H locs cells slots Q (F0 m 1060 ls []) := by
  have hbA : ¬ lx_A s b := Nat.not_le.mpr hbl
  generalize e1 : xs (6 * n + 1) = x1 at hq
  generalize e2 : xs (6 * n + 2) = x2 at hq
  generalize e3 : xs (6 * n + 3) = x3 at hq
  generalize e4 : xs (6 * n + 4) = x4 at hq
  generalize e5 : xs (6 * n + 5) = x5 at hq
  unfold ltp_conway at hq
  refine lv_aload_n hx hb dz_1060 rfl (lv_at hl 1 rfl) ?_
  refine lv_aload_n hx hb dz_1061 rfl (lv_at hl 0 rfl) ?_
  refine lv_iload hx hb dz_1062 (lv_at hl 4 rfl) ?_
  refine lv_iconst (v := 1) hx hb dz_1064 (by decide) ?_
  refine lv_iadd hx hb dz_1065 ?_
  refine ow_topi (y := nI (6 * n + 1)) (nI_add (6 * n) 1) ?_
  refine va_sld hx hb hX hbl hbA hM.2.2.2.2.2 (vp_in_nI (n := 6 * n + 1) (N := L) (by omega) (by omega)) dz_1066 ?_
  refine ow_topi (y := x1) ((congrArg xs (nI_clamp (by omega))).trans e1) ?_
  refine lv_aload_n hx hb dz_1067 rfl (lv_at hl 0 rfl) ?_
  refine lv_iload hx hb dz_1068 (lv_at hl 4 rfl) ?_
  refine lv_iconst (v := 2) hx hb dz_1070 (by decide) ?_
  refine lv_iadd hx hb dz_1071 ?_
  refine ow_topi (y := nI (6 * n + 2)) (nI_add (6 * n) 2) ?_
  refine va_sld hx hb hX hbl hbA hM.2.2.2.2.2 (vp_in_nI (n := 6 * n + 2) (N := L) (by omega) (by omega)) dz_1072 ?_
  refine ow_topi (y := x2) ((congrArg xs (nI_clamp (by omega))).trans e2) ?_
  refine lv_aload_n hx hb dz_1073 rfl (lv_at hl 3 rfl) ?_
  obtain ⟨v2, zc1, hcq, hq⟩ := tw_cl1 hq
  refine lx_wrap hM (vx_runSX (As := [.ref (u 0), .int x1, .int x2, .ref (u 52001)]) (rest := []) ⟨hx, hb, hml, hown, hts⟩ (kl_L_conway l D q vl u hM.2.2.1.1 hG.1 sa K 0 x1 x2 (by unfold cw_X11 ci_X11; exact List.mem_singleton.mpr rfl) zc zc1 v2 hcq) (vx_cwSW 4 hts (lx_gS (lx_all wLL_good rfl) (lx_mem hL1 (hZ _ zq_164)) (hZ _ zq_165) (hZ _ zq_166) (hZ _ zq_3) rfl rfl rfl) rfl rfl rfl (by decide +kernel) ⟨(Nat.le_of_ble_eq_true rfl), (Nat.le_of_ble_eq_true rfl)⟩) (lx_preL hG hM) rfl rfl hl.1 rfl (lv_room (Nat.le_of_ble_eq_true rfl)) dz_1074 ⟨(by show _ ≤ 601024; omega), (by show _ ≤ 7293033; omega)⟩) (fun H locs hM => ?_)
  refine lv_istore (lv' := [(5, .int v2), (0, .ref b), (1, .ref (u 0)), (2, .ref (w 0)), (3, .ref (u 52001)), (4, .int (nI (6 * n)))]) hx hb dz_1077 hl (by decide) rfl (fun ls hl => ?_)
  refine lv_aload_n hx hb dz_1079 rfl (lv_at hl 3 rfl) ?_
  refine lv_aload_n hx hb dz_1080 rfl (lv_at hl 1 rfl) ?_
  refine lv_iload hx hb dz_1081 (lv_at hl 5 rfl) ?_
  refine lv_iconst (v := 1) hx hb dz_1083 (by decide) ?_
  refine lv_iadd hx hb dz_1084 ?_
  refine ow_topi (y := nI (6 * n + 1)) (nI_add (6 * n) 1) ?_
  refine va_sld hx hb hX hbl hbA hM.2.2.2.2.2 (vp_in_nI (n := 6 * n + 1) (N := L) (by omega) (by omega)) dz_1085 ?_
  refine ow_topi (y := x1) ((congrArg xs (nI_clamp (by omega))).trans e1) ?_
  refine lv_aload_n hx hb dz_1086 rfl (lv_at hl 1 rfl) ?_
  refine lv_iload hx hb dz_1087 (lv_at hl 5 rfl) ?_
  refine lv_iconst (v := 2) hx hb dz_1089 (by decide) ?_
  refine lv_iadd hx hb dz_1090 ?_
  refine ow_topi (y := nI (6 * n + 2)) (nI_add (6 * n) 2) ?_
  refine va_sld hx hb hX hbl hbA hM.2.2.2.2.2 (vp_in_nI (n := 6 * n + 2) (N := L) (by omega) (by omega)) dz_1091 ?_
  refine ow_topi (y := x2) ((congrArg xs (nI_clamp (by omega))).trans e2) ?_
  obtain ⟨v4, zm3, hcq, hq⟩ := tw_cl1 hq
  refine lx_refi hM (va_runV (As := [.int x1, .int x2]) (rest := []) ⟨hx, hb, hml, hown, hts⟩ (km_X13_conway l D q5 w hM.2.2.2.1.1 K x1 x2 zm zm3 v4 hcq) (cwV 2 hts (lx_gV (lx_all wM_good rfl) (lx_mem hM1 (hZ _ zq_167)) (hZ _ zq_168) (hZ _ zq_169) (hZ _ zq_170) (hZ _ zq_8) rfl rfl rfl rfl) rfl rfl rfl cd_X13_conway ⟨(Nat.le_of_ble_eq_true rfl), (Nat.le_of_ble_eq_true rfl)⟩) (lx_preM hG hM) rfl rfl hl.1 rfl (lv_room (Nat.le_of_ble_eq_true rfl)) dz_1092 ⟨(by show _ ≤ 601024; omega), (by show _ ≤ 7293033; omega)⟩) (fun H locs hM => ?_)
  refine lv_istore (lv' := [(6, .int v4), (5, .int v2), (0, .ref b), (1, .ref (u 0)), (2, .ref (w 0)), (3, .ref (u 52001)), (4, .int (nI (6 * n)))]) hx hb dz_1095 hl (by decide) rfl (fun ls hl => ?_)
  refine lv_goto (tgt := 1710) hx hb dz_1097 (by decide) ?_
  exact kk _ _ H locs ls hM (lv_sub hl [2, 3, 4, 5, 6] rfl) hq
theorem dz_1100 : decode cL_law 1100 = .ok (.aload_n 1, 1) := dw_at dwl_9 (p := 20) rfl (by decide +kernel)
theorem dz_1101 : decode cL_law 1101 = .ok (.aload_n 0, 1) := dw_at dwl_9 (p := 21) rfl (by decide +kernel)
theorem dz_1102 : decode cL_law 1102 = .ok (.iload 4, 2) := dw_at dwl_9 (p := 22) rfl (by decide +kernel)
theorem dz_1104 : decode cL_law 1104 = .ok (.iconst 1, 1) := dw_at dwl_9 (p := 24) rfl (by decide +kernel)
theorem dz_1105 : decode cL_law 1105 = .ok (.iadd, 1) := dw_at dwl_9 (p := 25) rfl (by decide +kernel)
theorem dz_1106 : decode cL_law 1106 = .ok (.iaload, 1) := dw_at dwl_9 (p := 26) rfl (by decide +kernel)
theorem dz_1107 : decode cL_law 1107 = .ok (.aload_n 0, 1) := dw_at dwl_9 (p := 27) rfl (by decide +kernel)
theorem dz_1108 : decode cL_law 1108 = .ok (.iload 4, 2) := dw_at dwl_9 (p := 28) rfl (by decide +kernel)
theorem dz_1110 : decode cL_law 1110 = .ok (.iconst 2, 1) := dw_at dwl_9 (p := 30) rfl (by decide +kernel)
theorem dz_1111 : decode cL_law 1111 = .ok (.iadd, 1) := dw_at dwl_9 (p := 31) rfl (by decide +kernel)
theorem dz_1112 : decode cL_law 1112 = .ok (.iaload, 1) := dw_at dwl_9 (p := 32) rfl (by decide +kernel)
theorem dz_1113 : decode cL_law 1113 = .ok (.aload_n 3, 1) := dw_at dwl_9 (p := 33) rfl (by decide +kernel)
theorem dz_1114 : decode cL_law 1114 = .ok (.invokestatic 217, 3) := dw_at dwl_9 (p := 34) rfl (by decide +kernel)
theorem dz_1117 : decode cL_law 1117 = .ok (.istore 5, 2) := dw_at dwl_9 (p := 37) rfl (by decide +kernel)
theorem dz_1119 : decode cL_law 1119 = .ok (.aload_n 2, 1) := dw_at dwl_9 (p := 39) rfl (by decide +kernel)
theorem dz_1120 : decode cL_law 1120 = .ok (.aload_n 0, 1) := dw_at dwl_9 (p := 40) rfl (by decide +kernel)
theorem dz_1121 : decode cL_law 1121 = .ok (.iload 4, 2) := dw_at dwl_9 (p := 41) rfl (by decide +kernel)
theorem dz_1123 : decode cL_law 1123 = .ok (.iconst 1, 1) := dw_at dwl_9 (p := 43) rfl (by decide +kernel)
theorem dz_1124 : decode cL_law 1124 = .ok (.iadd, 1) := dw_at dwl_9 (p := 44) rfl (by decide +kernel)
theorem dz_1125 : decode cL_law 1125 = .ok (.iaload, 1) := dw_at dwl_9 (p := 45) rfl (by decide +kernel)
theorem dz_1126 : decode cL_law 1126 = .ok (.aload_n 0, 1) := dw_at dwl_9 (p := 46) rfl (by decide +kernel)
theorem dz_1127 : decode cL_law 1127 = .ok (.iload 4, 2) := dw_at dwl_9 (p := 47) rfl (by decide +kernel)
theorem dz_1129 : decode cL_law 1129 = .ok (.iconst 2, 1) := dw_at dwl_9 (p := 49) rfl (by decide +kernel)
theorem dz_1130 : decode cL_law 1130 = .ok (.iadd, 1) := dw_at dwl_9 (p := 50) rfl (by decide +kernel)
theorem dz_1131 : decode cL_law 1131 = .ok (.iaload, 1) := dw_at dwl_9 (p := 51) rfl (by decide +kernel)
theorem dz_1132 : decode cL_law 1132 = .ok (.invokevirtual 219, 3) := dw_at dwl_9 (p := 52) rfl (by decide +kernel)
theorem dz_1135 : decode cL_law 1135 = .ok (.istore 6, 2) := dw_at dwl_9 (p := 55) rfl (by decide +kernel)
theorem dz_1137 : decode cL_law 1137 = .ok (.goto 573, 3) := dw_at dwl_9 (p := 57) rfl (by decide +kernel)
def ltp_jones (vl : Nat → Nat) (K : Nat) (x1 : Int32) (x2 : Int32) (x3 : Int32) (x4 : Int32) (x5 : Int32) (zc zm : ow_MS) : Option ow_LwS :=
 cs1 (le_L_jones vl K 0 x1 x2 zc) fun v2 zc1 => cs1 (qe_X13_jones K x1 x2 zm) fun v4 zm3 => some (vl, zc1, zm3)
set_option maxHeartbeats 4000000 in
set_option maxRecDepth 100000 in
theorem lxc_jones {p : Program} {l : Launch} {e : Env} {s : State} {m : MethodId} {args : Array Value} {below : List Frame} {meth : Method} {c : Code} {b L K n : Nat} {xs : Nat → Int32} {D : va_G} {q : Nat → ClassId} {q5 : ow_Q5} {vl u w sa : Nat → Nat} {zc zm : ow_MS} {S1 : ow_LwS} {Ts : List Cond} {Q : State → Prop} {H : Heap} {locs : List Loc} {ls : Array Slot} {cells slots : Nat} (hx : p.tables.exec = Jvm.exec) (hb : c.code = cL_law) (hml : c.maxLocals = 8) (hown : s.vm.findClass RL = some m.cls) (hts : ∀ w ∈ Ts, w.before args s = true) (hX : va_X b L xs s s.heap) (hbl : b < s.heap.size) (hZ : ∀ w ∈ wZ, w ∈ Ts) (hL1 : ∀ w ∈ wLL, w ∈ Ts) (hC1 : ∀ w ∈ wC, w ∈ Ts) (hM1 : ∀ w ∈ wM, w ∈ Ts) (hG : lx_G l s D q q5 sa) (hLn : L ≤ 3072) (hn : 6 * n + 6 ≤ L) (hq : ltp_jones vl K (xs (6 * n + 1)) (xs (6 * n + 2)) (xs (6 * n + 3)) (xs (6 * n + 4)) (xs (6 * n + 5)) zc zm = some S1) (hM : lx_M D q q5 s vl u w zc zm H locs) (hl : lv_has ls 8 [(0, .ref b), (1, .ref (u 0)), (2, .ref (w 0)), (3, .ref (u 52001)), (4, .int (nI (6 * n)))]) (hc : cells + 1 ≤ 601024) (hs : slots + 6 ≤ 7293033) (kk : ∀ (zc1 zm1 : ow_MS) (H1 : Heap) (locs1 : List Loc) (ls1 : Array Slot), lx_M D q q5 s vl u w zc1 zm1 H1 locs1 → lv_has ls1 8 [(0, .ref b), (1, .ref (u 0)), (2, .ref (w 0)), (3, .ref (u 52001)), (4, .int (nI (6 * n)))] → some (vl, zc1, zm1) = some S1 → W p l e room_1 s m args below meth c H1 locs1 (cells + 1) (slots + 6) Q (F0 m 1710 ls1 [])) : W p l e room_1 s m args below meth c H locs cells slots Q (F0 m 1100 ls []) := by
  have hbA : ¬ lx_A s b := Nat.not_le.mpr hbl
  generalize e1 : xs (6 * n + 1) = x1 at hq
  generalize e2 : xs (6 * n + 2) = x2 at hq
  generalize e3 : xs (6 * n + 3) = x3 at hq
  generalize e4 : xs (6 * n + 4) = x4 at hq
  generalize e5 : xs (6 * n + 5) = x5 at hq
  unfold ltp_jones at hq
  refine lv_aload_n hx hb dz_1100 rfl (lv_at hl 1 rfl) ?_
  refine lv_aload_n hx hb dz_1101 rfl (lv_at hl 0 rfl) ?_
  refine lv_iload hx hb dz_1102 (lv_at hl 4 rfl) ?_
  refine lv_iconst (v := 1) hx hb dz_1104 (by decide) ?_
  refine lv_iadd hx hb dz_1105 ?_
  refine ow_topi (y := nI (6 * n + 1)) (nI_add (6 * n) 1) ?_
  refine va_sld hx hb hX hbl hbA hM.2.2.2.2.2 (vp_in_nI (n := 6 * n + 1) (N := L) (by omega) (by omega)) dz_1106 ?_
  refine ow_topi (y := x1) ((congrArg xs (nI_clamp (by omega))).trans e1) ?_
  refine lv_aload_n hx hb dz_1107 rfl (lv_at hl 0 rfl) ?_
  refine lv_iload hx hb dz_1108 (lv_at hl 4 rfl) ?_
  refine lv_iconst (v := 2) hx hb dz_1110 (by decide) ?_
  refine lv_iadd hx hb dz_1111 ?_
  refine ow_topi (y := nI (6 * n + 2)) (nI_add (6 * n) 2) ?_
  refine va_sld hx hb hX hbl hbA hM.2.2.2.2.2 (vp_in_nI (n := 6 * n + 2) (N := L) (by omega) (by omega)) dz_1112 ?_
  refine ow_topi (y := x2) ((congrArg xs (nI_clamp (by omega))).trans e2) ?_
  refine lv_aload_n hx hb dz_1113 rfl (lv_at hl 3 rfl) ?_
  obtain ⟨v2, zc1, hcq, hq⟩ := tw_cl1 hq
  refine lx_wrap hM (vx_runSX (As := [.ref (u 0), .int x1, .int x2, .ref (u 52001)]) (rest := []) ⟨hx, hb, hml, hown, hts⟩ (kl_L_jones l D q vl u hM.2.2.1.1 hG.1 sa K 0 x1 x2 (by unfold cw_X11 ci_X11; exact List.mem_singleton.mpr rfl) zc zc1 v2 hcq) (vx_cwSW 4 hts (lx_gS (lx_all wLL_good rfl) (lx_mem hL1 (hZ _ zq_171)) (hZ _ zq_172) (hZ _ zq_173) (hZ _ zq_3) rfl rfl rfl) rfl rfl rfl (by decide +kernel) ⟨(Nat.le_of_ble_eq_true rfl), (Nat.le_of_ble_eq_true rfl)⟩) (lx_preL hG hM) rfl rfl hl.1 rfl (lv_room (Nat.le_of_ble_eq_true rfl)) dz_1114 ⟨(by show _ ≤ 601024; omega), (by show _ ≤ 7293033; omega)⟩) (fun H locs hM => ?_)
  refine lv_istore (lv' := [(5, .int v2), (0, .ref b), (1, .ref (u 0)), (2, .ref (w 0)), (3, .ref (u 52001)), (4, .int (nI (6 * n)))]) hx hb dz_1117 hl (by decide) rfl (fun ls hl => ?_)
  refine lv_aload_n hx hb dz_1119 rfl (lv_at hl 3 rfl) ?_
  refine lv_aload_n hx hb dz_1120 rfl (lv_at hl 1 rfl) ?_
  refine lv_iload hx hb dz_1121 (lv_at hl 5 rfl) ?_
  refine lv_iconst (v := 1) hx hb dz_1123 (by decide) ?_
  refine lv_iadd hx hb dz_1124 ?_
  refine ow_topi (y := nI (6 * n + 1)) (nI_add (6 * n) 1) ?_
  refine va_sld hx hb hX hbl hbA hM.2.2.2.2.2 (vp_in_nI (n := 6 * n + 1) (N := L) (by omega) (by omega)) dz_1125 ?_
  refine ow_topi (y := x1) ((congrArg xs (nI_clamp (by omega))).trans e1) ?_
  refine lv_aload_n hx hb dz_1126 rfl (lv_at hl 1 rfl) ?_
  refine lv_iload hx hb dz_1127 (lv_at hl 5 rfl) ?_
  refine lv_iconst (v := 2) hx hb dz_1129 (by decide) ?_
  refine lv_iadd hx hb dz_1130 ?_
  refine ow_topi (y := nI (6 * n + 2)) (nI_add (6 * n) 2) ?_
  refine va_sld hx hb hX hbl hbA hM.2.2.2.2.2 (vp_in_nI (n := 6 * n + 2) (N := L) (by omega) (by omega)) dz_1131 ?_
  refine ow_topi (y := x2) ((congrArg xs (nI_clamp (by omega))).trans e2) ?_
  obtain ⟨v4, zm3, hcq, hq⟩ := tw_cl1 hq
  refine lx_refi hM (va_runV (As := [.int x1, .int x2]) (rest := []) ⟨hx, hb, hml, hown, hts⟩ (km_X13_jones l D q5 w hM.2.2.2.1.1 K x1 x2 zm zm3 v4 hcq) (cwV 2 hts (lx_gV (lx_all wM_good rfl) (lx_mem hM1 (hZ _ zq_174)) (hZ _ zq_175) (hZ _ zq_176) (hZ _ zq_177) (hZ _ zq_8) rfl rfl rfl rfl) rfl rfl rfl cd_X13_jones ⟨(Nat.le_of_ble_eq_true rfl), (Nat.le_of_ble_eq_true rfl)⟩) (lx_preM hG hM) rfl rfl hl.1 rfl (lv_room (Nat.le_of_ble_eq_true rfl)) dz_1132 ⟨(by show _ ≤ 601024; omega), (by show _ ≤ 7293033; omega)⟩) (fun H locs hM => ?_)
  refine lv_istore (lv' := [(6, .int v4), (5, .int v2), (0, .ref b), (1, .ref (u 0)), (2, .ref (w 0)), (3, .ref (u 52001)), (4, .int (nI (6 * n)))]) hx hb dz_1135 hl (by decide) rfl (fun ls hl => ?_)
  refine lv_goto (tgt := 1710) hx hb dz_1137 (by decide) ?_
  exact kk _ _ H locs ls hM (lv_sub hl [2, 3, 4, 5, 6] rfl) hq
theorem dz_1140 : decode cL_law 1140 = .ok (.aload_n 1, 1) := dw_at dwl_9 (p := 60) rfl (by decide +kernel)
theorem dz_1141 : decode cL_law 1141 = .ok (.aload_n 0, 1) := dw_at dwl_9 (p := 61) rfl (by decide +kernel)
theorem dz_1142 : decode cL_law 1142 = .ok (.iload 4, 2) := dw_at dwl_9 (p := 62) rfl (by decide +kernel)
theorem dz_1144 : decode cL_law 1144 = .ok (.iconst 1, 1) := dw_at dwl_9 (p := 64) rfl (by decide +kernel)
theorem dz_1145 : decode cL_law 1145 = .ok (.iadd, 1) := dw_at dwl_9 (p := 65) rfl (by decide +kernel)
theorem dz_1146 : decode cL_law 1146 = .ok (.iaload, 1) := dw_at dwl_9 (p := 66) rfl (by decide +kernel)
theorem dz_1147 : decode cL_law 1147 = .ok (.aload_n 3, 1) := dw_at dwl_9 (p := 67) rfl (by decide +kernel)
theorem dz_1148 : decode cL_law 1148 = .ok (.invokestatic 220, 3) := dw_at dwl_9 (p := 68) rfl (by decide +kernel)
theorem dz_1151 : decode cL_law 1151 = .ok (.istore 5, 2) := dw_at dwl_9 (p := 71) rfl (by decide +kernel)
theorem dz_1153 : decode cL_law 1153 = .ok (.aload_n 2, 1) := dw_at dwl_9 (p := 73) rfl (by decide +kernel)
theorem dz_1154 : decode cL_law 1154 = .ok (.aload_n 0, 1) := dw_at dwl_9 (p := 74) rfl (by decide +kernel)
theorem dz_1155 : decode cL_law 1155 = .ok (.iload 4, 2) := dw_at dwl_9 (p := 75) rfl (by decide +kernel)
theorem dz_1157 : decode cL_law 1157 = .ok (.iconst 1, 1) := dw_at dwl_9 (p := 77) rfl (by decide +kernel)
theorem dz_1158 : decode cL_law 1158 = .ok (.iadd, 1) := dw_at dwl_9 (p := 78) rfl (by decide +kernel)
theorem dz_1159 : decode cL_law 1159 = .ok (.iaload, 1) := dw_at dwl_9 (p := 79) rfl (by decide +kernel)
theorem dz_1160 : decode cL_law 1160 = .ok (.invokevirtual 222, 3) := dw_at dwl_9 (p := 80) rfl (by decide +kernel)
theorem dz_1163 : decode cL_law 1163 = .ok (.istore 6, 2) := dw_at dwl_9 (p := 83) rfl (by decide +kernel)
theorem dz_1165 : decode cL_law 1165 = .ok (.goto 545, 3) := dw_at dwl_9 (p := 85) rfl (by decide +kernel)
def ltp_signature (vl : Nat → Nat) (K : Nat) (x1 : Int32) (x2 : Int32) (x3 : Int32) (x4 : Int32) (x5 : Int32) (zc zm : ow_MS) : Option ow_LwS :=
 cs1 (le_L_signature vl K 0 x1 zc) fun v2 zc1 => cs1 (qe_X13_signature K x1 zm) fun v4 zm3 => some (vl, zc1, zm3)
set_option maxHeartbeats 4000000 in
set_option maxRecDepth 100000 in
theorem lxc_signature {p : Program} {l : Launch} {e : Env} {s : State} {m : MethodId} {args : Array Value} {below : List Frame} {meth : Method} {c : Code} {b L K n : Nat} {xs : Nat → Int32} {D : va_G} {q : Nat → ClassId} {q5 : ow_Q5} {vl u w sa : Nat → Nat} {zc zm : ow_MS} {S1 : ow_LwS} {Ts : List Cond} {Q : State → Prop} {H : Heap} {locs : List Loc} {ls : Array Slot} {cells slots : Nat} (hx : p.tables.exec = Jvm.exec) (hb : c.code = cL_law) (hml : c.maxLocals = 8) (hown : s.vm.findClass RL = some m.cls) (hts : ∀ w ∈ Ts, w.before args s = true) (hX : va_X b L xs s s.heap) (hbl : b < s.heap.size) (hZ : ∀ w ∈ wZ, w ∈ Ts) (hL1 : ∀ w ∈ wLL, w ∈ Ts) (hC1 : ∀ w ∈ wC, w ∈ Ts) (hM1 : ∀ w ∈ wM, w ∈ Ts) (hG : lx_G l s D q q5 sa) (hLn : L ≤ 3072) (hn : 6 * n + 6 ≤ L) (hq : ltp_signature vl K (xs (6 * n + 1)) (xs (6 * n + 2)) (xs (6 * n + 3)) (xs (6 * n + 4)) (xs (6 * n + 5)) zc zm = some S1) (hM : lx_M D q q5 s vl u w zc zm H locs) (hl : lv_has ls 8 [(0, .ref b), (1, .ref (u 0)), (2, .ref (w 0)), (3, .ref (u 52001)), (4, .int (nI (6 * n)))]) (hc : cells + 1 ≤ 601024) (hs : slots + 6 ≤ 7293033) (kk : ∀ (zc1 zm1 : ow_MS) (H1 : Heap) (locs1 : List Loc) (ls1 : Array Slot), lx_M D q q5 s vl u w zc1 zm1 H1 locs1 → lv_has ls1 8 [(0, .ref b), (1, .ref (u 0)), (2, .ref (w 0)), (3, .ref (u 52001)), (4, .int (nI (6 * n)))] → some (vl, zc1, zm1) = some S1 → W p l e room_1 s m args below meth c H1 locs1 (cells + 1) (slots + 6) Q (F0 m 1710 ls1 [])) : W p l e room_1 s m args below meth c H locs cells slots Q (F0 m 1140 ls []) := by
  have hbA : ¬ lx_A s b := Nat.not_le.mpr hbl
  generalize e1 : xs (6 * n + 1) = x1 at hq
  generalize e2 : xs (6 * n + 2) = x2 at hq
  generalize e3 : xs (6 * n + 3) = x3 at hq
  generalize e4 : xs (6 * n + 4) = x4 at hq
  generalize e5 : xs (6 * n + 5) = x5 at hq
  unfold ltp_signature at hq
  refine lv_aload_n hx hb dz_1140 rfl (lv_at hl 1 rfl) ?_
  refine lv_aload_n hx hb dz_1141 rfl (lv_at hl 0 rfl) ?_
  refine lv_iload hx hb dz_1142 (lv_at hl 4 rfl) ?_
  refine lv_iconst (v := 1) hx hb dz_1144 (by decide) ?_
  refine lv_iadd hx hb dz_1145 ?_
  refine ow_topi (y := nI (6 * n + 1)) (nI_add (6 * n) 1) ?_
  refine va_sld hx hb hX hbl hbA hM.2.2.2.2.2 (vp_in_nI (n := 6 * n + 1) (N := L) (by omega) (by omega)) dz_1146 ?_
  refine ow_topi (y := x1) ((congrArg xs (nI_clamp (by omega))).trans e1) ?_
  refine lv_aload_n hx hb dz_1147 rfl (lv_at hl 3 rfl) ?_
  obtain ⟨v2, zc1, hcq, hq⟩ := tw_cl1 hq
  refine lx_wrap hM (vx_runSX (As := [.ref (u 0), .int x1, .ref (u 52001)]) (rest := []) ⟨hx, hb, hml, hown, hts⟩ (kl_L_signature l D q vl u hM.2.2.1.1 hG.1 sa K 0 x1 (by unfold cw_X11 ci_X11; exact List.mem_singleton.mpr rfl) zc zc1 v2 hcq) (vx_cwSW 3 hts (lx_gS (lx_all wLL_good rfl) (lx_mem hL1 (hZ _ zq_178)) (hZ _ zq_179) (hZ _ zq_180) (hZ _ zq_3) rfl rfl rfl) rfl rfl rfl (by decide +kernel) ⟨(Nat.le_of_ble_eq_true rfl), (Nat.le_of_ble_eq_true rfl)⟩) (lx_preL hG hM) rfl rfl hl.1 rfl (lv_room (Nat.le_of_ble_eq_true rfl)) dz_1148 ⟨(by show _ ≤ 601024; omega), (by show _ ≤ 7293033; omega)⟩) (fun H locs hM => ?_)
  refine lv_istore (lv' := [(5, .int v2), (0, .ref b), (1, .ref (u 0)), (2, .ref (w 0)), (3, .ref (u 52001)), (4, .int (nI (6 * n)))]) hx hb dz_1151 hl (by decide) rfl (fun ls hl => ?_)
  refine lv_aload_n hx hb dz_1153 rfl (lv_at hl 3 rfl) ?_
  refine lv_aload_n hx hb dz_1154 rfl (lv_at hl 1 rfl) ?_
  refine lv_iload hx hb dz_1155 (lv_at hl 5 rfl) ?_
  refine lv_iconst (v := 1) hx hb dz_1157 (by decide) ?_
  refine lv_iadd hx hb dz_1158 ?_
  refine ow_topi (y := nI (6 * n + 1)) (nI_add (6 * n) 1) ?_
  refine va_sld hx hb hX hbl hbA hM.2.2.2.2.2 (vp_in_nI (n := 6 * n + 1) (N := L) (by omega) (by omega)) dz_1159 ?_
  refine ow_topi (y := x1) ((congrArg xs (nI_clamp (by omega))).trans e1) ?_
  obtain ⟨v4, zm3, hcq, hq⟩ := tw_cl1 hq
  refine lx_refi hM (va_runV (As := [.int x1]) (rest := []) ⟨hx, hb, hml, hown, hts⟩ (km_X13_signature l D q5 w hM.2.2.2.1.1 K x1 zm zm3 v4 hcq) (cwV 1 hts (lx_gV (lx_all wM_good rfl) (lx_mem hM1 (hZ _ zq_181)) (hZ _ zq_182) (hZ _ zq_183) (hZ _ zq_184) (hZ _ zq_8) rfl rfl rfl rfl) rfl rfl rfl cd_X13_signature ⟨(Nat.le_of_ble_eq_true rfl), (Nat.le_of_ble_eq_true rfl)⟩) (lx_preM hG hM) rfl rfl hl.1 rfl (lv_room (Nat.le_of_ble_eq_true rfl)) dz_1160 ⟨(by show _ ≤ 601024; omega), (by show _ ≤ 7293033; omega)⟩) (fun H locs hM => ?_)
  refine lv_istore (lv' := [(6, .int v4), (5, .int v2), (0, .ref b), (1, .ref (u 0)), (2, .ref (w 0)), (3, .ref (u 52001)), (4, .int (nI (6 * n)))]) hx hb dz_1163 hl (by decide) rfl (fun ls hl => ?_)
  refine lv_goto (tgt := 1710) hx hb dz_1165 (by decide) ?_
  exact kk _ _ H locs ls hM (lv_sub hl [2, 3, 4, 5, 6] rfl) hq
theorem dz_1168 : decode cL_law 1168 = .ok (.aload_n 1, 1) := dw_at dwl_9 (p := 88) rfl (by decide +kernel)
theorem dz_1169 : decode cL_law 1169 = .ok (.aload_n 0, 1) := dw_at dwl_9 (p := 89) rfl (by decide +kernel)
theorem dz_1170 : decode cL_law 1170 = .ok (.iload 4, 2) := dw_at dwl_9 (p := 90) rfl (by decide +kernel)
theorem dz_1172 : decode cL_law 1172 = .ok (.iconst 1, 1) := dw_at dwl_9 (p := 92) rfl (by decide +kernel)
theorem dz_1173 : decode cL_law 1173 = .ok (.iadd, 1) := dw_at dwl_9 (p := 93) rfl (by decide +kernel)
theorem dz_1174 : decode cL_law 1174 = .ok (.iaload, 1) := dw_at dwl_9 (p := 94) rfl (by decide +kernel)
theorem dz_1175 : decode cL_law 1175 = .ok (.aload_n 0, 1) := dw_at dwl_9 (p := 95) rfl (by decide +kernel)
theorem dz_1176 : decode cL_law 1176 = .ok (.iload 4, 2) := dw_at dwl_9 (p := 96) rfl (by decide +kernel)
theorem dz_1178 : decode cL_law 1178 = .ok (.iconst 2, 1) := dw_at dwl_9 (p := 98) rfl (by decide +kernel)
theorem dz_1179 : decode cL_law 1179 = .ok (.iadd, 1) := dw_at dwl_9 (p := 99) rfl (by decide +kernel)
theorem dz_1180 : decode cL_law 1180 = .ok (.iaload, 1) := dw_at dwl_9 (p := 100) rfl (by decide +kernel)
theorem dz_1181 : decode cL_law 1181 = .ok (.aload_n 3, 1) := dw_at dwl_9 (p := 101) rfl (by decide +kernel)
theorem dz_1182 : decode cL_law 1182 = .ok (.invokestatic 223, 3) := dw_at dwl_9 (p := 102) rfl (by decide +kernel)
theorem dz_1185 : decode cL_law 1185 = .ok (.istore 5, 2) := dw_at dwl_9 (p := 105) rfl (by decide +kernel)
theorem dz_1187 : decode cL_law 1187 = .ok (.aload_n 2, 1) := dw_at dwl_9 (p := 107) rfl (by decide +kernel)
theorem dz_1188 : decode cL_law 1188 = .ok (.aload_n 0, 1) := dw_at dwl_9 (p := 108) rfl (by decide +kernel)
theorem dz_1189 : decode cL_law 1189 = .ok (.iload 4, 2) := dw_at dwl_9 (p := 109) rfl (by decide +kernel)
theorem dz_1191 : decode cL_law 1191 = .ok (.iconst 1, 1) := dw_at dwl_9 (p := 111) rfl (by decide +kernel)
theorem dz_1192 : decode cL_law 1192 = .ok (.iadd, 1) := dw_at dwl_9 (p := 112) rfl (by decide +kernel)
theorem dz_1193 : decode cL_law 1193 = .ok (.iaload, 1) := dw_at dwl_9 (p := 113) rfl (by decide +kernel)
theorem dz_1194 : decode cL_law 1194 = .ok (.aload_n 0, 1) := dw_at dwl_9 (p := 114) rfl (by decide +kernel)
theorem dz_1195 : decode cL_law 1195 = .ok (.iload 4, 2) := dw_at dwl_9 (p := 115) rfl (by decide +kernel)
theorem dz_1197 : decode cL_law 1197 = .ok (.iconst 2, 1) := dw_at dwl_9 (p := 117) rfl (by decide +kernel)
theorem dz_1198 : decode cL_law 1198 = .ok (.iadd, 1) := dw_at dwl_9 (p := 118) rfl (by decide +kernel)
theorem dz_1199 : decode cL_law 1199 = .ok (.iaload, 1) := dw_at dwl_9 (p := 119) rfl (by decide +kernel)
theorem dz_1200 : decode cL_law 1200 = .ok (.invokevirtual 225, 3) := dw_at dwl_10 (p := 0) rfl (by decide +kernel)
theorem dz_1203 : decode cL_law 1203 = .ok (.istore 6, 2) := dw_at dwl_10 (p := 3) rfl (by decide +kernel)
theorem dz_1205 : decode cL_law 1205 = .ok (.goto 505, 3) := dw_at dwl_10 (p := 5) rfl (by decide +kernel)
def ltp_cover (vl : Nat → Nat) (K : Nat) (x1 : Int32) (x2 : Int32) (x3 : Int32) (x4 : Int32) (x5 : Int32) (zc zm : ow_MS) : Option ow_LwS :=
 cs1 (le_L_cover vl K 0 x1 x2 zc) fun v2 zc1 => cs1 (qe_X13_cover K x1 x2 zm) fun v4 zm3 => some (vl, zc1, zm3)
set_option maxHeartbeats 4000000 in
set_option maxRecDepth 100000 in
theorem lxc_cover {p : Program} {l : Launch} {e : Env} {s : State} {m : MethodId} {args : Array Value} {below : List Frame} {meth : Method} {c : Code} {b L K n : Nat} {xs : Nat → Int32} {D : va_G} {q : Nat → ClassId} {q5 : ow_Q5} {vl u w sa : Nat → Nat} {zc zm : ow_MS} {S1 : ow_LwS} {Ts : List Cond} {Q : State → Prop} {H : Heap} {locs : List Loc} {ls : Array Slot} {cells slots : Nat} (hx : p.tables.exec = Jvm.exec) (hb : c.code = cL_law) (hml : c.maxLocals = 8) (hown : s.vm.findClass RL = some m.cls) (hts : ∀ w ∈ Ts, w.before args s = true) (hX : va_X b L xs s s.heap) (hbl : b < s.heap.size) (hZ : ∀ w ∈ wZ, w ∈ Ts) (hL1 : ∀ w ∈ wLL, w ∈ Ts) (hC1 : ∀ w ∈ wC, w ∈ Ts) (hM1 : ∀ w ∈ wM, w ∈ Ts) (hG : lx_G l s D q q5 sa) (hLn : L ≤ 3072) (hn : 6 * n + 6 ≤ L) (hq : ltp_cover vl K (xs (6 * n + 1)) (xs (6 * n + 2)) (xs (6 * n + 3)) (xs (6 * n + 4)) (xs (6 * n + 5)) zc zm = some S1) (hM : lx_M D q q5 s vl u w zc zm H locs) (hl : lv_has ls 8 [(0, .ref b), (1, .ref (u 0)), (2, .ref (w 0)), (3, .ref (u 52001)), (4, .int (nI (6 * n)))]) (hc : cells + 1 ≤ 601024) (hs : slots + 6 ≤ 7293033) (kk : ∀ (zc1 zm1 : ow_MS) (H1 : Heap) (locs1 : List Loc) (ls1 : Array Slot), lx_M D q q5 s vl u w zc1 zm1 H1 locs1 → lv_has ls1 8 [(0, .ref b), (1, .ref (u 0)), (2, .ref (w 0)), (3, .ref (u 52001)), (4, .int (nI (6 * n)))] → some (vl, zc1, zm1) = some S1 → W p l e room_1 s m args below meth c H1 locs1 (cells + 1) (slots + 6) Q (F0 m 1710 ls1 [])) : W p l e room_1 s m args below meth c H locs cells slots Q (F0 m 1168 ls []) := by
  have hbA : ¬ lx_A s b := Nat.not_le.mpr hbl
  generalize e1 : xs (6 * n + 1) = x1 at hq
  generalize e2 : xs (6 * n + 2) = x2 at hq
  generalize e3 : xs (6 * n + 3) = x3 at hq
  generalize e4 : xs (6 * n + 4) = x4 at hq
  generalize e5 : xs (6 * n + 5) = x5 at hq
  unfold ltp_cover at hq
  refine lv_aload_n hx hb dz_1168 rfl (lv_at hl 1 rfl) ?_
  refine lv_aload_n hx hb dz_1169 rfl (lv_at hl 0 rfl) ?_
  refine lv_iload hx hb dz_1170 (lv_at hl 4 rfl) ?_
  refine lv_iconst (v := 1) hx hb dz_1172 (by decide) ?_
  refine lv_iadd hx hb dz_1173 ?_
  refine ow_topi (y := nI (6 * n + 1)) (nI_add (6 * n) 1) ?_
  refine va_sld hx hb hX hbl hbA hM.2.2.2.2.2 (vp_in_nI (n := 6 * n + 1) (N := L) (by omega) (by omega)) dz_1174 ?_
  refine ow_topi (y := x1) ((congrArg xs (nI_clamp (by omega))).trans e1) ?_
  refine lv_aload_n hx hb dz_1175 rfl (lv_at hl 0 rfl) ?_
  refine lv_iload hx hb dz_1176 (lv_at hl 4 rfl) ?_
  refine lv_iconst (v := 2) hx hb dz_1178 (by decide) ?_
  refine lv_iadd hx hb dz_1179 ?_
  refine ow_topi (y := nI (6 * n + 2)) (nI_add (6 * n) 2) ?_
  refine va_sld hx hb hX hbl hbA hM.2.2.2.2.2 (vp_in_nI (n := 6 * n + 2) (N := L) (by omega) (by omega)) dz_1180 ?_
  refine ow_topi (y := x2) ((congrArg xs (nI_clamp (by omega))).trans e2) ?_
  refine lv_aload_n hx hb dz_1181 rfl (lv_at hl 3 rfl) ?_
  obtain ⟨v2, zc1, hcq, hq⟩ := tw_cl1 hq
  refine lx_wrap hM (vx_runSX (As := [.ref (u 0), .int x1, .int x2, .ref (u 52001)]) (rest := []) ⟨hx, hb, hml, hown, hts⟩ (kl_L_cover l D q vl u hM.2.2.1.1 hG.1 sa K 0 x1 x2 (by unfold cw_X11 ci_X11; exact List.mem_singleton.mpr rfl) zc zc1 v2 hcq) (vx_cwSW 4 hts (lx_gS (lx_all wLL_good rfl) (lx_mem hL1 (hZ _ zq_185)) (hZ _ zq_186) (hZ _ zq_187) (hZ _ zq_3) rfl rfl rfl) rfl rfl rfl (by decide +kernel) ⟨(Nat.le_of_ble_eq_true rfl), (Nat.le_of_ble_eq_true rfl)⟩) (lx_preL hG hM) rfl rfl hl.1 rfl (lv_room (Nat.le_of_ble_eq_true rfl)) dz_1182 ⟨(by show _ ≤ 601024; omega), (by show _ ≤ 7293033; omega)⟩) (fun H locs hM => ?_)
  refine lv_istore (lv' := [(5, .int v2), (0, .ref b), (1, .ref (u 0)), (2, .ref (w 0)), (3, .ref (u 52001)), (4, .int (nI (6 * n)))]) hx hb dz_1185 hl (by decide) rfl (fun ls hl => ?_)
  refine lv_aload_n hx hb dz_1187 rfl (lv_at hl 3 rfl) ?_
  refine lv_aload_n hx hb dz_1188 rfl (lv_at hl 1 rfl) ?_
  refine lv_iload hx hb dz_1189 (lv_at hl 5 rfl) ?_
  refine lv_iconst (v := 1) hx hb dz_1191 (by decide) ?_
  refine lv_iadd hx hb dz_1192 ?_
  refine ow_topi (y := nI (6 * n + 1)) (nI_add (6 * n) 1) ?_
  refine va_sld hx hb hX hbl hbA hM.2.2.2.2.2 (vp_in_nI (n := 6 * n + 1) (N := L) (by omega) (by omega)) dz_1193 ?_
  refine ow_topi (y := x1) ((congrArg xs (nI_clamp (by omega))).trans e1) ?_
  refine lv_aload_n hx hb dz_1194 rfl (lv_at hl 1 rfl) ?_
  refine lv_iload hx hb dz_1195 (lv_at hl 5 rfl) ?_
  refine lv_iconst (v := 2) hx hb dz_1197 (by decide) ?_
  refine lv_iadd hx hb dz_1198 ?_
  refine ow_topi (y := nI (6 * n + 2)) (nI_add (6 * n) 2) ?_
  refine va_sld hx hb hX hbl hbA hM.2.2.2.2.2 (vp_in_nI (n := 6 * n + 2) (N := L) (by omega) (by omega)) dz_1199 ?_
  refine ow_topi (y := x2) ((congrArg xs (nI_clamp (by omega))).trans e2) ?_
  obtain ⟨v4, zm3, hcq, hq⟩ := tw_cl1 hq
  refine lx_refi hM (va_runV (As := [.int x1, .int x2]) (rest := []) ⟨hx, hb, hml, hown, hts⟩ (km_X13_cover l D q5 w hM.2.2.2.1.1 K x1 x2 zm zm3 v4 hcq) (cwV 2 hts (lx_gV (lx_all wM_good rfl) (lx_mem hM1 (hZ _ zq_188)) (hZ _ zq_189) (hZ _ zq_190) (hZ _ zq_191) (hZ _ zq_8) rfl rfl rfl rfl) rfl rfl rfl cd_X13_cover ⟨(Nat.le_of_ble_eq_true rfl), (Nat.le_of_ble_eq_true rfl)⟩) (lx_preM hG hM) rfl rfl hl.1 rfl (lv_room (Nat.le_of_ble_eq_true rfl)) dz_1200 ⟨(by show _ ≤ 601024; omega), (by show _ ≤ 7293033; omega)⟩) (fun H locs hM => ?_)
  refine lv_istore (lv' := [(6, .int v4), (5, .int v2), (0, .ref b), (1, .ref (u 0)), (2, .ref (w 0)), (3, .ref (u 52001)), (4, .int (nI (6 * n)))]) hx hb dz_1203 hl (by decide) rfl (fun ls hl => ?_)
  refine lv_goto (tgt := 1710) hx hb dz_1205 (by decide) ?_
  exact kk _ _ H locs ls hM (lv_sub hl [2, 3, 4, 5, 6] rfl) hq
theorem dz_1208 : decode cL_law 1208 = .ok (.aload_n 1, 1) := dw_at dwl_10 (p := 8) rfl (by decide +kernel)
theorem dz_1209 : decode cL_law 1209 = .ok (.aload_n 0, 1) := dw_at dwl_10 (p := 9) rfl (by decide +kernel)
theorem dz_1210 : decode cL_law 1210 = .ok (.iload 4, 2) := dw_at dwl_10 (p := 10) rfl (by decide +kernel)
theorem dz_1212 : decode cL_law 1212 = .ok (.iconst 1, 1) := dw_at dwl_10 (p := 12) rfl (by decide +kernel)
theorem dz_1213 : decode cL_law 1213 = .ok (.iadd, 1) := dw_at dwl_10 (p := 13) rfl (by decide +kernel)
theorem dz_1214 : decode cL_law 1214 = .ok (.iaload, 1) := dw_at dwl_10 (p := 14) rfl (by decide +kernel)
theorem dz_1215 : decode cL_law 1215 = .ok (.aload_n 0, 1) := dw_at dwl_10 (p := 15) rfl (by decide +kernel)
theorem dz_1216 : decode cL_law 1216 = .ok (.iload 4, 2) := dw_at dwl_10 (p := 16) rfl (by decide +kernel)
theorem dz_1218 : decode cL_law 1218 = .ok (.iconst 2, 1) := dw_at dwl_10 (p := 18) rfl (by decide +kernel)
theorem dz_1219 : decode cL_law 1219 = .ok (.iadd, 1) := dw_at dwl_10 (p := 19) rfl (by decide +kernel)
theorem dz_1220 : decode cL_law 1220 = .ok (.iaload, 1) := dw_at dwl_10 (p := 20) rfl (by decide +kernel)
theorem dz_1221 : decode cL_law 1221 = .ok (.aload_n 3, 1) := dw_at dwl_10 (p := 21) rfl (by decide +kernel)
theorem dz_1222 : decode cL_law 1222 = .ok (.invokestatic 226, 3) := dw_at dwl_10 (p := 22) rfl (by decide +kernel)
theorem dz_1225 : decode cL_law 1225 = .ok (.istore 5, 2) := dw_at dwl_10 (p := 25) rfl (by decide +kernel)
theorem dz_1227 : decode cL_law 1227 = .ok (.aload_n 2, 1) := dw_at dwl_10 (p := 27) rfl (by decide +kernel)
theorem dz_1228 : decode cL_law 1228 = .ok (.aload_n 0, 1) := dw_at dwl_10 (p := 28) rfl (by decide +kernel)
theorem dz_1229 : decode cL_law 1229 = .ok (.iload 4, 2) := dw_at dwl_10 (p := 29) rfl (by decide +kernel)
theorem dz_1231 : decode cL_law 1231 = .ok (.iconst 1, 1) := dw_at dwl_10 (p := 31) rfl (by decide +kernel)
theorem dz_1232 : decode cL_law 1232 = .ok (.iadd, 1) := dw_at dwl_10 (p := 32) rfl (by decide +kernel)
theorem dz_1233 : decode cL_law 1233 = .ok (.iaload, 1) := dw_at dwl_10 (p := 33) rfl (by decide +kernel)
theorem dz_1234 : decode cL_law 1234 = .ok (.aload_n 0, 1) := dw_at dwl_10 (p := 34) rfl (by decide +kernel)
theorem dz_1235 : decode cL_law 1235 = .ok (.iload 4, 2) := dw_at dwl_10 (p := 35) rfl (by decide +kernel)
theorem dz_1237 : decode cL_law 1237 = .ok (.iconst 2, 1) := dw_at dwl_10 (p := 37) rfl (by decide +kernel)
theorem dz_1238 : decode cL_law 1238 = .ok (.iadd, 1) := dw_at dwl_10 (p := 38) rfl (by decide +kernel)
theorem dz_1239 : decode cL_law 1239 = .ok (.iaload, 1) := dw_at dwl_10 (p := 39) rfl (by decide +kernel)
theorem dz_1240 : decode cL_law 1240 = .ok (.invokevirtual 228, 3) := dw_at dwl_10 (p := 40) rfl (by decide +kernel)
theorem dz_1243 : decode cL_law 1243 = .ok (.lstore 6, 2) := dw_at dwl_10 (p := 43) rfl (by decide +kernel)
theorem dz_1245 : decode cL_law 1245 = .ok (.goto 465, 3) := dw_at dwl_10 (p := 45) rfl (by decide +kernel)
def ltp_colours (vl : Nat → Nat) (K : Nat) (x1 : Int32) (x2 : Int32) (x3 : Int32) (x4 : Int32) (x5 : Int32) (zc zm : ow_MS) : Option ow_LwS :=
 cs1 (le_L_colours vl K 0 x1 x2 zc) fun v2 zc1 => cs1 (qe_X13_colours K x1 x2 zm) fun v4 zm3 => some (vl, zc1, zm3)
set_option maxHeartbeats 4000000 in
set_option maxRecDepth 100000 in
theorem lxc_colours {p : Program} {l : Launch} {e : Env} {s : State} {m : MethodId} {args : Array Value} {below : List Frame} {meth : Method} {c : Code} {b L K n : Nat} {xs : Nat → Int32} {D : va_G} {q : Nat → ClassId} {q5 : ow_Q5} {vl u w sa : Nat → Nat} {zc zm : ow_MS} {S1 : ow_LwS} {Ts : List Cond} {Q : State → Prop} {H : Heap} {locs : List Loc} {ls : Array Slot} {cells slots : Nat} (hx : p.tables.exec = Jvm.exec) (hb : c.code = cL_law) (hml : c.maxLocals = 8) (hown : s.vm.findClass RL = some m.cls) (hts : ∀ w ∈ Ts, w.before args s = true) (hX : va_X b L xs s s.heap) (hbl : b < s.heap.size) (hZ : ∀ w ∈ wZ, w ∈ Ts) (hL1 : ∀ w ∈ wLL, w ∈ Ts) (hC1 : ∀ w ∈ wC, w ∈ Ts) (hM1 : ∀ w ∈ wM, w ∈ Ts) (hG : lx_G l s D q q5 sa) (hLn : L ≤ 3072) (hn : 6 * n + 6 ≤ L) (hq : ltp_colours vl K (xs (6 * n + 1)) (xs (6 * n + 2)) (xs (6 * n + 3)) (xs (6 * n + 4)) (xs (6 * n + 5)) zc zm = some S1) (hM : lx_M D q q5 s vl u w zc zm H locs) (hl : lv_has ls 8 [(0, .ref b), (1, .ref (u 0)), (2, .ref (w 0)), (3, .ref (u 52001)), (4, .int (nI (6 * n)))]) (hc : cells + 2 ≤ 601024) (hs : slots + 12 ≤ 7293033) (kk : ∀ (zc1 zm1 : ow_MS) (H1 : Heap) (locs1 : List Loc) (ls1 : Array Slot), lx_M D q q5 s vl u w zc1 zm1 H1 locs1 → lv_has ls1 8 [(0, .ref b), (1, .ref (u 0)), (2, .ref (w 0)), (3, .ref (u 52001)), (4, .int (nI (6 * n)))] → some (vl, zc1, zm1) = some S1 → W p l e room_1 s m args below meth c H1 locs1 (cells + 2) (slots + 12) Q (F0 m 1710 ls1 [])) : W p l e room_1 s m args below meth c H locs cells slots Q (F0 m 1208 ls []) := by
  have hbA : ¬ lx_A s b := Nat.not_le.mpr hbl
  generalize e1 : xs (6 * n + 1) = x1 at hq
  generalize e2 : xs (6 * n + 2) = x2 at hq
  generalize e3 : xs (6 * n + 3) = x3 at hq
  generalize e4 : xs (6 * n + 4) = x4 at hq
  generalize e5 : xs (6 * n + 5) = x5 at hq
  unfold ltp_colours at hq
  refine lv_aload_n hx hb dz_1208 rfl (lv_at hl 1 rfl) ?_
  refine lv_aload_n hx hb dz_1209 rfl (lv_at hl 0 rfl) ?_
  refine lv_iload hx hb dz_1210 (lv_at hl 4 rfl) ?_
  refine lv_iconst (v := 1) hx hb dz_1212 (by decide) ?_
  refine lv_iadd hx hb dz_1213 ?_
  refine ow_topi (y := nI (6 * n + 1)) (nI_add (6 * n) 1) ?_
  refine va_sld hx hb hX hbl hbA hM.2.2.2.2.2 (vp_in_nI (n := 6 * n + 1) (N := L) (by omega) (by omega)) dz_1214 ?_
  refine ow_topi (y := x1) ((congrArg xs (nI_clamp (by omega))).trans e1) ?_
  refine lv_aload_n hx hb dz_1215 rfl (lv_at hl 0 rfl) ?_
  refine lv_iload hx hb dz_1216 (lv_at hl 4 rfl) ?_
  refine lv_iconst (v := 2) hx hb dz_1218 (by decide) ?_
  refine lv_iadd hx hb dz_1219 ?_
  refine ow_topi (y := nI (6 * n + 2)) (nI_add (6 * n) 2) ?_
  refine va_sld hx hb hX hbl hbA hM.2.2.2.2.2 (vp_in_nI (n := 6 * n + 2) (N := L) (by omega) (by omega)) dz_1220 ?_
  refine ow_topi (y := x2) ((congrArg xs (nI_clamp (by omega))).trans e2) ?_
  refine lv_aload_n hx hb dz_1221 rfl (lv_at hl 3 rfl) ?_
  obtain ⟨v2, zc1, hcq, hq⟩ := tw_cl1 hq
  refine lx_wrap hM (vx_runSX (As := [.ref (u 0), .int x1, .int x2, .ref (u 52001)]) (rest := []) ⟨hx, hb, hml, hown, hts⟩ (kl_L_colours l D q vl u hM.2.2.1.1 hG.1 sa K 0 x1 x2 (by unfold cw_X11 ci_X11; exact List.mem_singleton.mpr rfl) zc zc1 v2 hcq) (vx_cwSW 4 hts (lx_gS (lx_all wLL_good rfl) (lx_mem hL1 (hZ _ zq_192)) (hZ _ zq_193) (hZ _ zq_194) (hZ _ zq_3) rfl rfl rfl) rfl rfl rfl (by decide +kernel) ⟨(Nat.le_of_ble_eq_true rfl), (Nat.le_of_ble_eq_true rfl)⟩) (lx_preL hG hM) rfl rfl hl.1 rfl (lv_room (Nat.le_of_ble_eq_true rfl)) dz_1222 ⟨(by show _ ≤ 601024; omega), (by show _ ≤ 7293033; omega)⟩) (fun H locs hM => ?_)
  refine lv_istore (lv' := [(5, .int v2), (0, .ref b), (1, .ref (u 0)), (2, .ref (w 0)), (3, .ref (u 52001)), (4, .int (nI (6 * n)))]) hx hb dz_1225 hl (by decide) rfl (fun ls hl => ?_)
  refine lv_aload_n hx hb dz_1227 rfl (lv_at hl 3 rfl) ?_
  refine lv_aload_n hx hb dz_1228 rfl (lv_at hl 1 rfl) ?_
  refine lv_iload hx hb dz_1229 (lv_at hl 5 rfl) ?_
  refine lv_iconst (v := 1) hx hb dz_1231 (by decide) ?_
  refine lv_iadd hx hb dz_1232 ?_
  refine ow_topi (y := nI (6 * n + 1)) (nI_add (6 * n) 1) ?_
  refine va_sld hx hb hX hbl hbA hM.2.2.2.2.2 (vp_in_nI (n := 6 * n + 1) (N := L) (by omega) (by omega)) dz_1233 ?_
  refine ow_topi (y := x1) ((congrArg xs (nI_clamp (by omega))).trans e1) ?_
  refine lv_aload_n hx hb dz_1234 rfl (lv_at hl 1 rfl) ?_
  refine lv_iload hx hb dz_1235 (lv_at hl 5 rfl) ?_
  refine lv_iconst (v := 2) hx hb dz_1237 (by decide) ?_
  refine lv_iadd hx hb dz_1238 ?_
  refine ow_topi (y := nI (6 * n + 2)) (nI_add (6 * n) 2) ?_
  refine va_sld hx hb hX hbl hbA hM.2.2.2.2.2 (vp_in_nI (n := 6 * n + 2) (N := L) (by omega) (by omega)) dz_1239 ?_
  refine ow_topi (y := x2) ((congrArg xs (nI_clamp (by omega))).trans e2) ?_
  obtain ⟨v4, zm3, hcq, hq⟩ := tw_cl1 hq
  refine lx_refl hM (va_runV (As := [.int x1, .int x2]) (rest := []) ⟨hx, hb, hml, hown, hts⟩ (km_X13_colours l D q5 w hM.2.2.2.1.1 K x1 x2 zm zm3 v4 hcq) (cwV 2 hts (lx_gV (lx_all wM_good rfl) (lx_mem hM1 (hZ _ zq_195)) (hZ _ zq_196) (hZ _ zq_197) (hZ _ zq_198) (hZ _ zq_8) rfl rfl rfl rfl) rfl rfl rfl cd_X13_colours ⟨(Nat.le_of_ble_eq_true rfl), (Nat.le_of_ble_eq_true rfl)⟩) (lx_preM hG hM) rfl rfl hl.1 rfl (lv_room (Nat.le_of_ble_eq_true rfl)) dz_1240 ⟨(by show _ ≤ 601024; omega), (by show _ ≤ 7293033; omega)⟩) (fun H locs hM => ?_)
  refine lv_lstore (lv' := [(6, .long v4), (5, .int v2), (0, .ref b), (1, .ref (u 0)), (2, .ref (w 0)), (3, .ref (u 52001)), (4, .int (nI (6 * n)))]) hx hb dz_1243 hl (by decide) rfl (fun ls hl => ?_)
  refine lv_goto (tgt := 1710) hx hb dz_1245 (by decide) ?_
  exact kk _ _ H locs ls hM (lv_sub hl [2, 3, 4, 5, 6] rfl) hq
theorem dz_1248 : decode cL_law 1248 = .ok (.aload_n 1, 1) := dw_at dwl_10 (p := 48) rfl (by decide +kernel)
theorem dz_1249 : decode cL_law 1249 = .ok (.aload_n 0, 1) := dw_at dwl_10 (p := 49) rfl (by decide +kernel)
theorem dz_1250 : decode cL_law 1250 = .ok (.iload 4, 2) := dw_at dwl_10 (p := 50) rfl (by decide +kernel)
theorem dz_1252 : decode cL_law 1252 = .ok (.iconst 1, 1) := dw_at dwl_10 (p := 52) rfl (by decide +kernel)
theorem dz_1253 : decode cL_law 1253 = .ok (.iadd, 1) := dw_at dwl_10 (p := 53) rfl (by decide +kernel)
theorem dz_1254 : decode cL_law 1254 = .ok (.iaload, 1) := dw_at dwl_10 (p := 54) rfl (by decide +kernel)
theorem dz_1255 : decode cL_law 1255 = .ok (.aload_n 0, 1) := dw_at dwl_10 (p := 55) rfl (by decide +kernel)
theorem dz_1256 : decode cL_law 1256 = .ok (.iload 4, 2) := dw_at dwl_10 (p := 56) rfl (by decide +kernel)
theorem dz_1258 : decode cL_law 1258 = .ok (.iconst 2, 1) := dw_at dwl_10 (p := 58) rfl (by decide +kernel)
theorem dz_1259 : decode cL_law 1259 = .ok (.iadd, 1) := dw_at dwl_10 (p := 59) rfl (by decide +kernel)
theorem dz_1260 : decode cL_law 1260 = .ok (.iaload, 1) := dw_at dwl_10 (p := 60) rfl (by decide +kernel)
theorem dz_1261 : decode cL_law 1261 = .ok (.aload_n 3, 1) := dw_at dwl_10 (p := 61) rfl (by decide +kernel)
theorem dz_1262 : decode cL_law 1262 = .ok (.invokestatic 229, 3) := dw_at dwl_10 (p := 62) rfl (by decide +kernel)
theorem dz_1265 : decode cL_law 1265 = .ok (.istore 5, 2) := dw_at dwl_10 (p := 65) rfl (by decide +kernel)
theorem dz_1267 : decode cL_law 1267 = .ok (.aload_n 2, 1) := dw_at dwl_10 (p := 67) rfl (by decide +kernel)
theorem dz_1268 : decode cL_law 1268 = .ok (.aload_n 0, 1) := dw_at dwl_10 (p := 68) rfl (by decide +kernel)
theorem dz_1269 : decode cL_law 1269 = .ok (.iload 4, 2) := dw_at dwl_10 (p := 69) rfl (by decide +kernel)
theorem dz_1271 : decode cL_law 1271 = .ok (.iconst 1, 1) := dw_at dwl_10 (p := 71) rfl (by decide +kernel)
theorem dz_1272 : decode cL_law 1272 = .ok (.iadd, 1) := dw_at dwl_10 (p := 72) rfl (by decide +kernel)
theorem dz_1273 : decode cL_law 1273 = .ok (.iaload, 1) := dw_at dwl_10 (p := 73) rfl (by decide +kernel)
theorem dz_1274 : decode cL_law 1274 = .ok (.aload_n 0, 1) := dw_at dwl_10 (p := 74) rfl (by decide +kernel)
theorem dz_1275 : decode cL_law 1275 = .ok (.iload 4, 2) := dw_at dwl_10 (p := 75) rfl (by decide +kernel)
theorem dz_1277 : decode cL_law 1277 = .ok (.iconst 2, 1) := dw_at dwl_10 (p := 77) rfl (by decide +kernel)
theorem dz_1278 : decode cL_law 1278 = .ok (.iadd, 1) := dw_at dwl_10 (p := 78) rfl (by decide +kernel)
theorem dz_1279 : decode cL_law 1279 = .ok (.iaload, 1) := dw_at dwl_10 (p := 79) rfl (by decide +kernel)
theorem dz_1280 : decode cL_law 1280 = .ok (.invokevirtual 231, 3) := dw_at dwl_10 (p := 80) rfl (by decide +kernel)
theorem dz_1283 : decode cL_law 1283 = .ok (.istore 6, 2) := dw_at dwl_10 (p := 83) rfl (by decide +kernel)
theorem dz_1285 : decode cL_law 1285 = .ok (.goto 425, 3) := dw_at dwl_10 (p := 85) rfl (by decide +kernel)
def ltp_maps (vl : Nat → Nat) (K : Nat) (x1 : Int32) (x2 : Int32) (x3 : Int32) (x4 : Int32) (x5 : Int32) (zc zm : ow_MS) : Option ow_LwS :=
 cs1 (le_L_maps vl K 0 x1 x2 zc) fun v2 zc1 => cs1 (qe_X13_maps K x1 x2 zm) fun v4 zm3 => some (vl, zc1, zm3)
set_option maxHeartbeats 4000000 in
set_option maxRecDepth 100000 in
theorem lxc_maps {p : Program} {l : Launch} {e : Env} {s : State} {m : MethodId} {args : Array Value} {below : List Frame} {meth : Method} {c : Code} {b L K n : Nat} {xs : Nat → Int32} {D : va_G} {q : Nat → ClassId} {q5 : ow_Q5} {vl u w sa : Nat → Nat} {zc zm : ow_MS} {S1 : ow_LwS} {Ts : List Cond} {Q : State → Prop} {H : Heap} {locs : List Loc} {ls : Array Slot} {cells slots : Nat} (hx : p.tables.exec = Jvm.exec) (hb : c.code = cL_law) (hml : c.maxLocals = 8) (hown : s.vm.findClass RL = some m.cls) (hts : ∀ w ∈ Ts, w.before args s = true) (hX : va_X b L xs s s.heap) (hbl : b < s.heap.size) (hZ : ∀ w ∈ wZ, w ∈ Ts) (hL1 : ∀ w ∈ wLL, w ∈ Ts) (hC1 : ∀ w ∈ wC, w ∈ Ts) (hM1 : ∀ w ∈ wM, w ∈ Ts) (hG : lx_G l s D q q5 sa) (hLn : L ≤ 3072) (hn : 6 * n + 6 ≤ L) (hq : ltp_maps vl K (xs (6 * n + 1)) (xs (6 * n + 2)) (xs (6 * n + 3)) (xs (6 * n + 4)) (xs (6 * n + 5)) zc zm = some S1) (hM : lx_M D q q5 s vl u w zc zm H locs) (hl : lv_has ls 8 [(0, .ref b), (1, .ref (u 0)), (2, .ref (w 0)), (3, .ref (u 52001)), (4, .int (nI (6 * n)))]) (hc : cells + 2 ≤ 601024) (hs : slots + 12 ≤ 7293033) (kk : ∀ (zc1 zm1 : ow_MS) (H1 : Heap) (locs1 : List Loc) (ls1 : Array Slot), lx_M D q q5 s vl u w zc1 zm1 H1 locs1 → lv_has ls1 8 [(0, .ref b), (1, .ref (u 0)), (2, .ref (w 0)), (3, .ref (u 52001)), (4, .int (nI (6 * n)))] → some (vl, zc1, zm1) = some S1 → W p l e room_1 s m args below meth c H1 locs1 (cells + 2) (slots + 12) Q (F0 m 1710 ls1 [])) : W p l e room_1 s m args below meth c H locs cells slots Q (F0 m 1248 ls []) := by
  have hbA : ¬ lx_A s b := Nat.not_le.mpr hbl
  generalize e1 : xs (6 * n + 1) = x1 at hq
  generalize e2 : xs (6 * n + 2) = x2 at hq
  generalize e3 : xs (6 * n + 3) = x3 at hq
  generalize e4 : xs (6 * n + 4) = x4 at hq
  generalize e5 : xs (6 * n + 5) = x5 at hq
  unfold ltp_maps at hq
  refine lv_aload_n hx hb dz_1248 rfl (lv_at hl 1 rfl) ?_
  refine lv_aload_n hx hb dz_1249 rfl (lv_at hl 0 rfl) ?_
  refine lv_iload hx hb dz_1250 (lv_at hl 4 rfl) ?_
  refine lv_iconst (v := 1) hx hb dz_1252 (by decide) ?_
  refine lv_iadd hx hb dz_1253 ?_
  refine ow_topi (y := nI (6 * n + 1)) (nI_add (6 * n) 1) ?_
  refine va_sld hx hb hX hbl hbA hM.2.2.2.2.2 (vp_in_nI (n := 6 * n + 1) (N := L) (by omega) (by omega)) dz_1254 ?_
  refine ow_topi (y := x1) ((congrArg xs (nI_clamp (by omega))).trans e1) ?_
  refine lv_aload_n hx hb dz_1255 rfl (lv_at hl 0 rfl) ?_
  refine lv_iload hx hb dz_1256 (lv_at hl 4 rfl) ?_
  refine lv_iconst (v := 2) hx hb dz_1258 (by decide) ?_
  refine lv_iadd hx hb dz_1259 ?_
  refine ow_topi (y := nI (6 * n + 2)) (nI_add (6 * n) 2) ?_
  refine va_sld hx hb hX hbl hbA hM.2.2.2.2.2 (vp_in_nI (n := 6 * n + 2) (N := L) (by omega) (by omega)) dz_1260 ?_
  refine ow_topi (y := x2) ((congrArg xs (nI_clamp (by omega))).trans e2) ?_
  refine lv_aload_n hx hb dz_1261 rfl (lv_at hl 3 rfl) ?_
  obtain ⟨v2, zc1, hcq, hq⟩ := tw_cl1 hq
  refine lx_wrap hM (vx_runSX (As := [.ref (u 0), .int x1, .int x2, .ref (u 52001)]) (rest := []) ⟨hx, hb, hml, hown, hts⟩ (kl_L_maps l D q vl u hM.2.2.1.1 hG.1 sa K 0 x1 x2 (by unfold cw_X11 ci_X11; exact List.mem_singleton.mpr rfl) zc zc1 v2 hcq) (vx_cwSW 4 hts (lx_gS (lx_all wLL_good rfl) (lx_mem hL1 (hZ _ zq_199)) (hZ _ zq_200) (hZ _ zq_201) (hZ _ zq_3) rfl rfl rfl) rfl rfl rfl (by decide +kernel) ⟨(Nat.le_of_ble_eq_true rfl), (Nat.le_of_ble_eq_true rfl)⟩) (lx_preL hG hM) rfl rfl hl.1 rfl (lv_room (Nat.le_of_ble_eq_true rfl)) dz_1262 ⟨(by show _ ≤ 601024; omega), (by show _ ≤ 7293033; omega)⟩) (fun H locs hM => ?_)
  refine lv_istore (lv' := [(5, .int v2), (0, .ref b), (1, .ref (u 0)), (2, .ref (w 0)), (3, .ref (u 52001)), (4, .int (nI (6 * n)))]) hx hb dz_1265 hl (by decide) rfl (fun ls hl => ?_)
  refine lv_aload_n hx hb dz_1267 rfl (lv_at hl 3 rfl) ?_
  refine lv_aload_n hx hb dz_1268 rfl (lv_at hl 1 rfl) ?_
  refine lv_iload hx hb dz_1269 (lv_at hl 5 rfl) ?_
  refine lv_iconst (v := 1) hx hb dz_1271 (by decide) ?_
  refine lv_iadd hx hb dz_1272 ?_
  refine ow_topi (y := nI (6 * n + 1)) (nI_add (6 * n) 1) ?_
  refine va_sld hx hb hX hbl hbA hM.2.2.2.2.2 (vp_in_nI (n := 6 * n + 1) (N := L) (by omega) (by omega)) dz_1273 ?_
  refine ow_topi (y := x1) ((congrArg xs (nI_clamp (by omega))).trans e1) ?_
  refine lv_aload_n hx hb dz_1274 rfl (lv_at hl 1 rfl) ?_
  refine lv_iload hx hb dz_1275 (lv_at hl 5 rfl) ?_
  refine lv_iconst (v := 2) hx hb dz_1277 (by decide) ?_
  refine lv_iadd hx hb dz_1278 ?_
  refine ow_topi (y := nI (6 * n + 2)) (nI_add (6 * n) 2) ?_
  refine va_sld hx hb hX hbl hbA hM.2.2.2.2.2 (vp_in_nI (n := 6 * n + 2) (N := L) (by omega) (by omega)) dz_1279 ?_
  refine ow_topi (y := x2) ((congrArg xs (nI_clamp (by omega))).trans e2) ?_
  obtain ⟨v4, zm3, hcq, hq⟩ := tw_cl1 hq
  refine lx_refi hM (va_runV (As := [.int x1, .int x2]) (rest := []) ⟨hx, hb, hml, hown, hts⟩ (km_X13_maps l D q5 w hM.2.2.2.1.1 K x1 x2 zm zm3 v4 hcq) (cwV 2 hts (lx_gV (lx_all wM_good rfl) (lx_mem hM1 (hZ _ zq_202)) (hZ _ zq_203) (hZ _ zq_204) (hZ _ zq_205) (hZ _ zq_8) rfl rfl rfl rfl) rfl rfl rfl cd_X13_maps ⟨(Nat.le_of_ble_eq_true rfl), (Nat.le_of_ble_eq_true rfl)⟩) (lx_preM hG hM) rfl rfl hl.1 rfl (lv_room (Nat.le_of_ble_eq_true rfl)) dz_1280 ⟨(by show _ ≤ 601024; omega), (by show _ ≤ 7293033; omega)⟩) (fun H locs hM => ?_)
  refine lv_istore (lv' := [(6, .int v4), (5, .int v2), (0, .ref b), (1, .ref (u 0)), (2, .ref (w 0)), (3, .ref (u 52001)), (4, .int (nI (6 * n)))]) hx hb dz_1283 hl (by decide) rfl (fun ls hl => ?_)
  refine lv_goto (tgt := 1710) hx hb dz_1285 (by decide) ?_
  exact kk _ _ H locs ls hM (lv_sub hl [2, 3, 4, 5, 6] rfl) hq
theorem dz_1288 : decode cL_law 1288 = .ok (.aload_n 1, 1) := dw_at dwl_10 (p := 88) rfl (by decide +kernel)
theorem dz_1289 : decode cL_law 1289 = .ok (.aload_n 0, 1) := dw_at dwl_10 (p := 89) rfl (by decide +kernel)
theorem dz_1290 : decode cL_law 1290 = .ok (.iload 4, 2) := dw_at dwl_10 (p := 90) rfl (by decide +kernel)
theorem dz_1292 : decode cL_law 1292 = .ok (.iconst 1, 1) := dw_at dwl_10 (p := 92) rfl (by decide +kernel)
theorem dz_1293 : decode cL_law 1293 = .ok (.iadd, 1) := dw_at dwl_10 (p := 93) rfl (by decide +kernel)
theorem dz_1294 : decode cL_law 1294 = .ok (.iaload, 1) := dw_at dwl_10 (p := 94) rfl (by decide +kernel)
theorem dz_1295 : decode cL_law 1295 = .ok (.aload_n 0, 1) := dw_at dwl_10 (p := 95) rfl (by decide +kernel)
theorem dz_1296 : decode cL_law 1296 = .ok (.iload 4, 2) := dw_at dwl_10 (p := 96) rfl (by decide +kernel)
theorem dz_1298 : decode cL_law 1298 = .ok (.iconst 2, 1) := dw_at dwl_10 (p := 98) rfl (by decide +kernel)
theorem dz_1299 : decode cL_law 1299 = .ok (.iadd, 1) := dw_at dwl_10 (p := 99) rfl (by decide +kernel)
theorem dz_1300 : decode cL_law 1300 = .ok (.iaload, 1) := dw_at dwl_10 (p := 100) rfl (by decide +kernel)
theorem dz_1301 : decode cL_law 1301 = .ok (.aload_n 3, 1) := dw_at dwl_10 (p := 101) rfl (by decide +kernel)
theorem dz_1302 : decode cL_law 1302 = .ok (.invokestatic 232, 3) := dw_at dwl_10 (p := 102) rfl (by decide +kernel)
theorem dz_1305 : decode cL_law 1305 = .ok (.istore 5, 2) := dw_at dwl_10 (p := 105) rfl (by decide +kernel)
theorem dz_1307 : decode cL_law 1307 = .ok (.aload_n 2, 1) := dw_at dwl_10 (p := 107) rfl (by decide +kernel)
theorem dz_1308 : decode cL_law 1308 = .ok (.aload_n 0, 1) := dw_at dwl_10 (p := 108) rfl (by decide +kernel)
theorem dz_1309 : decode cL_law 1309 = .ok (.iload 4, 2) := dw_at dwl_10 (p := 109) rfl (by decide +kernel)
theorem dz_1311 : decode cL_law 1311 = .ok (.iconst 1, 1) := dw_at dwl_10 (p := 111) rfl (by decide +kernel)
theorem dz_1312 : decode cL_law 1312 = .ok (.iadd, 1) := dw_at dwl_10 (p := 112) rfl (by decide +kernel)
theorem dz_1313 : decode cL_law 1313 = .ok (.iaload, 1) := dw_at dwl_10 (p := 113) rfl (by decide +kernel)
theorem dz_1314 : decode cL_law 1314 = .ok (.aload_n 0, 1) := dw_at dwl_10 (p := 114) rfl (by decide +kernel)
theorem dz_1315 : decode cL_law 1315 = .ok (.iload 4, 2) := dw_at dwl_10 (p := 115) rfl (by decide +kernel)
theorem dz_1317 : decode cL_law 1317 = .ok (.iconst 2, 1) := dw_at dwl_10 (p := 117) rfl (by decide +kernel)
theorem dz_1318 : decode cL_law 1318 = .ok (.iadd, 1) := dw_at dwl_10 (p := 118) rfl (by decide +kernel)
theorem dz_1319 : decode cL_law 1319 = .ok (.iaload, 1) := dw_at dwl_10 (p := 119) rfl (by decide +kernel)
theorem dz_1320 : decode cL_law 1320 = .ok (.invokevirtual 234, 3) := dw_at dwl_11 (p := 0) rfl (by decide +kernel)
theorem dz_1323 : decode cL_law 1323 = .ok (.istore 6, 2) := dw_at dwl_11 (p := 3) rfl (by decide +kernel)
theorem dz_1325 : decode cL_law 1325 = .ok (.goto 385, 3) := dw_at dwl_11 (p := 5) rfl (by decide +kernel)
def ltp_chain (vl : Nat → Nat) (K : Nat) (x1 : Int32) (x2 : Int32) (x3 : Int32) (x4 : Int32) (x5 : Int32) (zc zm : ow_MS) : Option ow_LwS :=
 dc1 (le_L_chain vl K 0 x1 x2 zc) fun v2 vm3 zc1 => cs1 (qe_X13_chain K x1 x2 zm) fun v5 zm4 => some (vm3, zc1, zm4)
set_option maxHeartbeats 4000000 in
set_option maxRecDepth 100000 in
theorem lxc_chain {p : Program} {l : Launch} {e : Env} {s : State} {m : MethodId} {args : Array Value} {below : List Frame} {meth : Method} {c : Code} {b L K n : Nat} {xs : Nat → Int32} {D : va_G} {q : Nat → ClassId} {q5 : ow_Q5} {vl u w sa : Nat → Nat} {zc zm : ow_MS} {S1 : ow_LwS} {Ts : List Cond} {Q : State → Prop} {H : Heap} {locs : List Loc} {ls : Array Slot} {cells slots : Nat} (hx : p.tables.exec = Jvm.exec) (hb : c.code = cL_law) (hml : c.maxLocals = 8) (hown : s.vm.findClass RL = some m.cls) (hts : ∀ w ∈ Ts, w.before args s = true) (hX : va_X b L xs s s.heap) (hbl : b < s.heap.size) (hZ : ∀ w ∈ wZ, w ∈ Ts) (hL1 : ∀ w ∈ wLL, w ∈ Ts) (hC1 : ∀ w ∈ wC, w ∈ Ts) (hM1 : ∀ w ∈ wM, w ∈ Ts) (hG : lx_G l s D q q5 sa) (hLn : L ≤ 3072) (hn : 6 * n + 6 ≤ L) (hq : ltp_chain vl K (xs (6 * n + 1)) (xs (6 * n + 2)) (xs (6 * n + 3)) (xs (6 * n + 4)) (xs (6 * n + 5)) zc zm = some S1) (hM : lx_M D q q5 s vl u w zc zm H locs) (hl : lv_has ls 8 [(0, .ref b), (1, .ref (u 0)), (2, .ref (w 0)), (3, .ref (u 52001)), (4, .int (nI (6 * n)))]) (hc : ∀ r v z1, le_L_chain vl K 0 (xs (6 * n + 1)) (xs (6 * n + 2)) zc = some (r, v, z1) → cells + (2 + dca vl v) ≤ 601024 ∧ slots + (12 + dsl vl v) ≤ 7293033) (kk : ∀ (vl1 u1 : Nat → Nat) (zc1 zm1 : ow_MS) (H1 : Heap) (locs1 : List Loc) (ls1 : Array Slot), lx_M D q q5 s vl1 u1 w zc1 zm1 H1 locs1 → lv_has ls1 8 [(0, .ref b), (1, .ref (u1 0)), (2, .ref (w 0)), (3, .ref (u1 52001)), (4, .int (nI (6 * n)))] → some (vl1, zc1, zm1) = some S1 → W p l e room_1 s m args below meth c H1 locs1 (cells + (2 + dca vl vl1)) (slots + (12 + dsl vl vl1)) Q (F0 m 1710 ls1 [])) : W p l e room_1 s m args below meth c H locs cells slots Q (F0 m 1288 ls []) := by
  have hbA : ¬ lx_A s b := Nat.not_le.mpr hbl
  generalize e1 : xs (6 * n + 1) = x1 at hq hc
  generalize e2 : xs (6 * n + 2) = x2 at hq hc
  generalize e3 : xs (6 * n + 3) = x3 at hq
  generalize e4 : xs (6 * n + 4) = x4 at hq
  generalize e5 : xs (6 * n + 5) = x5 at hq
  unfold ltp_chain at hq
  refine lv_aload_n hx hb dz_1288 rfl (lv_at hl 1 rfl) ?_
  refine lv_aload_n hx hb dz_1289 rfl (lv_at hl 0 rfl) ?_
  refine lv_iload hx hb dz_1290 (lv_at hl 4 rfl) ?_
  refine lv_iconst (v := 1) hx hb dz_1292 (by decide) ?_
  refine lv_iadd hx hb dz_1293 ?_
  refine ow_topi (y := nI (6 * n + 1)) (nI_add (6 * n) 1) ?_
  refine va_sld hx hb hX hbl hbA hM.2.2.2.2.2 (vp_in_nI (n := 6 * n + 1) (N := L) (by omega) (by omega)) dz_1294 ?_
  refine ow_topi (y := x1) ((congrArg xs (nI_clamp (by omega))).trans e1) ?_
  refine lv_aload_n hx hb dz_1295 rfl (lv_at hl 0 rfl) ?_
  refine lv_iload hx hb dz_1296 (lv_at hl 4 rfl) ?_
  refine lv_iconst (v := 2) hx hb dz_1298 (by decide) ?_
  refine lv_iadd hx hb dz_1299 ?_
  refine ow_topi (y := nI (6 * n + 2)) (nI_add (6 * n) 2) ?_
  refine va_sld hx hb hX hbl hbA hM.2.2.2.2.2 (vp_in_nI (n := 6 * n + 2) (N := L) (by omega) (by omega)) dz_1300 ?_
  refine ow_topi (y := x2) ((congrArg xs (nI_clamp (by omega))).trans e2) ?_
  refine lv_aload_n hx hb dz_1301 rfl (lv_at hl 3 rfl) ?_
  obtain ⟨v2, vm3, zc1, hcq, hq⟩ := dd_dc1 hq
  obtain ⟨hc, hs⟩ := hc v2 vm3 zc1 hcq
  refine lx_wrapD hM (vx_runSX (As := [.ref (u 0), .int x1, .int x2, .ref (u 52001)]) (rest := []) ⟨hx, hb, hml, hown, hts⟩ (kl_L_chain l D q vl u hM.2.2.1.1 hG.1 sa K 0 x1 x2 (by unfold cw_X11 ci_X11; exact List.mem_singleton.mpr rfl) zc zc1 vm3 v2 H.size hcq) (vx_cwSW 4 hts (lx_gS (lx_all wLL_good rfl) (lx_mem hL1 (hZ _ zq_206)) (hZ _ zq_207) (hZ _ zq_208) (hZ _ zq_3) rfl rfl rfl) rfl rfl rfl (by decide +kernel) ⟨(Nat.le_of_ble_eq_true rfl), (Nat.le_of_ble_eq_true rfl)⟩) (lx_preLD hG hM) rfl rfl hl.1 rfl (lv_room (Nat.le_of_ble_eq_true rfl)) dz_1302 ⟨(by show _ ≤ 601024; omega), (by show _ ≤ 7293033; omega)⟩) (fun u1 H locs hM hs1 => ?_)
  have hl : lv_has ls 8 [(0, .ref b), (1, .ref (u1 0)), (2, .ref (w 0)), (3, .ref (u1 52001)), (4, .int (nI (6 * n)))] := by rw [hs1 0 (by decide), hs1 52001 (by decide)]; exact hl
  refine lv_istore (lv' := [(5, .int v2), (0, .ref b), (1, .ref (u1 0)), (2, .ref (w 0)), (3, .ref (u1 52001)), (4, .int (nI (6 * n)))]) hx hb dz_1305 hl (by decide) rfl (fun ls hl => ?_)
  refine lv_aload_n hx hb dz_1307 rfl (lv_at hl 3 rfl) ?_
  refine lv_aload_n hx hb dz_1308 rfl (lv_at hl 1 rfl) ?_
  refine lv_iload hx hb dz_1309 (lv_at hl 5 rfl) ?_
  refine lv_iconst (v := 1) hx hb dz_1311 (by decide) ?_
  refine lv_iadd hx hb dz_1312 ?_
  refine ow_topi (y := nI (6 * n + 1)) (nI_add (6 * n) 1) ?_
  refine va_sld hx hb hX hbl hbA hM.2.2.2.2.2 (vp_in_nI (n := 6 * n + 1) (N := L) (by omega) (by omega)) dz_1313 ?_
  refine ow_topi (y := x1) ((congrArg xs (nI_clamp (by omega))).trans e1) ?_
  refine lv_aload_n hx hb dz_1314 rfl (lv_at hl 1 rfl) ?_
  refine lv_iload hx hb dz_1315 (lv_at hl 5 rfl) ?_
  refine lv_iconst (v := 2) hx hb dz_1317 (by decide) ?_
  refine lv_iadd hx hb dz_1318 ?_
  refine ow_topi (y := nI (6 * n + 2)) (nI_add (6 * n) 2) ?_
  refine va_sld hx hb hX hbl hbA hM.2.2.2.2.2 (vp_in_nI (n := 6 * n + 2) (N := L) (by omega) (by omega)) dz_1319 ?_
  refine ow_topi (y := x2) ((congrArg xs (nI_clamp (by omega))).trans e2) ?_
  obtain ⟨v5, zm4, hcq, hq⟩ := tw_cl1 hq
  refine lx_refi hM (va_runV (As := [.int x1, .int x2]) (rest := []) ⟨hx, hb, hml, hown, hts⟩ (km_X13_chain l D q5 w hM.2.2.2.1.1 K x1 x2 zm zm4 v5 hcq) (cwV 2 hts (lx_gV (lx_all wM_good rfl) (lx_mem hM1 (hZ _ zq_209)) (hZ _ zq_210) (hZ _ zq_211) (hZ _ zq_212) (hZ _ zq_8) rfl rfl rfl rfl) rfl rfl rfl cd_X13_chain ⟨(Nat.le_of_ble_eq_true rfl), (Nat.le_of_ble_eq_true rfl)⟩) (lx_preM hG hM) rfl rfl hl.1 rfl (lv_room (Nat.le_of_ble_eq_true rfl)) dz_1320 ⟨(by show _ ≤ 601024; omega), (by show _ ≤ 7293033; omega)⟩) (fun H locs hM => ?_)
  refine lv_istore (lv' := [(6, .int v5), (5, .int v2), (0, .ref b), (1, .ref (u1 0)), (2, .ref (w 0)), (3, .ref (u1 52001)), (4, .int (nI (6 * n)))]) hx hb dz_1323 hl (by decide) rfl (fun ls hl => ?_)
  refine lv_goto (tgt := 1710) hx hb dz_1325 (by decide) ?_
  exact kk _ _ _ _ H locs ls hM (lv_sub hl [2, 3, 4, 5, 6] rfl) hq
theorem dz_1328 : decode cL_law 1328 = .ok (.aload_n 1, 1) := dw_at dwl_11 (p := 8) rfl (by decide +kernel)
theorem dz_1329 : decode cL_law 1329 = .ok (.aload_n 0, 1) := dw_at dwl_11 (p := 9) rfl (by decide +kernel)
theorem dz_1330 : decode cL_law 1330 = .ok (.iload 4, 2) := dw_at dwl_11 (p := 10) rfl (by decide +kernel)
theorem dz_1332 : decode cL_law 1332 = .ok (.iconst 1, 1) := dw_at dwl_11 (p := 12) rfl (by decide +kernel)
theorem dz_1333 : decode cL_law 1333 = .ok (.iadd, 1) := dw_at dwl_11 (p := 13) rfl (by decide +kernel)
theorem dz_1334 : decode cL_law 1334 = .ok (.iaload, 1) := dw_at dwl_11 (p := 14) rfl (by decide +kernel)
theorem dz_1335 : decode cL_law 1335 = .ok (.aload_n 0, 1) := dw_at dwl_11 (p := 15) rfl (by decide +kernel)
theorem dz_1336 : decode cL_law 1336 = .ok (.iload 4, 2) := dw_at dwl_11 (p := 16) rfl (by decide +kernel)
theorem dz_1338 : decode cL_law 1338 = .ok (.iconst 2, 1) := dw_at dwl_11 (p := 18) rfl (by decide +kernel)
theorem dz_1339 : decode cL_law 1339 = .ok (.iadd, 1) := dw_at dwl_11 (p := 19) rfl (by decide +kernel)
theorem dz_1340 : decode cL_law 1340 = .ok (.iaload, 1) := dw_at dwl_11 (p := 20) rfl (by decide +kernel)
theorem dz_1341 : decode cL_law 1341 = .ok (.invokevirtual 235, 3) := dw_at dwl_11 (p := 21) rfl (by decide +kernel)
theorem dz_1344 : decode cL_law 1344 = .ok (.pop, 1) := dw_at dwl_11 (p := 24) rfl (by decide +kernel)
theorem dz_1345 : decode cL_law 1345 = .ok (.aload_n 2, 1) := dw_at dwl_11 (p := 25) rfl (by decide +kernel)
theorem dz_1346 : decode cL_law 1346 = .ok (.aload_n 0, 1) := dw_at dwl_11 (p := 26) rfl (by decide +kernel)
theorem dz_1347 : decode cL_law 1347 = .ok (.iload 4, 2) := dw_at dwl_11 (p := 27) rfl (by decide +kernel)
theorem dz_1349 : decode cL_law 1349 = .ok (.iconst 1, 1) := dw_at dwl_11 (p := 29) rfl (by decide +kernel)
theorem dz_1350 : decode cL_law 1350 = .ok (.iadd, 1) := dw_at dwl_11 (p := 30) rfl (by decide +kernel)
theorem dz_1351 : decode cL_law 1351 = .ok (.iaload, 1) := dw_at dwl_11 (p := 31) rfl (by decide +kernel)
theorem dz_1352 : decode cL_law 1352 = .ok (.aload_n 0, 1) := dw_at dwl_11 (p := 32) rfl (by decide +kernel)
theorem dz_1353 : decode cL_law 1353 = .ok (.iload 4, 2) := dw_at dwl_11 (p := 33) rfl (by decide +kernel)
theorem dz_1355 : decode cL_law 1355 = .ok (.iconst 2, 1) := dw_at dwl_11 (p := 35) rfl (by decide +kernel)
theorem dz_1356 : decode cL_law 1356 = .ok (.iadd, 1) := dw_at dwl_11 (p := 36) rfl (by decide +kernel)
theorem dz_1357 : decode cL_law 1357 = .ok (.iaload, 1) := dw_at dwl_11 (p := 37) rfl (by decide +kernel)
theorem dz_1358 : decode cL_law 1358 = .ok (.invokevirtual 238, 3) := dw_at dwl_11 (p := 38) rfl (by decide +kernel)
theorem dz_1361 : decode cL_law 1361 = .ok (.pop, 1) := dw_at dwl_11 (p := 41) rfl (by decide +kernel)
theorem dz_1362 : decode cL_law 1362 = .ok (.goto 348, 3) := dw_at dwl_11 (p := 42) rfl (by decide +kernel)
def ltp_rank (vl : Nat → Nat) (K : Nat) (x1 : Int32) (x2 : Int32) (x3 : Int32) (x4 : Int32) (x5 : Int32) (zc zm : ow_MS) : Option ow_LwS :=
 cs1 (ce_X11_rank vl K 0 x1 x2 zc) fun v2 zc1 => cs1 (qe_X13_rank K x1 x2 zm) fun v4 zm3 => some (vl, zc1, zm3)
set_option maxHeartbeats 4000000 in
set_option maxRecDepth 100000 in
theorem lxc_rank {p : Program} {l : Launch} {e : Env} {s : State} {m : MethodId} {args : Array Value} {below : List Frame} {meth : Method} {c : Code} {b L K n : Nat} {xs : Nat → Int32} {D : va_G} {q : Nat → ClassId} {q5 : ow_Q5} {vl u w sa : Nat → Nat} {zc zm : ow_MS} {S1 : ow_LwS} {Ts : List Cond} {Q : State → Prop} {H : Heap} {locs : List Loc} {ls : Array Slot} {cells slots : Nat} (hx : p.tables.exec = Jvm.exec) (hb : c.code = cL_law) (hml : c.maxLocals = 8) (hown : s.vm.findClass RL = some m.cls) (hts : ∀ w ∈ Ts, w.before args s = true) (hX : va_X b L xs s s.heap) (hbl : b < s.heap.size) (hZ : ∀ w ∈ wZ, w ∈ Ts) (hL1 : ∀ w ∈ wLL, w ∈ Ts) (hC1 : ∀ w ∈ wC, w ∈ Ts) (hM1 : ∀ w ∈ wM, w ∈ Ts) (hG : lx_G l s D q q5 sa) (hLn : L ≤ 3072) (hn : 6 * n + 6 ≤ L) (hq : ltp_rank vl K (xs (6 * n + 1)) (xs (6 * n + 2)) (xs (6 * n + 3)) (xs (6 * n + 4)) (xs (6 * n + 5)) zc zm = some S1) (hM : lx_M D q q5 s vl u w zc zm H locs) (hl : lv_has ls 8 [(0, .ref b), (1, .ref (u 0)), (2, .ref (w 0)), (3, .ref (u 52001)), (4, .int (nI (6 * n)))]) (hc : cells + 0 ≤ 601024) (hs : slots + 0 ≤ 7293033) (kk : ∀ (zc1 zm1 : ow_MS) (H1 : Heap) (locs1 : List Loc) (ls1 : Array Slot), lx_M D q q5 s vl u w zc1 zm1 H1 locs1 → lv_has ls1 8 [(0, .ref b), (1, .ref (u 0)), (2, .ref (w 0)), (3, .ref (u 52001)), (4, .int (nI (6 * n)))] → some (vl, zc1, zm1) = some S1 → W p l e room_1 s m args below meth c H1 locs1 (cells + 0) (slots + 0) Q (F0 m 1710 ls1 [])) : W p l e room_1 s m args below meth c H locs cells slots Q (F0 m 1328 ls []) := by
  have hbA : ¬ lx_A s b := Nat.not_le.mpr hbl
  generalize e1 : xs (6 * n + 1) = x1 at hq
  generalize e2 : xs (6 * n + 2) = x2 at hq
  generalize e3 : xs (6 * n + 3) = x3 at hq
  generalize e4 : xs (6 * n + 4) = x4 at hq
  generalize e5 : xs (6 * n + 5) = x5 at hq
  unfold ltp_rank at hq
  refine lv_aload_n hx hb dz_1328 rfl (lv_at hl 1 rfl) ?_
  refine lv_aload_n hx hb dz_1329 rfl (lv_at hl 0 rfl) ?_
  refine lv_iload hx hb dz_1330 (lv_at hl 4 rfl) ?_
  refine lv_iconst (v := 1) hx hb dz_1332 (by decide) ?_
  refine lv_iadd hx hb dz_1333 ?_
  refine ow_topi (y := nI (6 * n + 1)) (nI_add (6 * n) 1) ?_
  refine va_sld hx hb hX hbl hbA hM.2.2.2.2.2 (vp_in_nI (n := 6 * n + 1) (N := L) (by omega) (by omega)) dz_1334 ?_
  refine ow_topi (y := x1) ((congrArg xs (nI_clamp (by omega))).trans e1) ?_
  refine lv_aload_n hx hb dz_1335 rfl (lv_at hl 0 rfl) ?_
  refine lv_iload hx hb dz_1336 (lv_at hl 4 rfl) ?_
  refine lv_iconst (v := 2) hx hb dz_1338 (by decide) ?_
  refine lv_iadd hx hb dz_1339 ?_
  refine ow_topi (y := nI (6 * n + 2)) (nI_add (6 * n) 2) ?_
  refine va_sld hx hb hX hbl hbA hM.2.2.2.2.2 (vp_in_nI (n := 6 * n + 2) (N := L) (by omega) (by omega)) dz_1340 ?_
  refine ow_topi (y := x2) ((congrArg xs (nI_clamp (by omega))).trans e2) ?_
  obtain ⟨v2, zc1, hcq, hq⟩ := tw_cl1 hq
  refine lx_cls hM (va_runV (As := [.int x1, .int x2]) (rest := []) ⟨hx, hb, hml, hown, hts⟩ (kc_X11_rank l D q vl u hM.2.2.1.1 K 0 x1 x2 (by unfold cw_X11 ci_X11; exact List.mem_singleton.mpr rfl) zc zc1 v2 hcq) (cwV 2 hts (lx_gV (lx_all wC_good rfl) (lx_mem hC1 (hZ _ zq_213)) (hZ _ zq_214) (hZ _ zq_215) (hZ _ zq_216) (hZ _ zq_38) rfl rfl rfl rfl) rfl rfl rfl cdd_X11_rank ⟨(Nat.le_of_ble_eq_true rfl), (Nat.le_of_ble_eq_true rfl)⟩) (lx_preC hG hM) rfl rfl hl.1 rfl (lv_room (Nat.le_of_ble_eq_true rfl)) dz_1341 ⟨(by show _ ≤ 601024; omega), (by show _ ≤ 7293033; omega)⟩) (fun H locs hM => ?_)
  refine lv_pop hx hb dz_1344 rfl ?_
  refine lv_aload_n hx hb dz_1345 rfl (lv_at hl 2 rfl) ?_
  refine lv_aload_n hx hb dz_1346 rfl (lv_at hl 0 rfl) ?_
  refine lv_iload hx hb dz_1347 (lv_at hl 4 rfl) ?_
  refine lv_iconst (v := 1) hx hb dz_1349 (by decide) ?_
  refine lv_iadd hx hb dz_1350 ?_
  refine ow_topi (y := nI (6 * n + 1)) (nI_add (6 * n) 1) ?_
  refine va_sld hx hb hX hbl hbA hM.2.2.2.2.2 (vp_in_nI (n := 6 * n + 1) (N := L) (by omega) (by omega)) dz_1351 ?_
  refine ow_topi (y := x1) ((congrArg xs (nI_clamp (by omega))).trans e1) ?_
  refine lv_aload_n hx hb dz_1352 rfl (lv_at hl 0 rfl) ?_
  refine lv_iload hx hb dz_1353 (lv_at hl 4 rfl) ?_
  refine lv_iconst (v := 2) hx hb dz_1355 (by decide) ?_
  refine lv_iadd hx hb dz_1356 ?_
  refine ow_topi (y := nI (6 * n + 2)) (nI_add (6 * n) 2) ?_
  refine va_sld hx hb hX hbl hbA hM.2.2.2.2.2 (vp_in_nI (n := 6 * n + 2) (N := L) (by omega) (by omega)) dz_1357 ?_
  refine ow_topi (y := x2) ((congrArg xs (nI_clamp (by omega))).trans e2) ?_
  obtain ⟨v4, zm3, hcq, hq⟩ := tw_cl1 hq
  refine lx_refi hM (va_runV (As := [.int x1, .int x2]) (rest := []) ⟨hx, hb, hml, hown, hts⟩ (km_X13_rank l D q5 w hM.2.2.2.1.1 K x1 x2 zm zm3 v4 hcq) (cwV 2 hts (lx_gV (lx_all wM_good rfl) (lx_mem hM1 (hZ _ zq_217)) (hZ _ zq_218) (hZ _ zq_219) (hZ _ zq_220) (hZ _ zq_8) rfl rfl rfl rfl) rfl rfl rfl cd_X13_rank ⟨(Nat.le_of_ble_eq_true rfl), (Nat.le_of_ble_eq_true rfl)⟩) (lx_preM hG hM) rfl rfl hl.1 rfl (lv_room (Nat.le_of_ble_eq_true rfl)) dz_1358 ⟨(by show _ ≤ 601024; omega), (by show _ ≤ 7293033; omega)⟩) (fun H locs hM => ?_)
  refine lv_pop hx hb dz_1361 rfl ?_
  refine lv_goto (tgt := 1710) hx hb dz_1362 (by decide) ?_
  exact kk _ _ H locs ls hM (lv_sub hl [0, 1, 2, 3, 4] rfl) hq
theorem dz_1365 : decode cL_law 1365 = .ok (.aload_n 1, 1) := dw_at dwl_11 (p := 45) rfl (by decide +kernel)
theorem dz_1366 : decode cL_law 1366 = .ok (.aload_n 0, 1) := dw_at dwl_11 (p := 46) rfl (by decide +kernel)
theorem dz_1367 : decode cL_law 1367 = .ok (.iload 4, 2) := dw_at dwl_11 (p := 47) rfl (by decide +kernel)
theorem dz_1369 : decode cL_law 1369 = .ok (.iconst 1, 1) := dw_at dwl_11 (p := 49) rfl (by decide +kernel)
theorem dz_1370 : decode cL_law 1370 = .ok (.iadd, 1) := dw_at dwl_11 (p := 50) rfl (by decide +kernel)
theorem dz_1371 : decode cL_law 1371 = .ok (.iaload, 1) := dw_at dwl_11 (p := 51) rfl (by decide +kernel)
theorem dz_1372 : decode cL_law 1372 = .ok (.aload_n 3, 1) := dw_at dwl_11 (p := 52) rfl (by decide +kernel)
theorem dz_1373 : decode cL_law 1373 = .ok (.invokestatic 239, 3) := dw_at dwl_11 (p := 53) rfl (by decide +kernel)
theorem dz_1376 : decode cL_law 1376 = .ok (.istore 5, 2) := dw_at dwl_11 (p := 56) rfl (by decide +kernel)
theorem dz_1378 : decode cL_law 1378 = .ok (.aload_n 2, 1) := dw_at dwl_11 (p := 58) rfl (by decide +kernel)
theorem dz_1379 : decode cL_law 1379 = .ok (.aload_n 0, 1) := dw_at dwl_11 (p := 59) rfl (by decide +kernel)
theorem dz_1380 : decode cL_law 1380 = .ok (.iload 4, 2) := dw_at dwl_11 (p := 60) rfl (by decide +kernel)
theorem dz_1382 : decode cL_law 1382 = .ok (.iconst 1, 1) := dw_at dwl_11 (p := 62) rfl (by decide +kernel)
theorem dz_1383 : decode cL_law 1383 = .ok (.iadd, 1) := dw_at dwl_11 (p := 63) rfl (by decide +kernel)
theorem dz_1384 : decode cL_law 1384 = .ok (.iaload, 1) := dw_at dwl_11 (p := 64) rfl (by decide +kernel)
theorem dz_1385 : decode cL_law 1385 = .ok (.invokevirtual 241, 3) := dw_at dwl_11 (p := 65) rfl (by decide +kernel)
theorem dz_1388 : decode cL_law 1388 = .ok (.istore 6, 2) := dw_at dwl_11 (p := 68) rfl (by decide +kernel)
theorem dz_1390 : decode cL_law 1390 = .ok (.goto 320, 3) := dw_at dwl_11 (p := 70) rfl (by decide +kernel)
def ltp_closure (vl : Nat → Nat) (K : Nat) (x1 : Int32) (x2 : Int32) (x3 : Int32) (x4 : Int32) (x5 : Int32) (zc zm : ow_MS) : Option ow_LwS :=
 cs1 (le_L_closure vl K 0 x1 zc) fun v2 zc1 => cs1 (qe_X13_closure K x1 zm) fun v4 zm3 => some (vl, zc1, zm3)
set_option maxHeartbeats 4000000 in
set_option maxRecDepth 100000 in
theorem lxc_closure {p : Program} {l : Launch} {e : Env} {s : State} {m : MethodId} {args : Array Value} {below : List Frame} {meth : Method} {c : Code} {b L K n : Nat} {xs : Nat → Int32} {D : va_G} {q : Nat → ClassId} {q5 : ow_Q5} {vl u w sa : Nat → Nat} {zc zm : ow_MS} {S1 : ow_LwS} {Ts : List Cond} {Q : State → Prop} {H : Heap} {locs : List Loc} {ls : Array Slot} {cells slots : Nat} (hx : p.tables.exec = Jvm.exec) (hb : c.code = cL_law) (hml : c.maxLocals = 8) (hown : s.vm.findClass RL = some m.cls) (hts : ∀ w ∈ Ts, w.before args s = true) (hX : va_X b L xs s s.heap) (hbl : b < s.heap.size) (hZ : ∀ w ∈ wZ, w ∈ Ts) (hL1 : ∀ w ∈ wLL, w ∈ Ts) (hC1 : ∀ w ∈ wC, w ∈ Ts) (hM1 : ∀ w ∈ wM, w ∈ Ts) (hG : lx_G l s D q q5 sa) (hLn : L ≤ 3072) (hn : 6 * n + 6 ≤ L) (hq : ltp_closure vl K (xs (6 * n + 1)) (xs (6 * n + 2)) (xs (6 * n + 3)) (xs (6 * n + 4)) (xs (6 * n + 5)) zc zm = some S1) (hM : lx_M D q q5 s vl u w zc zm H locs) (hl : lv_has ls 8 [(0, .ref b), (1, .ref (u 0)), (2, .ref (w 0)), (3, .ref (u 52001)), (4, .int (nI (6 * n)))]) (hc : cells + 3 ≤ 601024) (hs : slots + 18 ≤ 7293033) (kk : ∀ (zc1 zm1 : ow_MS) (H1 : Heap) (locs1 : List Loc) (ls1 : Array Slot), lx_M D q q5 s vl u w zc1 zm1 H1 locs1 → lv_has ls1 8 [(0, .ref b), (1, .ref (u 0)), (2, .ref (w 0)), (3, .ref (u 52001)), (4, .int (nI (6 * n)))] → some (vl, zc1, zm1) = some S1 → W p l e room_1 s m args below meth c H1 locs1 (cells + 3) (slots + 18) Q (F0 m 1710 ls1 [])) : W p l e room_1 s m args below meth c H locs cells slots Q (F0 m 1365 ls []) := by
  have hbA : ¬ lx_A s b := Nat.not_le.mpr hbl
  generalize e1 : xs (6 * n + 1) = x1 at hq
  generalize e2 : xs (6 * n + 2) = x2 at hq
  generalize e3 : xs (6 * n + 3) = x3 at hq
  generalize e4 : xs (6 * n + 4) = x4 at hq
  generalize e5 : xs (6 * n + 5) = x5 at hq
  unfold ltp_closure at hq
  refine lv_aload_n hx hb dz_1365 rfl (lv_at hl 1 rfl) ?_
  refine lv_aload_n hx hb dz_1366 rfl (lv_at hl 0 rfl) ?_
  refine lv_iload hx hb dz_1367 (lv_at hl 4 rfl) ?_
  refine lv_iconst (v := 1) hx hb dz_1369 (by decide) ?_
  refine lv_iadd hx hb dz_1370 ?_
  refine ow_topi (y := nI (6 * n + 1)) (nI_add (6 * n) 1) ?_
  refine va_sld hx hb hX hbl hbA hM.2.2.2.2.2 (vp_in_nI (n := 6 * n + 1) (N := L) (by omega) (by omega)) dz_1371 ?_
  refine ow_topi (y := x1) ((congrArg xs (nI_clamp (by omega))).trans e1) ?_
  refine lv_aload_n hx hb dz_1372 rfl (lv_at hl 3 rfl) ?_
  obtain ⟨v2, zc1, hcq, hq⟩ := tw_cl1 hq
  refine lx_wrap hM (vx_runSX (As := [.ref (u 0), .int x1, .ref (u 52001)]) (rest := []) ⟨hx, hb, hml, hown, hts⟩ (kl_L_closure l D q vl u hM.2.2.1.1 hG.1 sa K 0 x1 (by unfold cw_X11 ci_X11; exact List.mem_singleton.mpr rfl) zc zc1 v2 hcq) (vx_cwSW 3 hts (lx_gS (lx_all wLL_good rfl) (lx_mem hL1 (hZ _ zq_221)) (hZ _ zq_222) (hZ _ zq_223) (hZ _ zq_3) rfl rfl rfl) rfl rfl rfl (by decide +kernel) ⟨(Nat.le_of_ble_eq_true rfl), (Nat.le_of_ble_eq_true rfl)⟩) (lx_preL hG hM) rfl rfl hl.1 rfl (lv_room (Nat.le_of_ble_eq_true rfl)) dz_1373 ⟨(by show _ ≤ 601024; omega), (by show _ ≤ 7293033; omega)⟩) (fun H locs hM => ?_)
  refine lv_istore (lv' := [(5, .int v2), (0, .ref b), (1, .ref (u 0)), (2, .ref (w 0)), (3, .ref (u 52001)), (4, .int (nI (6 * n)))]) hx hb dz_1376 hl (by decide) rfl (fun ls hl => ?_)
  refine lv_aload_n hx hb dz_1378 rfl (lv_at hl 3 rfl) ?_
  refine lv_aload_n hx hb dz_1379 rfl (lv_at hl 1 rfl) ?_
  refine lv_iload hx hb dz_1380 (lv_at hl 5 rfl) ?_
  refine lv_iconst (v := 1) hx hb dz_1382 (by decide) ?_
  refine lv_iadd hx hb dz_1383 ?_
  refine ow_topi (y := nI (6 * n + 1)) (nI_add (6 * n) 1) ?_
  refine va_sld hx hb hX hbl hbA hM.2.2.2.2.2 (vp_in_nI (n := 6 * n + 1) (N := L) (by omega) (by omega)) dz_1384 ?_
  refine ow_topi (y := x1) ((congrArg xs (nI_clamp (by omega))).trans e1) ?_
  obtain ⟨v4, zm3, hcq, hq⟩ := tw_cl1 hq
  refine lx_refi hM (va_runV (As := [.int x1]) (rest := []) ⟨hx, hb, hml, hown, hts⟩ (km_X13_closure l D q5 w hM.2.2.2.1.1 K x1 zm zm3 v4 hcq) (cwV 1 hts (lx_gV (lx_all wM_good rfl) (lx_mem hM1 (hZ _ zq_224)) (hZ _ zq_225) (hZ _ zq_226) (hZ _ zq_227) (hZ _ zq_8) rfl rfl rfl rfl) rfl rfl rfl cd_X13_closure ⟨(Nat.le_of_ble_eq_true rfl), (Nat.le_of_ble_eq_true rfl)⟩) (lx_preM hG hM) rfl rfl hl.1 rfl (lv_room (Nat.le_of_ble_eq_true rfl)) dz_1385 ⟨(by show _ ≤ 601024; omega), (by show _ ≤ 7293033; omega)⟩) (fun H locs hM => ?_)
  refine lv_istore (lv' := [(6, .int v4), (5, .int v2), (0, .ref b), (1, .ref (u 0)), (2, .ref (w 0)), (3, .ref (u 52001)), (4, .int (nI (6 * n)))]) hx hb dz_1388 hl (by decide) rfl (fun ls hl => ?_)
  refine lv_goto (tgt := 1710) hx hb dz_1390 (by decide) ?_
  exact kk _ _ H locs ls hM (lv_sub hl [2, 3, 4, 5, 6] rfl) hq
theorem dz_1393 : decode cL_law 1393 = .ok (.aload_n 1, 1) := dw_at dwl_11 (p := 73) rfl (by decide +kernel)
theorem dz_1394 : decode cL_law 1394 = .ok (.aload_n 0, 1) := dw_at dwl_11 (p := 74) rfl (by decide +kernel)
theorem dz_1395 : decode cL_law 1395 = .ok (.iload 4, 2) := dw_at dwl_11 (p := 75) rfl (by decide +kernel)
theorem dz_1397 : decode cL_law 1397 = .ok (.iconst 1, 1) := dw_at dwl_11 (p := 77) rfl (by decide +kernel)
theorem dz_1398 : decode cL_law 1398 = .ok (.iadd, 1) := dw_at dwl_11 (p := 78) rfl (by decide +kernel)
theorem dz_1399 : decode cL_law 1399 = .ok (.iaload, 1) := dw_at dwl_11 (p := 79) rfl (by decide +kernel)
theorem dz_1400 : decode cL_law 1400 = .ok (.aload_n 0, 1) := dw_at dwl_11 (p := 80) rfl (by decide +kernel)
theorem dz_1401 : decode cL_law 1401 = .ok (.iload 4, 2) := dw_at dwl_11 (p := 81) rfl (by decide +kernel)
theorem dz_1403 : decode cL_law 1403 = .ok (.iconst 2, 1) := dw_at dwl_11 (p := 83) rfl (by decide +kernel)
theorem dz_1404 : decode cL_law 1404 = .ok (.iadd, 1) := dw_at dwl_11 (p := 84) rfl (by decide +kernel)
theorem dz_1405 : decode cL_law 1405 = .ok (.iaload, 1) := dw_at dwl_11 (p := 85) rfl (by decide +kernel)
theorem dz_1406 : decode cL_law 1406 = .ok (.aload_n 3, 1) := dw_at dwl_11 (p := 86) rfl (by decide +kernel)
theorem dz_1407 : decode cL_law 1407 = .ok (.invokestatic 242, 3) := dw_at dwl_11 (p := 87) rfl (by decide +kernel)
theorem dz_1410 : decode cL_law 1410 = .ok (.istore 5, 2) := dw_at dwl_11 (p := 90) rfl (by decide +kernel)
theorem dz_1412 : decode cL_law 1412 = .ok (.aload_n 2, 1) := dw_at dwl_11 (p := 92) rfl (by decide +kernel)
theorem dz_1413 : decode cL_law 1413 = .ok (.aload_n 0, 1) := dw_at dwl_11 (p := 93) rfl (by decide +kernel)
theorem dz_1414 : decode cL_law 1414 = .ok (.iload 4, 2) := dw_at dwl_11 (p := 94) rfl (by decide +kernel)
theorem dz_1416 : decode cL_law 1416 = .ok (.iconst 1, 1) := dw_at dwl_11 (p := 96) rfl (by decide +kernel)
theorem dz_1417 : decode cL_law 1417 = .ok (.iadd, 1) := dw_at dwl_11 (p := 97) rfl (by decide +kernel)
theorem dz_1418 : decode cL_law 1418 = .ok (.iaload, 1) := dw_at dwl_11 (p := 98) rfl (by decide +kernel)
theorem dz_1419 : decode cL_law 1419 = .ok (.aload_n 0, 1) := dw_at dwl_11 (p := 99) rfl (by decide +kernel)
theorem dz_1420 : decode cL_law 1420 = .ok (.iload 4, 2) := dw_at dwl_11 (p := 100) rfl (by decide +kernel)
theorem dz_1422 : decode cL_law 1422 = .ok (.iconst 2, 1) := dw_at dwl_11 (p := 102) rfl (by decide +kernel)
theorem dz_1423 : decode cL_law 1423 = .ok (.iadd, 1) := dw_at dwl_11 (p := 103) rfl (by decide +kernel)
theorem dz_1424 : decode cL_law 1424 = .ok (.iaload, 1) := dw_at dwl_11 (p := 104) rfl (by decide +kernel)
theorem dz_1425 : decode cL_law 1425 = .ok (.invokevirtual 244, 3) := dw_at dwl_11 (p := 105) rfl (by decide +kernel)
theorem dz_1428 : decode cL_law 1428 = .ok (.istore 6, 2) := dw_at dwl_11 (p := 108) rfl (by decide +kernel)
theorem dz_1430 : decode cL_law 1430 = .ok (.goto 280, 3) := dw_at dwl_11 (p := 110) rfl (by decide +kernel)
def ltp_product (vl : Nat → Nat) (K : Nat) (x1 : Int32) (x2 : Int32) (x3 : Int32) (x4 : Int32) (x5 : Int32) (zc zm : ow_MS) : Option ow_LwS :=
 cs1 (le_L_product vl K 0 x1 x2 zc) fun v2 zc1 => cs1 (qe_X13_product K x1 x2 zm) fun v4 zm3 => some (vl, zc1, zm3)
set_option maxHeartbeats 4000000 in
set_option maxRecDepth 100000 in
theorem lxc_product {p : Program} {l : Launch} {e : Env} {s : State} {m : MethodId} {args : Array Value} {below : List Frame} {meth : Method} {c : Code} {b L K n : Nat} {xs : Nat → Int32} {D : va_G} {q : Nat → ClassId} {q5 : ow_Q5} {vl u w sa : Nat → Nat} {zc zm : ow_MS} {S1 : ow_LwS} {Ts : List Cond} {Q : State → Prop} {H : Heap} {locs : List Loc} {ls : Array Slot} {cells slots : Nat} (hx : p.tables.exec = Jvm.exec) (hb : c.code = cL_law) (hml : c.maxLocals = 8) (hown : s.vm.findClass RL = some m.cls) (hts : ∀ w ∈ Ts, w.before args s = true) (hX : va_X b L xs s s.heap) (hbl : b < s.heap.size) (hZ : ∀ w ∈ wZ, w ∈ Ts) (hL1 : ∀ w ∈ wLL, w ∈ Ts) (hC1 : ∀ w ∈ wC, w ∈ Ts) (hM1 : ∀ w ∈ wM, w ∈ Ts) (hG : lx_G l s D q q5 sa) (hLn : L ≤ 3072) (hn : 6 * n + 6 ≤ L) (hq : ltp_product vl K (xs (6 * n + 1)) (xs (6 * n + 2)) (xs (6 * n + 3)) (xs (6 * n + 4)) (xs (6 * n + 5)) zc zm = some S1) (hM : lx_M D q q5 s vl u w zc zm H locs) (hl : lv_has ls 8 [(0, .ref b), (1, .ref (u 0)), (2, .ref (w 0)), (3, .ref (u 52001)), (4, .int (nI (6 * n)))]) (hc : cells + 4 ≤ 601024) (hs : slots + 24 ≤ 7293033) (kk : ∀ (zc1 zm1 : ow_MS) (H1 : Heap) (locs1 : List Loc) (ls1 : Array Slot), lx_M D q q5 s vl u w zc1 zm1 H1 locs1 → lv_has ls1 8 [(0, .ref b), (1, .ref (u 0)), (2, .ref (w 0)), (3, .ref (u 52001)), (4, .int (nI (6 * n)))] → some (vl, zc1, zm1) = some S1 → W p l e room_1 s m args below meth c H1 locs1 (cells + 4) (slots + 24) Q (F0 m 1710 ls1 [])) : W p l e room_1 s m args below meth c H locs cells slots Q (F0 m 1393 ls []) := by
  have hbA : ¬ lx_A s b := Nat.not_le.mpr hbl
  generalize e1 : xs (6 * n + 1) = x1 at hq
  generalize e2 : xs (6 * n + 2) = x2 at hq
  generalize e3 : xs (6 * n + 3) = x3 at hq
  generalize e4 : xs (6 * n + 4) = x4 at hq
  generalize e5 : xs (6 * n + 5) = x5 at hq
  unfold ltp_product at hq
  refine lv_aload_n hx hb dz_1393 rfl (lv_at hl 1 rfl) ?_
  refine lv_aload_n hx hb dz_1394 rfl (lv_at hl 0 rfl) ?_
  refine lv_iload hx hb dz_1395 (lv_at hl 4 rfl) ?_
  refine lv_iconst (v := 1) hx hb dz_1397 (by decide) ?_
  refine lv_iadd hx hb dz_1398 ?_
  refine ow_topi (y := nI (6 * n + 1)) (nI_add (6 * n) 1) ?_
  refine va_sld hx hb hX hbl hbA hM.2.2.2.2.2 (vp_in_nI (n := 6 * n + 1) (N := L) (by omega) (by omega)) dz_1399 ?_
  refine ow_topi (y := x1) ((congrArg xs (nI_clamp (by omega))).trans e1) ?_
  refine lv_aload_n hx hb dz_1400 rfl (lv_at hl 0 rfl) ?_
  refine lv_iload hx hb dz_1401 (lv_at hl 4 rfl) ?_
  refine lv_iconst (v := 2) hx hb dz_1403 (by decide) ?_
  refine lv_iadd hx hb dz_1404 ?_
  refine ow_topi (y := nI (6 * n + 2)) (nI_add (6 * n) 2) ?_
  refine va_sld hx hb hX hbl hbA hM.2.2.2.2.2 (vp_in_nI (n := 6 * n + 2) (N := L) (by omega) (by omega)) dz_1405 ?_
  refine ow_topi (y := x2) ((congrArg xs (nI_clamp (by omega))).trans e2) ?_
  refine lv_aload_n hx hb dz_1406 rfl (lv_at hl 3 rfl) ?_
  obtain ⟨v2, zc1, hcq, hq⟩ := tw_cl1 hq
  refine lx_wrap hM (vx_runSX (As := [.ref (u 0), .int x1, .int x2, .ref (u 52001)]) (rest := []) ⟨hx, hb, hml, hown, hts⟩ (kl_L_product l D q vl u hM.2.2.1.1 hG.1 sa K 0 x1 x2 (by unfold cw_X11 ci_X11; exact List.mem_singleton.mpr rfl) zc zc1 v2 hcq) (vx_cwSW 4 hts (lx_gS (lx_all wLL_good rfl) (lx_mem hL1 (hZ _ zq_228)) (hZ _ zq_229) (hZ _ zq_230) (hZ _ zq_3) rfl rfl rfl) rfl rfl rfl (by decide +kernel) ⟨(Nat.le_of_ble_eq_true rfl), (Nat.le_of_ble_eq_true rfl)⟩) (lx_preL hG hM) rfl rfl hl.1 rfl (lv_room (Nat.le_of_ble_eq_true rfl)) dz_1407 ⟨(by show _ ≤ 601024; omega), (by show _ ≤ 7293033; omega)⟩) (fun H locs hM => ?_)
  refine lv_istore (lv' := [(5, .int v2), (0, .ref b), (1, .ref (u 0)), (2, .ref (w 0)), (3, .ref (u 52001)), (4, .int (nI (6 * n)))]) hx hb dz_1410 hl (by decide) rfl (fun ls hl => ?_)
  refine lv_aload_n hx hb dz_1412 rfl (lv_at hl 3 rfl) ?_
  refine lv_aload_n hx hb dz_1413 rfl (lv_at hl 1 rfl) ?_
  refine lv_iload hx hb dz_1414 (lv_at hl 5 rfl) ?_
  refine lv_iconst (v := 1) hx hb dz_1416 (by decide) ?_
  refine lv_iadd hx hb dz_1417 ?_
  refine ow_topi (y := nI (6 * n + 1)) (nI_add (6 * n) 1) ?_
  refine va_sld hx hb hX hbl hbA hM.2.2.2.2.2 (vp_in_nI (n := 6 * n + 1) (N := L) (by omega) (by omega)) dz_1418 ?_
  refine ow_topi (y := x1) ((congrArg xs (nI_clamp (by omega))).trans e1) ?_
  refine lv_aload_n hx hb dz_1419 rfl (lv_at hl 1 rfl) ?_
  refine lv_iload hx hb dz_1420 (lv_at hl 5 rfl) ?_
  refine lv_iconst (v := 2) hx hb dz_1422 (by decide) ?_
  refine lv_iadd hx hb dz_1423 ?_
  refine ow_topi (y := nI (6 * n + 2)) (nI_add (6 * n) 2) ?_
  refine va_sld hx hb hX hbl hbA hM.2.2.2.2.2 (vp_in_nI (n := 6 * n + 2) (N := L) (by omega) (by omega)) dz_1424 ?_
  refine ow_topi (y := x2) ((congrArg xs (nI_clamp (by omega))).trans e2) ?_
  obtain ⟨v4, zm3, hcq, hq⟩ := tw_cl1 hq
  refine lx_refi hM (va_runV (As := [.int x1, .int x2]) (rest := []) ⟨hx, hb, hml, hown, hts⟩ (km_X13_product l D q5 w hM.2.2.2.1.1 K x1 x2 zm zm3 v4 hcq) (cwV 2 hts (lx_gV (lx_all wM_good rfl) (lx_mem hM1 (hZ _ zq_231)) (hZ _ zq_232) (hZ _ zq_233) (hZ _ zq_234) (hZ _ zq_8) rfl rfl rfl rfl) rfl rfl rfl cd_X13_product ⟨(Nat.le_of_ble_eq_true rfl), (Nat.le_of_ble_eq_true rfl)⟩) (lx_preM hG hM) rfl rfl hl.1 rfl (lv_room (Nat.le_of_ble_eq_true rfl)) dz_1425 ⟨(by show _ ≤ 601024; omega), (by show _ ≤ 7293033; omega)⟩) (fun H locs hM => ?_)
  refine lv_istore (lv' := [(6, .int v4), (5, .int v2), (0, .ref b), (1, .ref (u 0)), (2, .ref (w 0)), (3, .ref (u 52001)), (4, .int (nI (6 * n)))]) hx hb dz_1428 hl (by decide) rfl (fun ls hl => ?_)
  refine lv_goto (tgt := 1710) hx hb dz_1430 (by decide) ?_
  exact kk _ _ H locs ls hM (lv_sub hl [2, 3, 4, 5, 6] rfl) hq
theorem dz_1433 : decode cL_law 1433 = .ok (.aload_n 1, 1) := dw_at dwl_11 (p := 113) rfl (by decide +kernel)
theorem dz_1434 : decode cL_law 1434 = .ok (.aload_n 0, 1) := dw_at dwl_11 (p := 114) rfl (by decide +kernel)
theorem dz_1435 : decode cL_law 1435 = .ok (.iload 4, 2) := dw_at dwl_11 (p := 115) rfl (by decide +kernel)
theorem dz_1437 : decode cL_law 1437 = .ok (.iconst 1, 1) := dw_at dwl_11 (p := 117) rfl (by decide +kernel)
theorem dz_1438 : decode cL_law 1438 = .ok (.iadd, 1) := dw_at dwl_11 (p := 118) rfl (by decide +kernel)
theorem dz_1439 : decode cL_law 1439 = .ok (.iaload, 1) := dw_at dwl_11 (p := 119) rfl (by decide +kernel)
theorem dz_1440 : decode cL_law 1440 = .ok (.aload_n 3, 1) := dw_at dwl_12 (p := 0) rfl (by decide +kernel)
theorem dz_1441 : decode cL_law 1441 = .ok (.invokestatic 245, 3) := dw_at dwl_12 (p := 1) rfl (by decide +kernel)
theorem dz_1444 : decode cL_law 1444 = .ok (.istore 5, 2) := dw_at dwl_12 (p := 4) rfl (by decide +kernel)
theorem dz_1446 : decode cL_law 1446 = .ok (.aload_n 2, 1) := dw_at dwl_12 (p := 6) rfl (by decide +kernel)
theorem dz_1447 : decode cL_law 1447 = .ok (.aload_n 0, 1) := dw_at dwl_12 (p := 7) rfl (by decide +kernel)
theorem dz_1448 : decode cL_law 1448 = .ok (.iload 4, 2) := dw_at dwl_12 (p := 8) rfl (by decide +kernel)
theorem dz_1450 : decode cL_law 1450 = .ok (.iconst 1, 1) := dw_at dwl_12 (p := 10) rfl (by decide +kernel)
theorem dz_1451 : decode cL_law 1451 = .ok (.iadd, 1) := dw_at dwl_12 (p := 11) rfl (by decide +kernel)
theorem dz_1452 : decode cL_law 1452 = .ok (.iaload, 1) := dw_at dwl_12 (p := 12) rfl (by decide +kernel)
theorem dz_1453 : decode cL_law 1453 = .ok (.invokevirtual 247, 3) := dw_at dwl_12 (p := 13) rfl (by decide +kernel)
theorem dz_1456 : decode cL_law 1456 = .ok (.istore 6, 2) := dw_at dwl_12 (p := 16) rfl (by decide +kernel)
theorem dz_1458 : decode cL_law 1458 = .ok (.goto 252, 3) := dw_at dwl_12 (p := 18) rfl (by decide +kernel)
def ltp_inverse (vl : Nat → Nat) (K : Nat) (x1 : Int32) (x2 : Int32) (x3 : Int32) (x4 : Int32) (x5 : Int32) (zc zm : ow_MS) : Option ow_LwS :=
 cs1 (le_L_inverse vl K 0 x1 zc) fun v2 zc1 => cs1 (qe_X13_inverse K x1 zm) fun v4 zm3 => some (vl, zc1, zm3)
set_option maxHeartbeats 4000000 in
set_option maxRecDepth 100000 in
theorem lxc_inverse {p : Program} {l : Launch} {e : Env} {s : State} {m : MethodId} {args : Array Value} {below : List Frame} {meth : Method} {c : Code} {b L K n : Nat} {xs : Nat → Int32} {D : va_G} {q : Nat → ClassId} {q5 : ow_Q5} {vl u w sa : Nat → Nat} {zc zm : ow_MS} {S1 : ow_LwS} {Ts : List Cond} {Q : State → Prop} {H : Heap} {locs : List Loc} {ls : Array Slot} {cells slots : Nat} (hx : p.tables.exec = Jvm.exec) (hb : c.code = cL_law) (hml : c.maxLocals = 8) (hown : s.vm.findClass RL = some m.cls) (hts : ∀ w ∈ Ts, w.before args s = true) (hX : va_X b L xs s s.heap) (hbl : b < s.heap.size) (hZ : ∀ w ∈ wZ, w ∈ Ts) (hL1 : ∀ w ∈ wLL, w ∈ Ts) (hC1 : ∀ w ∈ wC, w ∈ Ts) (hM1 : ∀ w ∈ wM, w ∈ Ts) (hG : lx_G l s D q q5 sa) (hLn : L ≤ 3072) (hn : 6 * n + 6 ≤ L) (hq : ltp_inverse vl K (xs (6 * n + 1)) (xs (6 * n + 2)) (xs (6 * n + 3)) (xs (6 * n + 4)) (xs (6 * n + 5)) zc zm = some S1) (hM : lx_M D q q5 s vl u w zc zm H locs) (hl : lv_has ls 8 [(0, .ref b), (1, .ref (u 0)), (2, .ref (w 0)), (3, .ref (u 52001)), (4, .int (nI (6 * n)))]) (hc : cells + 2 ≤ 601024) (hs : slots + 12 ≤ 7293033) (kk : ∀ (zc1 zm1 : ow_MS) (H1 : Heap) (locs1 : List Loc) (ls1 : Array Slot), lx_M D q q5 s vl u w zc1 zm1 H1 locs1 → lv_has ls1 8 [(0, .ref b), (1, .ref (u 0)), (2, .ref (w 0)), (3, .ref (u 52001)), (4, .int (nI (6 * n)))] → some (vl, zc1, zm1) = some S1 → W p l e room_1 s m args below meth c H1 locs1 (cells + 2) (slots + 12) Q (F0 m 1710 ls1 [])) : W p l e room_1 s m args below meth c H locs cells slots Q (F0 m 1433 ls []) := by
  have hbA : ¬ lx_A s b := Nat.not_le.mpr hbl
  generalize e1 : xs (6 * n + 1) = x1 at hq
  generalize e2 : xs (6 * n + 2) = x2 at hq
  generalize e3 : xs (6 * n + 3) = x3 at hq
  generalize e4 : xs (6 * n + 4) = x4 at hq
  generalize e5 : xs (6 * n + 5) = x5 at hq
  unfold ltp_inverse at hq
  refine lv_aload_n hx hb dz_1433 rfl (lv_at hl 1 rfl) ?_
  refine lv_aload_n hx hb dz_1434 rfl (lv_at hl 0 rfl) ?_
  refine lv_iload hx hb dz_1435 (lv_at hl 4 rfl) ?_
  refine lv_iconst (v := 1) hx hb dz_1437 (by decide) ?_
  refine lv_iadd hx hb dz_1438 ?_
  refine ow_topi (y := nI (6 * n + 1)) (nI_add (6 * n) 1) ?_
  refine va_sld hx hb hX hbl hbA hM.2.2.2.2.2 (vp_in_nI (n := 6 * n + 1) (N := L) (by omega) (by omega)) dz_1439 ?_
  refine ow_topi (y := x1) ((congrArg xs (nI_clamp (by omega))).trans e1) ?_
  refine lv_aload_n hx hb dz_1440 rfl (lv_at hl 3 rfl) ?_
  obtain ⟨v2, zc1, hcq, hq⟩ := tw_cl1 hq
  refine lx_wrap hM (vx_runSX (As := [.ref (u 0), .int x1, .ref (u 52001)]) (rest := []) ⟨hx, hb, hml, hown, hts⟩ (kl_L_inverse l D q vl u hM.2.2.1.1 hG.1 sa K 0 x1 (by unfold cw_X11 ci_X11; exact List.mem_singleton.mpr rfl) zc zc1 v2 hcq) (vx_cwSW 3 hts (lx_gS (lx_all wLL_good rfl) (lx_mem hL1 (hZ _ zq_235)) (hZ _ zq_236) (hZ _ zq_237) (hZ _ zq_3) rfl rfl rfl) rfl rfl rfl (by decide +kernel) ⟨(Nat.le_of_ble_eq_true rfl), (Nat.le_of_ble_eq_true rfl)⟩) (lx_preL hG hM) rfl rfl hl.1 rfl (lv_room (Nat.le_of_ble_eq_true rfl)) dz_1441 ⟨(by show _ ≤ 601024; omega), (by show _ ≤ 7293033; omega)⟩) (fun H locs hM => ?_)
  refine lv_istore (lv' := [(5, .int v2), (0, .ref b), (1, .ref (u 0)), (2, .ref (w 0)), (3, .ref (u 52001)), (4, .int (nI (6 * n)))]) hx hb dz_1444 hl (by decide) rfl (fun ls hl => ?_)
  refine lv_aload_n hx hb dz_1446 rfl (lv_at hl 3 rfl) ?_
  refine lv_aload_n hx hb dz_1447 rfl (lv_at hl 1 rfl) ?_
  refine lv_iload hx hb dz_1448 (lv_at hl 5 rfl) ?_
  refine lv_iconst (v := 1) hx hb dz_1450 (by decide) ?_
  refine lv_iadd hx hb dz_1451 ?_
  refine ow_topi (y := nI (6 * n + 1)) (nI_add (6 * n) 1) ?_
  refine va_sld hx hb hX hbl hbA hM.2.2.2.2.2 (vp_in_nI (n := 6 * n + 1) (N := L) (by omega) (by omega)) dz_1452 ?_
  refine ow_topi (y := x1) ((congrArg xs (nI_clamp (by omega))).trans e1) ?_
  obtain ⟨v4, zm3, hcq, hq⟩ := tw_cl1 hq
  refine lx_refi hM (va_runV (As := [.int x1]) (rest := []) ⟨hx, hb, hml, hown, hts⟩ (km_X13_inverse l D q5 w hM.2.2.2.1.1 K x1 zm zm3 v4 hcq) (cwV 1 hts (lx_gV (lx_all wM_good rfl) (lx_mem hM1 (hZ _ zq_238)) (hZ _ zq_239) (hZ _ zq_240) (hZ _ zq_241) (hZ _ zq_8) rfl rfl rfl rfl) rfl rfl rfl cd_X13_inverse ⟨(Nat.le_of_ble_eq_true rfl), (Nat.le_of_ble_eq_true rfl)⟩) (lx_preM hG hM) rfl rfl hl.1 rfl (lv_room (Nat.le_of_ble_eq_true rfl)) dz_1453 ⟨(by show _ ≤ 601024; omega), (by show _ ≤ 7293033; omega)⟩) (fun H locs hM => ?_)
  refine lv_istore (lv' := [(6, .int v4), (5, .int v2), (0, .ref b), (1, .ref (u 0)), (2, .ref (w 0)), (3, .ref (u 52001)), (4, .int (nI (6 * n)))]) hx hb dz_1456 hl (by decide) rfl (fun ls hl => ?_)
  refine lv_goto (tgt := 1710) hx hb dz_1458 (by decide) ?_
  exact kk _ _ H locs ls hM (lv_sub hl [2, 3, 4, 5, 6] rfl) hq
theorem dz_1461 : decode cL_law 1461 = .ok (.aload_n 1, 1) := dw_at dwl_12 (p := 21) rfl (by decide +kernel)
theorem dz_1462 : decode cL_law 1462 = .ok (.aload_n 0, 1) := dw_at dwl_12 (p := 22) rfl (by decide +kernel)
theorem dz_1463 : decode cL_law 1463 = .ok (.iload 4, 2) := dw_at dwl_12 (p := 23) rfl (by decide +kernel)
theorem dz_1465 : decode cL_law 1465 = .ok (.iconst 1, 1) := dw_at dwl_12 (p := 25) rfl (by decide +kernel)
theorem dz_1466 : decode cL_law 1466 = .ok (.iadd, 1) := dw_at dwl_12 (p := 26) rfl (by decide +kernel)
theorem dz_1467 : decode cL_law 1467 = .ok (.iaload, 1) := dw_at dwl_12 (p := 27) rfl (by decide +kernel)
theorem dz_1468 : decode cL_law 1468 = .ok (.aload_n 0, 1) := dw_at dwl_12 (p := 28) rfl (by decide +kernel)
theorem dz_1469 : decode cL_law 1469 = .ok (.iload 4, 2) := dw_at dwl_12 (p := 29) rfl (by decide +kernel)
theorem dz_1471 : decode cL_law 1471 = .ok (.iconst 2, 1) := dw_at dwl_12 (p := 31) rfl (by decide +kernel)
theorem dz_1472 : decode cL_law 1472 = .ok (.iadd, 1) := dw_at dwl_12 (p := 32) rfl (by decide +kernel)
theorem dz_1473 : decode cL_law 1473 = .ok (.iaload, 1) := dw_at dwl_12 (p := 33) rfl (by decide +kernel)
theorem dz_1474 : decode cL_law 1474 = .ok (.aload_n 3, 1) := dw_at dwl_12 (p := 34) rfl (by decide +kernel)
theorem dz_1475 : decode cL_law 1475 = .ok (.invokestatic 248, 3) := dw_at dwl_12 (p := 35) rfl (by decide +kernel)
theorem dz_1478 : decode cL_law 1478 = .ok (.istore 5, 2) := dw_at dwl_12 (p := 38) rfl (by decide +kernel)
theorem dz_1480 : decode cL_law 1480 = .ok (.aload_n 2, 1) := dw_at dwl_12 (p := 40) rfl (by decide +kernel)
theorem dz_1481 : decode cL_law 1481 = .ok (.aload_n 0, 1) := dw_at dwl_12 (p := 41) rfl (by decide +kernel)
theorem dz_1482 : decode cL_law 1482 = .ok (.iload 4, 2) := dw_at dwl_12 (p := 42) rfl (by decide +kernel)
theorem dz_1484 : decode cL_law 1484 = .ok (.iconst 1, 1) := dw_at dwl_12 (p := 44) rfl (by decide +kernel)
theorem dz_1485 : decode cL_law 1485 = .ok (.iadd, 1) := dw_at dwl_12 (p := 45) rfl (by decide +kernel)
theorem dz_1486 : decode cL_law 1486 = .ok (.iaload, 1) := dw_at dwl_12 (p := 46) rfl (by decide +kernel)
theorem dz_1487 : decode cL_law 1487 = .ok (.aload_n 0, 1) := dw_at dwl_12 (p := 47) rfl (by decide +kernel)
theorem dz_1488 : decode cL_law 1488 = .ok (.iload 4, 2) := dw_at dwl_12 (p := 48) rfl (by decide +kernel)
theorem dz_1490 : decode cL_law 1490 = .ok (.iconst 2, 1) := dw_at dwl_12 (p := 50) rfl (by decide +kernel)
theorem dz_1491 : decode cL_law 1491 = .ok (.iadd, 1) := dw_at dwl_12 (p := 51) rfl (by decide +kernel)
theorem dz_1492 : decode cL_law 1492 = .ok (.iaload, 1) := dw_at dwl_12 (p := 52) rfl (by decide +kernel)
theorem dz_1493 : decode cL_law 1493 = .ok (.invokevirtual 250, 3) := dw_at dwl_12 (p := 53) rfl (by decide +kernel)
theorem dz_1496 : decode cL_law 1496 = .ok (.istore 6, 2) := dw_at dwl_12 (p := 56) rfl (by decide +kernel)
theorem dz_1498 : decode cL_law 1498 = .ok (.goto 212, 3) := dw_at dwl_12 (p := 58) rfl (by decide +kernel)
def ltp_normal (vl : Nat → Nat) (K : Nat) (x1 : Int32) (x2 : Int32) (x3 : Int32) (x4 : Int32) (x5 : Int32) (zc zm : ow_MS) : Option ow_LwS :=
 cs1 (le_L_normal vl K 0 x1 x2 zc) fun v2 zc1 => cs1 (qe_X13_normal K x1 x2 zm) fun v4 zm3 => some (vl, zc1, zm3)
set_option maxHeartbeats 4000000 in
set_option maxRecDepth 100000 in
theorem lxc_normal {p : Program} {l : Launch} {e : Env} {s : State} {m : MethodId} {args : Array Value} {below : List Frame} {meth : Method} {c : Code} {b L K n : Nat} {xs : Nat → Int32} {D : va_G} {q : Nat → ClassId} {q5 : ow_Q5} {vl u w sa : Nat → Nat} {zc zm : ow_MS} {S1 : ow_LwS} {Ts : List Cond} {Q : State → Prop} {H : Heap} {locs : List Loc} {ls : Array Slot} {cells slots : Nat} (hx : p.tables.exec = Jvm.exec) (hb : c.code = cL_law) (hml : c.maxLocals = 8) (hown : s.vm.findClass RL = some m.cls) (hts : ∀ w ∈ Ts, w.before args s = true) (hX : va_X b L xs s s.heap) (hbl : b < s.heap.size) (hZ : ∀ w ∈ wZ, w ∈ Ts) (hL1 : ∀ w ∈ wLL, w ∈ Ts) (hC1 : ∀ w ∈ wC, w ∈ Ts) (hM1 : ∀ w ∈ wM, w ∈ Ts) (hG : lx_G l s D q q5 sa) (hLn : L ≤ 3072) (hn : 6 * n + 6 ≤ L) (hq : ltp_normal vl K (xs (6 * n + 1)) (xs (6 * n + 2)) (xs (6 * n + 3)) (xs (6 * n + 4)) (xs (6 * n + 5)) zc zm = some S1) (hM : lx_M D q q5 s vl u w zc zm H locs) (hl : lv_has ls 8 [(0, .ref b), (1, .ref (u 0)), (2, .ref (w 0)), (3, .ref (u 52001)), (4, .int (nI (6 * n)))]) (hc : cells + 2 ≤ 601024) (hs : slots + 12 ≤ 7293033) (kk : ∀ (zc1 zm1 : ow_MS) (H1 : Heap) (locs1 : List Loc) (ls1 : Array Slot), lx_M D q q5 s vl u w zc1 zm1 H1 locs1 → lv_has ls1 8 [(0, .ref b), (1, .ref (u 0)), (2, .ref (w 0)), (3, .ref (u 52001)), (4, .int (nI (6 * n)))] → some (vl, zc1, zm1) = some S1 → W p l e room_1 s m args below meth c H1 locs1 (cells + 2) (slots + 12) Q (F0 m 1710 ls1 [])) : W p l e room_1 s m args below meth c H locs cells slots Q (F0 m 1461 ls []) := by
  have hbA : ¬ lx_A s b := Nat.not_le.mpr hbl
  generalize e1 : xs (6 * n + 1) = x1 at hq
  generalize e2 : xs (6 * n + 2) = x2 at hq
  generalize e3 : xs (6 * n + 3) = x3 at hq
  generalize e4 : xs (6 * n + 4) = x4 at hq
  generalize e5 : xs (6 * n + 5) = x5 at hq
  unfold ltp_normal at hq
  refine lv_aload_n hx hb dz_1461 rfl (lv_at hl 1 rfl) ?_
  refine lv_aload_n hx hb dz_1462 rfl (lv_at hl 0 rfl) ?_
  refine lv_iload hx hb dz_1463 (lv_at hl 4 rfl) ?_
  refine lv_iconst (v := 1) hx hb dz_1465 (by decide) ?_
  refine lv_iadd hx hb dz_1466 ?_
  refine ow_topi (y := nI (6 * n + 1)) (nI_add (6 * n) 1) ?_
  refine va_sld hx hb hX hbl hbA hM.2.2.2.2.2 (vp_in_nI (n := 6 * n + 1) (N := L) (by omega) (by omega)) dz_1467 ?_
  refine ow_topi (y := x1) ((congrArg xs (nI_clamp (by omega))).trans e1) ?_
  refine lv_aload_n hx hb dz_1468 rfl (lv_at hl 0 rfl) ?_
  refine lv_iload hx hb dz_1469 (lv_at hl 4 rfl) ?_
  refine lv_iconst (v := 2) hx hb dz_1471 (by decide) ?_
  refine lv_iadd hx hb dz_1472 ?_
  refine ow_topi (y := nI (6 * n + 2)) (nI_add (6 * n) 2) ?_
  refine va_sld hx hb hX hbl hbA hM.2.2.2.2.2 (vp_in_nI (n := 6 * n + 2) (N := L) (by omega) (by omega)) dz_1473 ?_
  refine ow_topi (y := x2) ((congrArg xs (nI_clamp (by omega))).trans e2) ?_
  refine lv_aload_n hx hb dz_1474 rfl (lv_at hl 3 rfl) ?_
  obtain ⟨v2, zc1, hcq, hq⟩ := tw_cl1 hq
  refine lx_wrap hM (vx_runSX (As := [.ref (u 0), .int x1, .int x2, .ref (u 52001)]) (rest := []) ⟨hx, hb, hml, hown, hts⟩ (kl_L_normal l D q vl u hM.2.2.1.1 hG.1 sa K 0 x1 x2 (by unfold cw_X11 ci_X11; exact List.mem_singleton.mpr rfl) zc zc1 v2 hcq) (vx_cwSW 4 hts (lx_gS (lx_all wLL_good rfl) (lx_mem hL1 (hZ _ zq_242)) (hZ _ zq_243) (hZ _ zq_244) (hZ _ zq_3) rfl rfl rfl) rfl rfl rfl (by decide +kernel) ⟨(Nat.le_of_ble_eq_true rfl), (Nat.le_of_ble_eq_true rfl)⟩) (lx_preL hG hM) rfl rfl hl.1 rfl (lv_room (Nat.le_of_ble_eq_true rfl)) dz_1475 ⟨(by show _ ≤ 601024; omega), (by show _ ≤ 7293033; omega)⟩) (fun H locs hM => ?_)
  refine lv_istore (lv' := [(5, .int v2), (0, .ref b), (1, .ref (u 0)), (2, .ref (w 0)), (3, .ref (u 52001)), (4, .int (nI (6 * n)))]) hx hb dz_1478 hl (by decide) rfl (fun ls hl => ?_)
  refine lv_aload_n hx hb dz_1480 rfl (lv_at hl 3 rfl) ?_
  refine lv_aload_n hx hb dz_1481 rfl (lv_at hl 1 rfl) ?_
  refine lv_iload hx hb dz_1482 (lv_at hl 5 rfl) ?_
  refine lv_iconst (v := 1) hx hb dz_1484 (by decide) ?_
  refine lv_iadd hx hb dz_1485 ?_
  refine ow_topi (y := nI (6 * n + 1)) (nI_add (6 * n) 1) ?_
  refine va_sld hx hb hX hbl hbA hM.2.2.2.2.2 (vp_in_nI (n := 6 * n + 1) (N := L) (by omega) (by omega)) dz_1486 ?_
  refine ow_topi (y := x1) ((congrArg xs (nI_clamp (by omega))).trans e1) ?_
  refine lv_aload_n hx hb dz_1487 rfl (lv_at hl 1 rfl) ?_
  refine lv_iload hx hb dz_1488 (lv_at hl 5 rfl) ?_
  refine lv_iconst (v := 2) hx hb dz_1490 (by decide) ?_
  refine lv_iadd hx hb dz_1491 ?_
  refine ow_topi (y := nI (6 * n + 2)) (nI_add (6 * n) 2) ?_
  refine va_sld hx hb hX hbl hbA hM.2.2.2.2.2 (vp_in_nI (n := 6 * n + 2) (N := L) (by omega) (by omega)) dz_1492 ?_
  refine ow_topi (y := x2) ((congrArg xs (nI_clamp (by omega))).trans e2) ?_
  obtain ⟨v4, zm3, hcq, hq⟩ := tw_cl1 hq
  refine lx_refi hM (va_runV (As := [.int x1, .int x2]) (rest := []) ⟨hx, hb, hml, hown, hts⟩ (km_X13_normal l D q5 w hM.2.2.2.1.1 K x1 x2 zm zm3 v4 hcq) (cwV 2 hts (lx_gV (lx_all wM_good rfl) (lx_mem hM1 (hZ _ zq_245)) (hZ _ zq_246) (hZ _ zq_247) (hZ _ zq_248) (hZ _ zq_8) rfl rfl rfl rfl) rfl rfl rfl cd_X13_normal ⟨(Nat.le_of_ble_eq_true rfl), (Nat.le_of_ble_eq_true rfl)⟩) (lx_preM hG hM) rfl rfl hl.1 rfl (lv_room (Nat.le_of_ble_eq_true rfl)) dz_1493 ⟨(by show _ ≤ 601024; omega), (by show _ ≤ 7293033; omega)⟩) (fun H locs hM => ?_)
  refine lv_istore (lv' := [(6, .int v4), (5, .int v2), (0, .ref b), (1, .ref (u 0)), (2, .ref (w 0)), (3, .ref (u 52001)), (4, .int (nI (6 * n)))]) hx hb dz_1496 hl (by decide) rfl (fun ls hl => ?_)
  refine lv_goto (tgt := 1710) hx hb dz_1498 (by decide) ?_
  exact kk _ _ H locs ls hM (lv_sub hl [2, 3, 4, 5, 6] rfl) hq
theorem dz_1501 : decode cL_law 1501 = .ok (.aload_n 1, 1) := dw_at dwl_12 (p := 61) rfl (by decide +kernel)
theorem dz_1502 : decode cL_law 1502 = .ok (.aload_n 0, 1) := dw_at dwl_12 (p := 62) rfl (by decide +kernel)
theorem dz_1503 : decode cL_law 1503 = .ok (.iload 4, 2) := dw_at dwl_12 (p := 63) rfl (by decide +kernel)
theorem dz_1505 : decode cL_law 1505 = .ok (.iconst 1, 1) := dw_at dwl_12 (p := 65) rfl (by decide +kernel)
theorem dz_1506 : decode cL_law 1506 = .ok (.iadd, 1) := dw_at dwl_12 (p := 66) rfl (by decide +kernel)
theorem dz_1507 : decode cL_law 1507 = .ok (.iaload, 1) := dw_at dwl_12 (p := 67) rfl (by decide +kernel)
theorem dz_1508 : decode cL_law 1508 = .ok (.aload_n 0, 1) := dw_at dwl_12 (p := 68) rfl (by decide +kernel)
theorem dz_1509 : decode cL_law 1509 = .ok (.iload 4, 2) := dw_at dwl_12 (p := 69) rfl (by decide +kernel)
theorem dz_1511 : decode cL_law 1511 = .ok (.iconst 2, 1) := dw_at dwl_12 (p := 71) rfl (by decide +kernel)
theorem dz_1512 : decode cL_law 1512 = .ok (.iadd, 1) := dw_at dwl_12 (p := 72) rfl (by decide +kernel)
theorem dz_1513 : decode cL_law 1513 = .ok (.iaload, 1) := dw_at dwl_12 (p := 73) rfl (by decide +kernel)
theorem dz_1514 : decode cL_law 1514 = .ok (.aload_n 0, 1) := dw_at dwl_12 (p := 74) rfl (by decide +kernel)
theorem dz_1515 : decode cL_law 1515 = .ok (.iload 4, 2) := dw_at dwl_12 (p := 75) rfl (by decide +kernel)
theorem dz_1517 : decode cL_law 1517 = .ok (.iconst 3, 1) := dw_at dwl_12 (p := 77) rfl (by decide +kernel)
theorem dz_1518 : decode cL_law 1518 = .ok (.iadd, 1) := dw_at dwl_12 (p := 78) rfl (by decide +kernel)
theorem dz_1519 : decode cL_law 1519 = .ok (.iaload, 1) := dw_at dwl_12 (p := 79) rfl (by decide +kernel)
theorem dz_1520 : decode cL_law 1520 = .ok (.aload_n 3, 1) := dw_at dwl_12 (p := 80) rfl (by decide +kernel)
theorem dz_1521 : decode cL_law 1521 = .ok (.invokestatic 251, 3) := dw_at dwl_12 (p := 81) rfl (by decide +kernel)
theorem dz_1524 : decode cL_law 1524 = .ok (.istore 5, 2) := dw_at dwl_12 (p := 84) rfl (by decide +kernel)
theorem dz_1526 : decode cL_law 1526 = .ok (.aload_n 2, 1) := dw_at dwl_12 (p := 86) rfl (by decide +kernel)
theorem dz_1527 : decode cL_law 1527 = .ok (.aload_n 0, 1) := dw_at dwl_12 (p := 87) rfl (by decide +kernel)
theorem dz_1528 : decode cL_law 1528 = .ok (.iload 4, 2) := dw_at dwl_12 (p := 88) rfl (by decide +kernel)
theorem dz_1530 : decode cL_law 1530 = .ok (.iconst 1, 1) := dw_at dwl_12 (p := 90) rfl (by decide +kernel)
theorem dz_1531 : decode cL_law 1531 = .ok (.iadd, 1) := dw_at dwl_12 (p := 91) rfl (by decide +kernel)
theorem dz_1532 : decode cL_law 1532 = .ok (.iaload, 1) := dw_at dwl_12 (p := 92) rfl (by decide +kernel)
theorem dz_1533 : decode cL_law 1533 = .ok (.aload_n 0, 1) := dw_at dwl_12 (p := 93) rfl (by decide +kernel)
theorem dz_1534 : decode cL_law 1534 = .ok (.iload 4, 2) := dw_at dwl_12 (p := 94) rfl (by decide +kernel)
theorem dz_1536 : decode cL_law 1536 = .ok (.iconst 2, 1) := dw_at dwl_12 (p := 96) rfl (by decide +kernel)
theorem dz_1537 : decode cL_law 1537 = .ok (.iadd, 1) := dw_at dwl_12 (p := 97) rfl (by decide +kernel)
theorem dz_1538 : decode cL_law 1538 = .ok (.iaload, 1) := dw_at dwl_12 (p := 98) rfl (by decide +kernel)
theorem dz_1539 : decode cL_law 1539 = .ok (.aload_n 0, 1) := dw_at dwl_12 (p := 99) rfl (by decide +kernel)
theorem dz_1540 : decode cL_law 1540 = .ok (.iload 4, 2) := dw_at dwl_12 (p := 100) rfl (by decide +kernel)
theorem dz_1542 : decode cL_law 1542 = .ok (.iconst 3, 1) := dw_at dwl_12 (p := 102) rfl (by decide +kernel)
theorem dz_1543 : decode cL_law 1543 = .ok (.iadd, 1) := dw_at dwl_12 (p := 103) rfl (by decide +kernel)
theorem dz_1544 : decode cL_law 1544 = .ok (.iaload, 1) := dw_at dwl_12 (p := 104) rfl (by decide +kernel)
theorem dz_1545 : decode cL_law 1545 = .ok (.invokevirtual 253, 3) := dw_at dwl_12 (p := 105) rfl (by decide +kernel)
theorem dz_1548 : decode cL_law 1548 = .ok (.istore 6, 2) := dw_at dwl_12 (p := 108) rfl (by decide +kernel)
theorem dz_1550 : decode cL_law 1550 = .ok (.goto 160, 3) := dw_at dwl_12 (p := 110) rfl (by decide +kernel)
def ltp_factor (vl : Nat → Nat) (K : Nat) (x1 : Int32) (x2 : Int32) (x3 : Int32) (x4 : Int32) (x5 : Int32) (zc zm : ow_MS) : Option ow_LwS :=
 cs1 (le_L_factor vl K 0 x1 x2 x3 zc) fun v2 zc1 => cs1 (qe_X13_factor K x1 x2 x3 zm) fun v4 zm3 => some (vl, zc1, zm3)
set_option maxHeartbeats 4000000 in
set_option maxRecDepth 100000 in
theorem lxc_factor {p : Program} {l : Launch} {e : Env} {s : State} {m : MethodId} {args : Array Value} {below : List Frame} {meth : Method} {c : Code} {b L K n : Nat} {xs : Nat → Int32} {D : va_G} {q : Nat → ClassId} {q5 : ow_Q5} {vl u w sa : Nat → Nat} {zc zm : ow_MS} {S1 : ow_LwS} {Ts : List Cond} {Q : State → Prop} {H : Heap} {locs : List Loc} {ls : Array Slot} {cells slots : Nat} (hx : p.tables.exec = Jvm.exec) (hb : c.code = cL_law) (hml : c.maxLocals = 8) (hown : s.vm.findClass RL = some m.cls) (hts : ∀ w ∈ Ts, w.before args s = true) (hX : va_X b L xs s s.heap) (hbl : b < s.heap.size) (hZ : ∀ w ∈ wZ, w ∈ Ts) (hL1 : ∀ w ∈ wLL, w ∈ Ts) (hC1 : ∀ w ∈ wC, w ∈ Ts) (hM1 : ∀ w ∈ wM, w ∈ Ts) (hG : lx_G l s D q q5 sa) (hLn : L ≤ 3072) (hn : 6 * n + 6 ≤ L) (hq : ltp_factor vl K (xs (6 * n + 1)) (xs (6 * n + 2)) (xs (6 * n + 3)) (xs (6 * n + 4)) (xs (6 * n + 5)) zc zm = some S1) (hM : lx_M D q q5 s vl u w zc zm H locs) (hl : lv_has ls 8 [(0, .ref b), (1, .ref (u 0)), (2, .ref (w 0)), (3, .ref (u 52001)), (4, .int (nI (6 * n)))]) (hc : cells + 1 ≤ 601024) (hs : slots + 6 ≤ 7293033) (kk : ∀ (zc1 zm1 : ow_MS) (H1 : Heap) (locs1 : List Loc) (ls1 : Array Slot), lx_M D q q5 s vl u w zc1 zm1 H1 locs1 → lv_has ls1 8 [(0, .ref b), (1, .ref (u 0)), (2, .ref (w 0)), (3, .ref (u 52001)), (4, .int (nI (6 * n)))] → some (vl, zc1, zm1) = some S1 → W p l e room_1 s m args below meth c H1 locs1 (cells + 1) (slots + 6) Q (F0 m 1710 ls1 [])) : W p l e room_1 s m args below meth c H locs cells slots Q (F0 m 1501 ls []) := by
  have hbA : ¬ lx_A s b := Nat.not_le.mpr hbl
  generalize e1 : xs (6 * n + 1) = x1 at hq
  generalize e2 : xs (6 * n + 2) = x2 at hq
  generalize e3 : xs (6 * n + 3) = x3 at hq
  generalize e4 : xs (6 * n + 4) = x4 at hq
  generalize e5 : xs (6 * n + 5) = x5 at hq
  unfold ltp_factor at hq
  refine lv_aload_n hx hb dz_1501 rfl (lv_at hl 1 rfl) ?_
  refine lv_aload_n hx hb dz_1502 rfl (lv_at hl 0 rfl) ?_
  refine lv_iload hx hb dz_1503 (lv_at hl 4 rfl) ?_
  refine lv_iconst (v := 1) hx hb dz_1505 (by decide) ?_
  refine lv_iadd hx hb dz_1506 ?_
  refine ow_topi (y := nI (6 * n + 1)) (nI_add (6 * n) 1) ?_
  refine va_sld hx hb hX hbl hbA hM.2.2.2.2.2 (vp_in_nI (n := 6 * n + 1) (N := L) (by omega) (by omega)) dz_1507 ?_
  refine ow_topi (y := x1) ((congrArg xs (nI_clamp (by omega))).trans e1) ?_
  refine lv_aload_n hx hb dz_1508 rfl (lv_at hl 0 rfl) ?_
  refine lv_iload hx hb dz_1509 (lv_at hl 4 rfl) ?_
  refine lv_iconst (v := 2) hx hb dz_1511 (by decide) ?_
  refine lv_iadd hx hb dz_1512 ?_
  refine ow_topi (y := nI (6 * n + 2)) (nI_add (6 * n) 2) ?_
  refine va_sld hx hb hX hbl hbA hM.2.2.2.2.2 (vp_in_nI (n := 6 * n + 2) (N := L) (by omega) (by omega)) dz_1513 ?_
  refine ow_topi (y := x2) ((congrArg xs (nI_clamp (by omega))).trans e2) ?_
  refine lv_aload_n hx hb dz_1514 rfl (lv_at hl 0 rfl) ?_
  refine lv_iload hx hb dz_1515 (lv_at hl 4 rfl) ?_
  refine lv_iconst (v := 3) hx hb dz_1517 (by decide) ?_
  refine lv_iadd hx hb dz_1518 ?_
  refine ow_topi (y := nI (6 * n + 3)) (nI_add (6 * n) 3) ?_
  refine va_sld hx hb hX hbl hbA hM.2.2.2.2.2 (vp_in_nI (n := 6 * n + 3) (N := L) (by omega) (by omega)) dz_1519 ?_
  refine ow_topi (y := x3) ((congrArg xs (nI_clamp (by omega))).trans e3) ?_
  refine lv_aload_n hx hb dz_1520 rfl (lv_at hl 3 rfl) ?_
  obtain ⟨v2, zc1, hcq, hq⟩ := tw_cl1 hq
  refine lx_wrap hM (vx_runSX (As := [.ref (u 0), .int x1, .int x2, .int x3, .ref (u 52001)]) (rest := []) ⟨hx, hb, hml, hown, hts⟩ (kl_L_factor l D q vl u hM.2.2.1.1 hG.1 sa K 0 x1 x2 x3 (by unfold cw_X11 ci_X11; exact List.mem_singleton.mpr rfl) zc zc1 v2 hcq) (vx_cwSW 5 hts (lx_gS (lx_all wLL_good rfl) (lx_mem hL1 (hZ _ zq_249)) (hZ _ zq_250) (hZ _ zq_251) (hZ _ zq_3) rfl rfl rfl) rfl rfl rfl (by decide +kernel) ⟨(Nat.le_of_ble_eq_true rfl), (Nat.le_of_ble_eq_true rfl)⟩) (lx_preL hG hM) rfl rfl hl.1 rfl (lv_room (Nat.le_of_ble_eq_true rfl)) dz_1521 ⟨(by show _ ≤ 601024; omega), (by show _ ≤ 7293033; omega)⟩) (fun H locs hM => ?_)
  refine lv_istore (lv' := [(5, .int v2), (0, .ref b), (1, .ref (u 0)), (2, .ref (w 0)), (3, .ref (u 52001)), (4, .int (nI (6 * n)))]) hx hb dz_1524 hl (by decide) rfl (fun ls hl => ?_)
  refine lv_aload_n hx hb dz_1526 rfl (lv_at hl 3 rfl) ?_
  refine lv_aload_n hx hb dz_1527 rfl (lv_at hl 1 rfl) ?_
  refine lv_iload hx hb dz_1528 (lv_at hl 5 rfl) ?_
  refine lv_iconst (v := 1) hx hb dz_1530 (by decide) ?_
  refine lv_iadd hx hb dz_1531 ?_
  refine ow_topi (y := nI (6 * n + 1)) (nI_add (6 * n) 1) ?_
  refine va_sld hx hb hX hbl hbA hM.2.2.2.2.2 (vp_in_nI (n := 6 * n + 1) (N := L) (by omega) (by omega)) dz_1532 ?_
  refine ow_topi (y := x1) ((congrArg xs (nI_clamp (by omega))).trans e1) ?_
  refine lv_aload_n hx hb dz_1533 rfl (lv_at hl 1 rfl) ?_
  refine lv_iload hx hb dz_1534 (lv_at hl 5 rfl) ?_
  refine lv_iconst (v := 2) hx hb dz_1536 (by decide) ?_
  refine lv_iadd hx hb dz_1537 ?_
  refine ow_topi (y := nI (6 * n + 2)) (nI_add (6 * n) 2) ?_
  refine va_sld hx hb hX hbl hbA hM.2.2.2.2.2 (vp_in_nI (n := 6 * n + 2) (N := L) (by omega) (by omega)) dz_1538 ?_
  refine ow_topi (y := x2) ((congrArg xs (nI_clamp (by omega))).trans e2) ?_
  refine lv_aload_n hx hb dz_1539 rfl (lv_at hl 1 rfl) ?_
  refine lv_iload hx hb dz_1540 (lv_at hl 5 rfl) ?_
  refine lv_iconst (v := 3) hx hb dz_1542 (by decide) ?_
  refine lv_iadd hx hb dz_1543 ?_
  refine ow_topi (y := nI (6 * n + 3)) (nI_add (6 * n) 3) ?_
  refine va_sld hx hb hX hbl hbA hM.2.2.2.2.2 (vp_in_nI (n := 6 * n + 3) (N := L) (by omega) (by omega)) dz_1544 ?_
  refine ow_topi (y := x3) ((congrArg xs (nI_clamp (by omega))).trans e3) ?_
  obtain ⟨v4, zm3, hcq, hq⟩ := tw_cl1 hq
  refine lx_refi hM (va_runV (As := [.int x1, .int x2, .int x3]) (rest := []) ⟨hx, hb, hml, hown, hts⟩ (km_X13_factor l D q5 w hM.2.2.2.1.1 K x1 x2 x3 zm zm3 v4 hcq) (cwV 3 hts (lx_gV (lx_all wM_good rfl) (lx_mem hM1 (hZ _ zq_252)) (hZ _ zq_253) (hZ _ zq_254) (hZ _ zq_255) (hZ _ zq_8) rfl rfl rfl rfl) rfl rfl rfl cd_X13_factor ⟨(Nat.le_of_ble_eq_true rfl), (Nat.le_of_ble_eq_true rfl)⟩) (lx_preM hG hM) rfl rfl hl.1 rfl (lv_room (Nat.le_of_ble_eq_true rfl)) dz_1545 ⟨(by show _ ≤ 601024; omega), (by show _ ≤ 7293033; omega)⟩) (fun H locs hM => ?_)
  refine lv_istore (lv' := [(6, .int v4), (5, .int v2), (0, .ref b), (1, .ref (u 0)), (2, .ref (w 0)), (3, .ref (u 52001)), (4, .int (nI (6 * n)))]) hx hb dz_1548 hl (by decide) rfl (fun ls hl => ?_)
  refine lv_goto (tgt := 1710) hx hb dz_1550 (by decide) ?_
  exact kk _ _ H locs ls hM (lv_sub hl [2, 3, 4, 5, 6] rfl) hq
theorem dz_1553 : decode cL_law 1553 = .ok (.aload_n 1, 1) := dw_at dwl_12 (p := 113) rfl (by decide +kernel)
theorem dz_1554 : decode cL_law 1554 = .ok (.aload_n 0, 1) := dw_at dwl_12 (p := 114) rfl (by decide +kernel)
theorem dz_1555 : decode cL_law 1555 = .ok (.iload 4, 2) := dw_at dwl_12 (p := 115) rfl (by decide +kernel)
theorem dz_1557 : decode cL_law 1557 = .ok (.iconst 1, 1) := dw_at dwl_12 (p := 117) rfl (by decide +kernel)
theorem dz_1558 : decode cL_law 1558 = .ok (.iadd, 1) := dw_at dwl_12 (p := 118) rfl (by decide +kernel)
theorem dz_1559 : decode cL_law 1559 = .ok (.iaload, 1) := dw_at dwl_12 (p := 119) rfl (by decide +kernel)
theorem dz_1560 : decode cL_law 1560 = .ok (.aload_n 0, 1) := dw_at dwl_13 (p := 0) rfl (by decide +kernel)
theorem dz_1561 : decode cL_law 1561 = .ok (.iload 4, 2) := dw_at dwl_13 (p := 1) rfl (by decide +kernel)
theorem dz_1563 : decode cL_law 1563 = .ok (.iconst 2, 1) := dw_at dwl_13 (p := 3) rfl (by decide +kernel)
theorem dz_1564 : decode cL_law 1564 = .ok (.iadd, 1) := dw_at dwl_13 (p := 4) rfl (by decide +kernel)
theorem dz_1565 : decode cL_law 1565 = .ok (.iaload, 1) := dw_at dwl_13 (p := 5) rfl (by decide +kernel)
theorem dz_1566 : decode cL_law 1566 = .ok (.invokevirtual 254, 3) := dw_at dwl_13 (p := 6) rfl (by decide +kernel)
theorem dz_1569 : decode cL_law 1569 = .ok (.pop, 1) := dw_at dwl_13 (p := 9) rfl (by decide +kernel)
theorem dz_1570 : decode cL_law 1570 = .ok (.aload_n 2, 1) := dw_at dwl_13 (p := 10) rfl (by decide +kernel)
theorem dz_1571 : decode cL_law 1571 = .ok (.aload_n 0, 1) := dw_at dwl_13 (p := 11) rfl (by decide +kernel)
theorem dz_1572 : decode cL_law 1572 = .ok (.iload 4, 2) := dw_at dwl_13 (p := 12) rfl (by decide +kernel)
theorem dz_1574 : decode cL_law 1574 = .ok (.iconst 1, 1) := dw_at dwl_13 (p := 14) rfl (by decide +kernel)
theorem dz_1575 : decode cL_law 1575 = .ok (.iadd, 1) := dw_at dwl_13 (p := 15) rfl (by decide +kernel)
theorem dz_1576 : decode cL_law 1576 = .ok (.iaload, 1) := dw_at dwl_13 (p := 16) rfl (by decide +kernel)
theorem dz_1577 : decode cL_law 1577 = .ok (.aload_n 0, 1) := dw_at dwl_13 (p := 17) rfl (by decide +kernel)
theorem dz_1578 : decode cL_law 1578 = .ok (.iload 4, 2) := dw_at dwl_13 (p := 18) rfl (by decide +kernel)
theorem dz_1580 : decode cL_law 1580 = .ok (.iconst 2, 1) := dw_at dwl_13 (p := 20) rfl (by decide +kernel)
theorem dz_1581 : decode cL_law 1581 = .ok (.iadd, 1) := dw_at dwl_13 (p := 21) rfl (by decide +kernel)
theorem dz_1582 : decode cL_law 1582 = .ok (.iaload, 1) := dw_at dwl_13 (p := 22) rfl (by decide +kernel)
theorem dz_1583 : decode cL_law 1583 = .ok (.invokevirtual 257, 3) := dw_at dwl_13 (p := 23) rfl (by decide +kernel)
theorem dz_1586 : decode cL_law 1586 = .ok (.pop, 1) := dw_at dwl_13 (p := 26) rfl (by decide +kernel)
theorem dz_1587 : decode cL_law 1587 = .ok (.goto 123, 3) := dw_at dwl_13 (p := 27) rfl (by decide +kernel)
def ltp_equal (vl : Nat → Nat) (K : Nat) (x1 : Int32) (x2 : Int32) (x3 : Int32) (x4 : Int32) (x5 : Int32) (zc zm : ow_MS) : Option ow_LwS :=
 cs1 (ce_X11_equal vl K 0 x1 x2 zc) fun v2 zc1 => cs1 (qe_X13_equal K x1 x2 zm) fun v4 zm3 => some (vl, zc1, zm3)
set_option maxHeartbeats 4000000 in
set_option maxRecDepth 100000 in
theorem lxc_equal {p : Program} {l : Launch} {e : Env} {s : State} {m : MethodId} {args : Array Value} {below : List Frame} {meth : Method} {c : Code} {b L K n : Nat} {xs : Nat → Int32} {D : va_G} {q : Nat → ClassId} {q5 : ow_Q5} {vl u w sa : Nat → Nat} {zc zm : ow_MS} {S1 : ow_LwS} {Ts : List Cond} {Q : State → Prop} {H : Heap} {locs : List Loc} {ls : Array Slot} {cells slots : Nat} (hx : p.tables.exec = Jvm.exec) (hb : c.code = cL_law) (hml : c.maxLocals = 8) (hown : s.vm.findClass RL = some m.cls) (hts : ∀ w ∈ Ts, w.before args s = true) (hX : va_X b L xs s s.heap) (hbl : b < s.heap.size) (hZ : ∀ w ∈ wZ, w ∈ Ts) (hL1 : ∀ w ∈ wLL, w ∈ Ts) (hC1 : ∀ w ∈ wC, w ∈ Ts) (hM1 : ∀ w ∈ wM, w ∈ Ts) (hG : lx_G l s D q q5 sa) (hLn : L ≤ 3072) (hn : 6 * n + 6 ≤ L) (hq : ltp_equal vl K (xs (6 * n + 1)) (xs (6 * n + 2)) (xs (6 * n + 3)) (xs (6 * n + 4)) (xs (6 * n + 5)) zc zm = some S1) (hM : lx_M D q q5 s vl u w zc zm H locs) (hl : lv_has ls 8 [(0, .ref b), (1, .ref (u 0)), (2, .ref (w 0)), (3, .ref (u 52001)), (4, .int (nI (6 * n)))]) (hc : cells + 0 ≤ 601024) (hs : slots + 0 ≤ 7293033) (kk : ∀ (zc1 zm1 : ow_MS) (H1 : Heap) (locs1 : List Loc) (ls1 : Array Slot), lx_M D q q5 s vl u w zc1 zm1 H1 locs1 → lv_has ls1 8 [(0, .ref b), (1, .ref (u 0)), (2, .ref (w 0)), (3, .ref (u 52001)), (4, .int (nI (6 * n)))] → some (vl, zc1, zm1) = some S1 → W p l e room_1 s m args below meth c H1 locs1 (cells + 0) (slots + 0) Q (F0 m 1710 ls1 [])) : W p l e room_1 s m args below meth c H locs cells slots Q (F0 m 1553 ls []) := by
  have hbA : ¬ lx_A s b := Nat.not_le.mpr hbl
  generalize e1 : xs (6 * n + 1) = x1 at hq
  generalize e2 : xs (6 * n + 2) = x2 at hq
  generalize e3 : xs (6 * n + 3) = x3 at hq
  generalize e4 : xs (6 * n + 4) = x4 at hq
  generalize e5 : xs (6 * n + 5) = x5 at hq
  unfold ltp_equal at hq
  refine lv_aload_n hx hb dz_1553 rfl (lv_at hl 1 rfl) ?_
  refine lv_aload_n hx hb dz_1554 rfl (lv_at hl 0 rfl) ?_
  refine lv_iload hx hb dz_1555 (lv_at hl 4 rfl) ?_
  refine lv_iconst (v := 1) hx hb dz_1557 (by decide) ?_
  refine lv_iadd hx hb dz_1558 ?_
  refine ow_topi (y := nI (6 * n + 1)) (nI_add (6 * n) 1) ?_
  refine va_sld hx hb hX hbl hbA hM.2.2.2.2.2 (vp_in_nI (n := 6 * n + 1) (N := L) (by omega) (by omega)) dz_1559 ?_
  refine ow_topi (y := x1) ((congrArg xs (nI_clamp (by omega))).trans e1) ?_
  refine lv_aload_n hx hb dz_1560 rfl (lv_at hl 0 rfl) ?_
  refine lv_iload hx hb dz_1561 (lv_at hl 4 rfl) ?_
  refine lv_iconst (v := 2) hx hb dz_1563 (by decide) ?_
  refine lv_iadd hx hb dz_1564 ?_
  refine ow_topi (y := nI (6 * n + 2)) (nI_add (6 * n) 2) ?_
  refine va_sld hx hb hX hbl hbA hM.2.2.2.2.2 (vp_in_nI (n := 6 * n + 2) (N := L) (by omega) (by omega)) dz_1565 ?_
  refine ow_topi (y := x2) ((congrArg xs (nI_clamp (by omega))).trans e2) ?_
  obtain ⟨v2, zc1, hcq, hq⟩ := tw_cl1 hq
  refine lx_cls hM (va_runV (As := [.int x1, .int x2]) (rest := []) ⟨hx, hb, hml, hown, hts⟩ (kc_X11_equal l D q vl u hM.2.2.1.1 K 0 x1 x2 (by unfold cw_X11 ci_X11; exact List.mem_singleton.mpr rfl) zc zc1 v2 hcq) (cwV 2 hts (lx_gV (lx_all wC_good rfl) (lx_mem hC1 (hZ _ zq_256)) (hZ _ zq_257) (hZ _ zq_258) (hZ _ zq_259) (hZ _ zq_38) rfl rfl rfl rfl) rfl rfl rfl cdd_X11_equal ⟨(Nat.le_of_ble_eq_true rfl), (Nat.le_of_ble_eq_true rfl)⟩) (lx_preC hG hM) rfl rfl hl.1 rfl (lv_room (Nat.le_of_ble_eq_true rfl)) dz_1566 ⟨(by show _ ≤ 601024; omega), (by show _ ≤ 7293033; omega)⟩) (fun H locs hM => ?_)
  refine lv_pop hx hb dz_1569 rfl ?_
  refine lv_aload_n hx hb dz_1570 rfl (lv_at hl 2 rfl) ?_
  refine lv_aload_n hx hb dz_1571 rfl (lv_at hl 0 rfl) ?_
  refine lv_iload hx hb dz_1572 (lv_at hl 4 rfl) ?_
  refine lv_iconst (v := 1) hx hb dz_1574 (by decide) ?_
  refine lv_iadd hx hb dz_1575 ?_
  refine ow_topi (y := nI (6 * n + 1)) (nI_add (6 * n) 1) ?_
  refine va_sld hx hb hX hbl hbA hM.2.2.2.2.2 (vp_in_nI (n := 6 * n + 1) (N := L) (by omega) (by omega)) dz_1576 ?_
  refine ow_topi (y := x1) ((congrArg xs (nI_clamp (by omega))).trans e1) ?_
  refine lv_aload_n hx hb dz_1577 rfl (lv_at hl 0 rfl) ?_
  refine lv_iload hx hb dz_1578 (lv_at hl 4 rfl) ?_
  refine lv_iconst (v := 2) hx hb dz_1580 (by decide) ?_
  refine lv_iadd hx hb dz_1581 ?_
  refine ow_topi (y := nI (6 * n + 2)) (nI_add (6 * n) 2) ?_
  refine va_sld hx hb hX hbl hbA hM.2.2.2.2.2 (vp_in_nI (n := 6 * n + 2) (N := L) (by omega) (by omega)) dz_1582 ?_
  refine ow_topi (y := x2) ((congrArg xs (nI_clamp (by omega))).trans e2) ?_
  obtain ⟨v4, zm3, hcq, hq⟩ := tw_cl1 hq
  refine lx_refi hM (va_runV (As := [.int x1, .int x2]) (rest := []) ⟨hx, hb, hml, hown, hts⟩ (km_X13_equal l D q5 w hM.2.2.2.1.1 K x1 x2 zm zm3 v4 hcq) (cwV 2 hts (lx_gV (lx_all wM_good rfl) (lx_mem hM1 (hZ _ zq_260)) (hZ _ zq_261) (hZ _ zq_262) (hZ _ zq_263) (hZ _ zq_8) rfl rfl rfl rfl) rfl rfl rfl cd_X13_equal ⟨(Nat.le_of_ble_eq_true rfl), (Nat.le_of_ble_eq_true rfl)⟩) (lx_preM hG hM) rfl rfl hl.1 rfl (lv_room (Nat.le_of_ble_eq_true rfl)) dz_1583 ⟨(by show _ ≤ 601024; omega), (by show _ ≤ 7293033; omega)⟩) (fun H locs hM => ?_)
  refine lv_pop hx hb dz_1586 rfl ?_
  refine lv_goto (tgt := 1710) hx hb dz_1587 (by decide) ?_
  exact kk _ _ H locs ls hM (lv_sub hl [0, 1, 2, 3, 4] rfl) hq
theorem dz_1590 : decode cL_law 1590 = .ok (.aload_n 1, 1) := dw_at dwl_13 (p := 30) rfl (by decide +kernel)
theorem dz_1591 : decode cL_law 1591 = .ok (.aload_n 0, 1) := dw_at dwl_13 (p := 31) rfl (by decide +kernel)
theorem dz_1592 : decode cL_law 1592 = .ok (.iload 4, 2) := dw_at dwl_13 (p := 32) rfl (by decide +kernel)
theorem dz_1594 : decode cL_law 1594 = .ok (.iconst 1, 1) := dw_at dwl_13 (p := 34) rfl (by decide +kernel)
theorem dz_1595 : decode cL_law 1595 = .ok (.iadd, 1) := dw_at dwl_13 (p := 35) rfl (by decide +kernel)
theorem dz_1596 : decode cL_law 1596 = .ok (.iaload, 1) := dw_at dwl_13 (p := 36) rfl (by decide +kernel)
theorem dz_1597 : decode cL_law 1597 = .ok (.aload_n 3, 1) := dw_at dwl_13 (p := 37) rfl (by decide +kernel)
theorem dz_1598 : decode cL_law 1598 = .ok (.invokestatic 258, 3) := dw_at dwl_13 (p := 38) rfl (by decide +kernel)
theorem dz_1601 : decode cL_law 1601 = .ok (.istore 5, 2) := dw_at dwl_13 (p := 41) rfl (by decide +kernel)
theorem dz_1603 : decode cL_law 1603 = .ok (.aload_n 2, 1) := dw_at dwl_13 (p := 43) rfl (by decide +kernel)
theorem dz_1604 : decode cL_law 1604 = .ok (.aload_n 0, 1) := dw_at dwl_13 (p := 44) rfl (by decide +kernel)
theorem dz_1605 : decode cL_law 1605 = .ok (.iload 4, 2) := dw_at dwl_13 (p := 45) rfl (by decide +kernel)
theorem dz_1607 : decode cL_law 1607 = .ok (.iconst 1, 1) := dw_at dwl_13 (p := 47) rfl (by decide +kernel)
theorem dz_1608 : decode cL_law 1608 = .ok (.iadd, 1) := dw_at dwl_13 (p := 48) rfl (by decide +kernel)
theorem dz_1609 : decode cL_law 1609 = .ok (.iaload, 1) := dw_at dwl_13 (p := 49) rfl (by decide +kernel)
theorem dz_1610 : decode cL_law 1610 = .ok (.invokevirtual 260, 3) := dw_at dwl_13 (p := 50) rfl (by decide +kernel)
theorem dz_1613 : decode cL_law 1613 = .ok (.istore 6, 2) := dw_at dwl_13 (p := 53) rfl (by decide +kernel)
theorem dz_1615 : decode cL_law 1615 = .ok (.goto 95, 3) := dw_at dwl_13 (p := 55) rfl (by decide +kernel)
def ltp_summit (vl : Nat → Nat) (K : Nat) (x1 : Int32) (x2 : Int32) (x3 : Int32) (x4 : Int32) (x5 : Int32) (zc zm : ow_MS) : Option ow_LwS :=
 cs1 (le_L_summit vl K 0 x1 zc) fun v2 zc1 => cs1 (qe_X13_summit K x1 zm) fun v4 zm3 => some (vl, zc1, zm3)
set_option maxHeartbeats 4000000 in
set_option maxRecDepth 100000 in
theorem lxc_summit {p : Program} {l : Launch} {e : Env} {s : State} {m : MethodId} {args : Array Value} {below : List Frame} {meth : Method} {c : Code} {b L K n : Nat} {xs : Nat → Int32} {D : va_G} {q : Nat → ClassId} {q5 : ow_Q5} {vl u w sa : Nat → Nat} {zc zm : ow_MS} {S1 : ow_LwS} {Ts : List Cond} {Q : State → Prop} {H : Heap} {locs : List Loc} {ls : Array Slot} {cells slots : Nat} (hx : p.tables.exec = Jvm.exec) (hb : c.code = cL_law) (hml : c.maxLocals = 8) (hown : s.vm.findClass RL = some m.cls) (hts : ∀ w ∈ Ts, w.before args s = true) (hX : va_X b L xs s s.heap) (hbl : b < s.heap.size) (hZ : ∀ w ∈ wZ, w ∈ Ts) (hL1 : ∀ w ∈ wLL, w ∈ Ts) (hC1 : ∀ w ∈ wC, w ∈ Ts) (hM1 : ∀ w ∈ wM, w ∈ Ts) (hG : lx_G l s D q q5 sa) (hLn : L ≤ 3072) (hn : 6 * n + 6 ≤ L) (hq : ltp_summit vl K (xs (6 * n + 1)) (xs (6 * n + 2)) (xs (6 * n + 3)) (xs (6 * n + 4)) (xs (6 * n + 5)) zc zm = some S1) (hM : lx_M D q q5 s vl u w zc zm H locs) (hl : lv_has ls 8 [(0, .ref b), (1, .ref (u 0)), (2, .ref (w 0)), (3, .ref (u 52001)), (4, .int (nI (6 * n)))]) (hc : cells + 2 ≤ 601024) (hs : slots + 12 ≤ 7293033) (kk : ∀ (zc1 zm1 : ow_MS) (H1 : Heap) (locs1 : List Loc) (ls1 : Array Slot), lx_M D q q5 s vl u w zc1 zm1 H1 locs1 → lv_has ls1 8 [(0, .ref b), (1, .ref (u 0)), (2, .ref (w 0)), (3, .ref (u 52001)), (4, .int (nI (6 * n)))] → some (vl, zc1, zm1) = some S1 → W p l e room_1 s m args below meth c H1 locs1 (cells + 2) (slots + 12) Q (F0 m 1710 ls1 [])) : W p l e room_1 s m args below meth c H locs cells slots Q (F0 m 1590 ls []) := by
  have hbA : ¬ lx_A s b := Nat.not_le.mpr hbl
  generalize e1 : xs (6 * n + 1) = x1 at hq
  generalize e2 : xs (6 * n + 2) = x2 at hq
  generalize e3 : xs (6 * n + 3) = x3 at hq
  generalize e4 : xs (6 * n + 4) = x4 at hq
  generalize e5 : xs (6 * n + 5) = x5 at hq
  unfold ltp_summit at hq
  refine lv_aload_n hx hb dz_1590 rfl (lv_at hl 1 rfl) ?_
  refine lv_aload_n hx hb dz_1591 rfl (lv_at hl 0 rfl) ?_
  refine lv_iload hx hb dz_1592 (lv_at hl 4 rfl) ?_
  refine lv_iconst (v := 1) hx hb dz_1594 (by decide) ?_
  refine lv_iadd hx hb dz_1595 ?_
  refine ow_topi (y := nI (6 * n + 1)) (nI_add (6 * n) 1) ?_
  refine va_sld hx hb hX hbl hbA hM.2.2.2.2.2 (vp_in_nI (n := 6 * n + 1) (N := L) (by omega) (by omega)) dz_1596 ?_
  refine ow_topi (y := x1) ((congrArg xs (nI_clamp (by omega))).trans e1) ?_
  refine lv_aload_n hx hb dz_1597 rfl (lv_at hl 3 rfl) ?_
  obtain ⟨v2, zc1, hcq, hq⟩ := tw_cl1 hq
  refine lx_wrap hM (vx_runSX (As := [.ref (u 0), .int x1, .ref (u 52001)]) (rest := []) ⟨hx, hb, hml, hown, hts⟩ (kl_L_summit l D q vl u hM.2.2.1.1 hG.1 sa K 0 x1 (by unfold cw_X11 ci_X11; exact List.mem_singleton.mpr rfl) zc zc1 v2 hcq) (vx_cwSW 3 hts (lx_gS (lx_all wLL_good rfl) (lx_mem hL1 (hZ _ zq_264)) (hZ _ zq_265) (hZ _ zq_266) (hZ _ zq_3) rfl rfl rfl) rfl rfl rfl (by decide +kernel) ⟨(Nat.le_of_ble_eq_true rfl), (Nat.le_of_ble_eq_true rfl)⟩) (lx_preL hG hM) rfl rfl hl.1 rfl (lv_room (Nat.le_of_ble_eq_true rfl)) dz_1598 ⟨(by show _ ≤ 601024; omega), (by show _ ≤ 7293033; omega)⟩) (fun H locs hM => ?_)
  refine lv_istore (lv' := [(5, .int v2), (0, .ref b), (1, .ref (u 0)), (2, .ref (w 0)), (3, .ref (u 52001)), (4, .int (nI (6 * n)))]) hx hb dz_1601 hl (by decide) rfl (fun ls hl => ?_)
  refine lv_aload_n hx hb dz_1603 rfl (lv_at hl 3 rfl) ?_
  refine lv_aload_n hx hb dz_1604 rfl (lv_at hl 1 rfl) ?_
  refine lv_iload hx hb dz_1605 (lv_at hl 5 rfl) ?_
  refine lv_iconst (v := 1) hx hb dz_1607 (by decide) ?_
  refine lv_iadd hx hb dz_1608 ?_
  refine ow_topi (y := nI (6 * n + 1)) (nI_add (6 * n) 1) ?_
  refine va_sld hx hb hX hbl hbA hM.2.2.2.2.2 (vp_in_nI (n := 6 * n + 1) (N := L) (by omega) (by omega)) dz_1609 ?_
  refine ow_topi (y := x1) ((congrArg xs (nI_clamp (by omega))).trans e1) ?_
  obtain ⟨v4, zm3, hcq, hq⟩ := tw_cl1 hq
  refine lx_refi hM (va_runV (As := [.int x1]) (rest := []) ⟨hx, hb, hml, hown, hts⟩ (km_X13_summit l D q5 w hM.2.2.2.1.1 K x1 zm zm3 v4 hcq) (cwV 1 hts (lx_gV (lx_all wM_good rfl) (lx_mem hM1 (hZ _ zq_267)) (hZ _ zq_268) (hZ _ zq_269) (hZ _ zq_270) (hZ _ zq_8) rfl rfl rfl rfl) rfl rfl rfl cd_X13_summit ⟨(Nat.le_of_ble_eq_true rfl), (Nat.le_of_ble_eq_true rfl)⟩) (lx_preM hG hM) rfl rfl hl.1 rfl (lv_room (Nat.le_of_ble_eq_true rfl)) dz_1610 ⟨(by show _ ≤ 601024; omega), (by show _ ≤ 7293033; omega)⟩) (fun H locs hM => ?_)
  refine lv_istore (lv' := [(6, .int v4), (5, .int v2), (0, .ref b), (1, .ref (u 0)), (2, .ref (w 0)), (3, .ref (u 52001)), (4, .int (nI (6 * n)))]) hx hb dz_1613 hl (by decide) rfl (fun ls hl => ?_)
  refine lv_goto (tgt := 1710) hx hb dz_1615 (by decide) ?_
  exact kk _ _ H locs ls hM (lv_sub hl [2, 3, 4, 5, 6] rfl) hq
theorem dz_1618 : decode cL_law 1618 = .ok (.aload_n 1, 1) := dw_at dwl_13 (p := 58) rfl (by decide +kernel)
theorem dz_1619 : decode cL_law 1619 = .ok (.aload_n 0, 1) := dw_at dwl_13 (p := 59) rfl (by decide +kernel)
theorem dz_1620 : decode cL_law 1620 = .ok (.iload 4, 2) := dw_at dwl_13 (p := 60) rfl (by decide +kernel)
theorem dz_1622 : decode cL_law 1622 = .ok (.iconst 1, 1) := dw_at dwl_13 (p := 62) rfl (by decide +kernel)
theorem dz_1623 : decode cL_law 1623 = .ok (.iadd, 1) := dw_at dwl_13 (p := 63) rfl (by decide +kernel)
theorem dz_1624 : decode cL_law 1624 = .ok (.iaload, 1) := dw_at dwl_13 (p := 64) rfl (by decide +kernel)
theorem dz_1625 : decode cL_law 1625 = .ok (.aload_n 0, 1) := dw_at dwl_13 (p := 65) rfl (by decide +kernel)
theorem dz_1626 : decode cL_law 1626 = .ok (.iload 4, 2) := dw_at dwl_13 (p := 66) rfl (by decide +kernel)
theorem dz_1628 : decode cL_law 1628 = .ok (.iconst 2, 1) := dw_at dwl_13 (p := 68) rfl (by decide +kernel)
theorem dz_1629 : decode cL_law 1629 = .ok (.iadd, 1) := dw_at dwl_13 (p := 69) rfl (by decide +kernel)
theorem dz_1630 : decode cL_law 1630 = .ok (.iaload, 1) := dw_at dwl_13 (p := 70) rfl (by decide +kernel)
theorem dz_1631 : decode cL_law 1631 = .ok (.aload_n 3, 1) := dw_at dwl_13 (p := 71) rfl (by decide +kernel)
theorem dz_1632 : decode cL_law 1632 = .ok (.invokestatic 261, 3) := dw_at dwl_13 (p := 72) rfl (by decide +kernel)
theorem dz_1635 : decode cL_law 1635 = .ok (.istore 5, 2) := dw_at dwl_13 (p := 75) rfl (by decide +kernel)
theorem dz_1637 : decode cL_law 1637 = .ok (.aload_n 2, 1) := dw_at dwl_13 (p := 77) rfl (by decide +kernel)
theorem dz_1638 : decode cL_law 1638 = .ok (.aload_n 0, 1) := dw_at dwl_13 (p := 78) rfl (by decide +kernel)
theorem dz_1639 : decode cL_law 1639 = .ok (.iload 4, 2) := dw_at dwl_13 (p := 79) rfl (by decide +kernel)
theorem dz_1641 : decode cL_law 1641 = .ok (.iconst 1, 1) := dw_at dwl_13 (p := 81) rfl (by decide +kernel)
theorem dz_1642 : decode cL_law 1642 = .ok (.iadd, 1) := dw_at dwl_13 (p := 82) rfl (by decide +kernel)
theorem dz_1643 : decode cL_law 1643 = .ok (.iaload, 1) := dw_at dwl_13 (p := 83) rfl (by decide +kernel)
theorem dz_1644 : decode cL_law 1644 = .ok (.aload_n 0, 1) := dw_at dwl_13 (p := 84) rfl (by decide +kernel)
theorem dz_1645 : decode cL_law 1645 = .ok (.iload 4, 2) := dw_at dwl_13 (p := 85) rfl (by decide +kernel)
theorem dz_1647 : decode cL_law 1647 = .ok (.iconst 2, 1) := dw_at dwl_13 (p := 87) rfl (by decide +kernel)
theorem dz_1648 : decode cL_law 1648 = .ok (.iadd, 1) := dw_at dwl_13 (p := 88) rfl (by decide +kernel)
theorem dz_1649 : decode cL_law 1649 = .ok (.iaload, 1) := dw_at dwl_13 (p := 89) rfl (by decide +kernel)
theorem dz_1650 : decode cL_law 1650 = .ok (.invokevirtual 263, 3) := dw_at dwl_13 (p := 90) rfl (by decide +kernel)
theorem dz_1653 : decode cL_law 1653 = .ok (.istore 6, 2) := dw_at dwl_13 (p := 93) rfl (by decide +kernel)
theorem dz_1655 : decode cL_law 1655 = .ok (.goto 55, 3) := dw_at dwl_13 (p := 95) rfl (by decide +kernel)
def ltp_conjugate (vl : Nat → Nat) (K : Nat) (x1 : Int32) (x2 : Int32) (x3 : Int32) (x4 : Int32) (x5 : Int32) (zc zm : ow_MS) : Option ow_LwS :=
 cs1 (le_L_conjugate vl K 0 x1 x2 zc) fun v2 zc1 => cs1 (qe_X13_conjugate K x1 x2 zm) fun v4 zm3 => some (vl, zc1, zm3)
set_option maxHeartbeats 4000000 in
set_option maxRecDepth 100000 in
theorem lxc_conjugate {p : Program} {l : Launch} {e : Env} {s : State} {m : MethodId} {args : Array Value} {below : List Frame} {meth : Method} {c : Code} {b L K n : Nat} {xs : Nat → Int32} {D : va_G} {q : Nat → ClassId} {q5 : ow_Q5} {vl u w sa : Nat → Nat} {zc zm : ow_MS} {S1 : ow_LwS} {Ts : List Cond} {Q : State → Prop} {H : Heap} {locs : List Loc} {ls : Array Slot} {cells slots : Nat} (hx : p.tables.exec = Jvm.exec) (hb : c.code = cL_law) (hml : c.maxLocals = 8) (hown : s.vm.findClass RL = some m.cls) (hts : ∀ w ∈ Ts, w.before args s = true) (hX : va_X b L xs s s.heap) (hbl : b < s.heap.size) (hZ : ∀ w ∈ wZ, w ∈ Ts) (hL1 : ∀ w ∈ wLL, w ∈ Ts) (hC1 : ∀ w ∈ wC, w ∈ Ts) (hM1 : ∀ w ∈ wM, w ∈ Ts) (hG : lx_G l s D q q5 sa) (hLn : L ≤ 3072) (hn : 6 * n + 6 ≤ L) (hq : ltp_conjugate vl K (xs (6 * n + 1)) (xs (6 * n + 2)) (xs (6 * n + 3)) (xs (6 * n + 4)) (xs (6 * n + 5)) zc zm = some S1) (hM : lx_M D q q5 s vl u w zc zm H locs) (hl : lv_has ls 8 [(0, .ref b), (1, .ref (u 0)), (2, .ref (w 0)), (3, .ref (u 52001)), (4, .int (nI (6 * n)))]) (hc : cells + 4 ≤ 601024) (hs : slots + 24 ≤ 7293033) (kk : ∀ (zc1 zm1 : ow_MS) (H1 : Heap) (locs1 : List Loc) (ls1 : Array Slot), lx_M D q q5 s vl u w zc1 zm1 H1 locs1 → lv_has ls1 8 [(0, .ref b), (1, .ref (u 0)), (2, .ref (w 0)), (3, .ref (u 52001)), (4, .int (nI (6 * n)))] → some (vl, zc1, zm1) = some S1 → W p l e room_1 s m args below meth c H1 locs1 (cells + 4) (slots + 24) Q (F0 m 1710 ls1 [])) : W p l e room_1 s m args below meth c H locs cells slots Q (F0 m 1618 ls []) := by
  have hbA : ¬ lx_A s b := Nat.not_le.mpr hbl
  generalize e1 : xs (6 * n + 1) = x1 at hq
  generalize e2 : xs (6 * n + 2) = x2 at hq
  generalize e3 : xs (6 * n + 3) = x3 at hq
  generalize e4 : xs (6 * n + 4) = x4 at hq
  generalize e5 : xs (6 * n + 5) = x5 at hq
  unfold ltp_conjugate at hq
  refine lv_aload_n hx hb dz_1618 rfl (lv_at hl 1 rfl) ?_
  refine lv_aload_n hx hb dz_1619 rfl (lv_at hl 0 rfl) ?_
  refine lv_iload hx hb dz_1620 (lv_at hl 4 rfl) ?_
  refine lv_iconst (v := 1) hx hb dz_1622 (by decide) ?_
  refine lv_iadd hx hb dz_1623 ?_
  refine ow_topi (y := nI (6 * n + 1)) (nI_add (6 * n) 1) ?_
  refine va_sld hx hb hX hbl hbA hM.2.2.2.2.2 (vp_in_nI (n := 6 * n + 1) (N := L) (by omega) (by omega)) dz_1624 ?_
  refine ow_topi (y := x1) ((congrArg xs (nI_clamp (by omega))).trans e1) ?_
  refine lv_aload_n hx hb dz_1625 rfl (lv_at hl 0 rfl) ?_
  refine lv_iload hx hb dz_1626 (lv_at hl 4 rfl) ?_
  refine lv_iconst (v := 2) hx hb dz_1628 (by decide) ?_
  refine lv_iadd hx hb dz_1629 ?_
  refine ow_topi (y := nI (6 * n + 2)) (nI_add (6 * n) 2) ?_
  refine va_sld hx hb hX hbl hbA hM.2.2.2.2.2 (vp_in_nI (n := 6 * n + 2) (N := L) (by omega) (by omega)) dz_1630 ?_
  refine ow_topi (y := x2) ((congrArg xs (nI_clamp (by omega))).trans e2) ?_
  refine lv_aload_n hx hb dz_1631 rfl (lv_at hl 3 rfl) ?_
  obtain ⟨v2, zc1, hcq, hq⟩ := tw_cl1 hq
  refine lx_wrap hM (vx_runSX (As := [.ref (u 0), .int x1, .int x2, .ref (u 52001)]) (rest := []) ⟨hx, hb, hml, hown, hts⟩ (kl_L_conjugate l D q vl u hM.2.2.1.1 hG.1 sa K 0 x1 x2 (by unfold cw_X11 ci_X11; exact List.mem_singleton.mpr rfl) zc zc1 v2 hcq) (vx_cwSW 4 hts (lx_gS (lx_all wLL_good rfl) (lx_mem hL1 (hZ _ zq_271)) (hZ _ zq_272) (hZ _ zq_273) (hZ _ zq_3) rfl rfl rfl) rfl rfl rfl (by decide +kernel) ⟨(Nat.le_of_ble_eq_true rfl), (Nat.le_of_ble_eq_true rfl)⟩) (lx_preL hG hM) rfl rfl hl.1 rfl (lv_room (Nat.le_of_ble_eq_true rfl)) dz_1632 ⟨(by show _ ≤ 601024; omega), (by show _ ≤ 7293033; omega)⟩) (fun H locs hM => ?_)
  refine lv_istore (lv' := [(5, .int v2), (0, .ref b), (1, .ref (u 0)), (2, .ref (w 0)), (3, .ref (u 52001)), (4, .int (nI (6 * n)))]) hx hb dz_1635 hl (by decide) rfl (fun ls hl => ?_)
  refine lv_aload_n hx hb dz_1637 rfl (lv_at hl 3 rfl) ?_
  refine lv_aload_n hx hb dz_1638 rfl (lv_at hl 1 rfl) ?_
  refine lv_iload hx hb dz_1639 (lv_at hl 5 rfl) ?_
  refine lv_iconst (v := 1) hx hb dz_1641 (by decide) ?_
  refine lv_iadd hx hb dz_1642 ?_
  refine ow_topi (y := nI (6 * n + 1)) (nI_add (6 * n) 1) ?_
  refine va_sld hx hb hX hbl hbA hM.2.2.2.2.2 (vp_in_nI (n := 6 * n + 1) (N := L) (by omega) (by omega)) dz_1643 ?_
  refine ow_topi (y := x1) ((congrArg xs (nI_clamp (by omega))).trans e1) ?_
  refine lv_aload_n hx hb dz_1644 rfl (lv_at hl 1 rfl) ?_
  refine lv_iload hx hb dz_1645 (lv_at hl 5 rfl) ?_
  refine lv_iconst (v := 2) hx hb dz_1647 (by decide) ?_
  refine lv_iadd hx hb dz_1648 ?_
  refine ow_topi (y := nI (6 * n + 2)) (nI_add (6 * n) 2) ?_
  refine va_sld hx hb hX hbl hbA hM.2.2.2.2.2 (vp_in_nI (n := 6 * n + 2) (N := L) (by omega) (by omega)) dz_1649 ?_
  refine ow_topi (y := x2) ((congrArg xs (nI_clamp (by omega))).trans e2) ?_
  obtain ⟨v4, zm3, hcq, hq⟩ := tw_cl1 hq
  refine lx_refi hM (va_runV (As := [.int x1, .int x2]) (rest := []) ⟨hx, hb, hml, hown, hts⟩ (km_X13_conjugate l D q5 w hM.2.2.2.1.1 K x1 x2 zm zm3 v4 hcq) (cwV 2 hts (lx_gV (lx_all wM_good rfl) (lx_mem hM1 (hZ _ zq_274)) (hZ _ zq_275) (hZ _ zq_276) (hZ _ zq_277) (hZ _ zq_8) rfl rfl rfl rfl) rfl rfl rfl cd_X13_conjugate ⟨(Nat.le_of_ble_eq_true rfl), (Nat.le_of_ble_eq_true rfl)⟩) (lx_preM hG hM) rfl rfl hl.1 rfl (lv_room (Nat.le_of_ble_eq_true rfl)) dz_1650 ⟨(by show _ ≤ 601024; omega), (by show _ ≤ 7293033; omega)⟩) (fun H locs hM => ?_)
  refine lv_istore (lv' := [(6, .int v4), (5, .int v2), (0, .ref b), (1, .ref (u 0)), (2, .ref (w 0)), (3, .ref (u 52001)), (4, .int (nI (6 * n)))]) hx hb dz_1653 hl (by decide) rfl (fun ls hl => ?_)
  refine lv_goto (tgt := 1710) hx hb dz_1655 (by decide) ?_
  exact kk _ _ H locs ls hM (lv_sub hl [2, 3, 4, 5, 6] rfl) hq
theorem dz_1658 : decode cL_law 1658 = .ok (.aload_n 1, 1) := dw_at dwl_13 (p := 98) rfl (by decide +kernel)
theorem dz_1659 : decode cL_law 1659 = .ok (.aload_n 0, 1) := dw_at dwl_13 (p := 99) rfl (by decide +kernel)
theorem dz_1660 : decode cL_law 1660 = .ok (.iload 4, 2) := dw_at dwl_13 (p := 100) rfl (by decide +kernel)
theorem dz_1662 : decode cL_law 1662 = .ok (.iconst 1, 1) := dw_at dwl_13 (p := 102) rfl (by decide +kernel)
theorem dz_1663 : decode cL_law 1663 = .ok (.iadd, 1) := dw_at dwl_13 (p := 103) rfl (by decide +kernel)
theorem dz_1664 : decode cL_law 1664 = .ok (.iaload, 1) := dw_at dwl_13 (p := 104) rfl (by decide +kernel)
theorem dz_1665 : decode cL_law 1665 = .ok (.aload_n 0, 1) := dw_at dwl_13 (p := 105) rfl (by decide +kernel)
theorem dz_1666 : decode cL_law 1666 = .ok (.iload 4, 2) := dw_at dwl_13 (p := 106) rfl (by decide +kernel)
theorem dz_1668 : decode cL_law 1668 = .ok (.iconst 2, 1) := dw_at dwl_13 (p := 108) rfl (by decide +kernel)
theorem dz_1669 : decode cL_law 1669 = .ok (.iadd, 1) := dw_at dwl_13 (p := 109) rfl (by decide +kernel)
theorem dz_1670 : decode cL_law 1670 = .ok (.iaload, 1) := dw_at dwl_13 (p := 110) rfl (by decide +kernel)
theorem dz_1671 : decode cL_law 1671 = .ok (.aload_n 0, 1) := dw_at dwl_13 (p := 111) rfl (by decide +kernel)
theorem dz_1672 : decode cL_law 1672 = .ok (.iload 4, 2) := dw_at dwl_13 (p := 112) rfl (by decide +kernel)
theorem dz_1674 : decode cL_law 1674 = .ok (.iconst 3, 1) := dw_at dwl_13 (p := 114) rfl (by decide +kernel)
theorem dz_1675 : decode cL_law 1675 = .ok (.iadd, 1) := dw_at dwl_13 (p := 115) rfl (by decide +kernel)
theorem dz_1676 : decode cL_law 1676 = .ok (.iaload, 1) := dw_at dwl_13 (p := 116) rfl (by decide +kernel)
theorem dz_1677 : decode cL_law 1677 = .ok (.aload_n 3, 1) := dw_at dwl_13 (p := 117) rfl (by decide +kernel)
theorem dz_1678 : decode cL_law 1678 = .ok (.invokestatic 264, 3) := dw_at dwl_13 (p := 118) rfl (by decide +kernel)
theorem dz_1681 : decode cL_law 1681 = .ok (.istore 5, 2) := dw_at dwl_14 (p := 1) rfl (by decide +kernel)
theorem dz_1683 : decode cL_law 1683 = .ok (.aload_n 2, 1) := dw_at dwl_14 (p := 3) rfl (by decide +kernel)
theorem dz_1684 : decode cL_law 1684 = .ok (.aload_n 0, 1) := dw_at dwl_14 (p := 4) rfl (by decide +kernel)
theorem dz_1685 : decode cL_law 1685 = .ok (.iload 4, 2) := dw_at dwl_14 (p := 5) rfl (by decide +kernel)
theorem dz_1687 : decode cL_law 1687 = .ok (.iconst 1, 1) := dw_at dwl_14 (p := 7) rfl (by decide +kernel)
theorem dz_1688 : decode cL_law 1688 = .ok (.iadd, 1) := dw_at dwl_14 (p := 8) rfl (by decide +kernel)
theorem dz_1689 : decode cL_law 1689 = .ok (.iaload, 1) := dw_at dwl_14 (p := 9) rfl (by decide +kernel)
theorem dz_1690 : decode cL_law 1690 = .ok (.aload_n 0, 1) := dw_at dwl_14 (p := 10) rfl (by decide +kernel)
theorem dz_1691 : decode cL_law 1691 = .ok (.iload 4, 2) := dw_at dwl_14 (p := 11) rfl (by decide +kernel)
theorem dz_1693 : decode cL_law 1693 = .ok (.iconst 2, 1) := dw_at dwl_14 (p := 13) rfl (by decide +kernel)
theorem dz_1694 : decode cL_law 1694 = .ok (.iadd, 1) := dw_at dwl_14 (p := 14) rfl (by decide +kernel)
theorem dz_1695 : decode cL_law 1695 = .ok (.iaload, 1) := dw_at dwl_14 (p := 15) rfl (by decide +kernel)
theorem dz_1696 : decode cL_law 1696 = .ok (.aload_n 0, 1) := dw_at dwl_14 (p := 16) rfl (by decide +kernel)
theorem dz_1697 : decode cL_law 1697 = .ok (.iload 4, 2) := dw_at dwl_14 (p := 17) rfl (by decide +kernel)
theorem dz_1699 : decode cL_law 1699 = .ok (.iconst 3, 1) := dw_at dwl_14 (p := 19) rfl (by decide +kernel)
theorem dz_1700 : decode cL_law 1700 = .ok (.iadd, 1) := dw_at dwl_14 (p := 20) rfl (by decide +kernel)
theorem dz_1701 : decode cL_law 1701 = .ok (.iaload, 1) := dw_at dwl_14 (p := 21) rfl (by decide +kernel)
theorem dz_1702 : decode cL_law 1702 = .ok (.invokevirtual 266, 3) := dw_at dwl_14 (p := 22) rfl (by decide +kernel)
theorem dz_1705 : decode cL_law 1705 = .ok (.istore 6, 2) := dw_at dwl_14 (p := 25) rfl (by decide +kernel)
theorem dz_1707 : decode cL_law 1707 = .ok (.goto 3, 3) := dw_at dwl_14 (p := 27) rfl (by decide +kernel)
def ltp_two (vl : Nat → Nat) (K : Nat) (x1 : Int32) (x2 : Int32) (x3 : Int32) (x4 : Int32) (x5 : Int32) (zc zm : ow_MS) : Option ow_LwS :=
 cs1 (le_L_two vl K 0 x1 x2 x3 zc) fun v2 zc1 => cs1 (qe_X13_two K x1 x2 x3 zm) fun v4 zm3 => some (vl, zc1, zm3)
set_option maxHeartbeats 4000000 in
set_option maxRecDepth 100000 in
theorem lxc_two {p : Program} {l : Launch} {e : Env} {s : State} {m : MethodId} {args : Array Value} {below : List Frame} {meth : Method} {c : Code} {b L K n : Nat} {xs : Nat → Int32} {D : va_G} {q : Nat → ClassId} {q5 : ow_Q5} {vl u w sa : Nat → Nat} {zc zm : ow_MS} {S1 : ow_LwS} {Ts : List Cond} {Q : State → Prop} {H : Heap} {locs : List Loc} {ls : Array Slot} {cells slots : Nat} (hx : p.tables.exec = Jvm.exec) (hb : c.code = cL_law) (hml : c.maxLocals = 8) (hown : s.vm.findClass RL = some m.cls) (hts : ∀ w ∈ Ts, w.before args s = true) (hX : va_X b L xs s s.heap) (hbl : b < s.heap.size) (hZ : ∀ w ∈ wZ, w ∈ Ts) (hL1 : ∀ w ∈ wLL, w ∈ Ts) (hC1 : ∀ w ∈ wC, w ∈ Ts) (hM1 : ∀ w ∈ wM, w ∈ Ts) (hG : lx_G l s D q q5 sa) (hLn : L ≤ 3072) (hn : 6 * n + 6 ≤ L) (hq : ltp_two vl K (xs (6 * n + 1)) (xs (6 * n + 2)) (xs (6 * n + 3)) (xs (6 * n + 4)) (xs (6 * n + 5)) zc zm = some S1) (hM : lx_M D q q5 s vl u w zc zm H locs) (hl : lv_has ls 8 [(0, .ref b), (1, .ref (u 0)), (2, .ref (w 0)), (3, .ref (u 52001)), (4, .int (nI (6 * n)))]) (hc : cells + 2 ≤ 601024) (hs : slots + 12 ≤ 7293033) (kk : ∀ (zc1 zm1 : ow_MS) (H1 : Heap) (locs1 : List Loc) (ls1 : Array Slot), lx_M D q q5 s vl u w zc1 zm1 H1 locs1 → lv_has ls1 8 [(0, .ref b), (1, .ref (u 0)), (2, .ref (w 0)), (3, .ref (u 52001)), (4, .int (nI (6 * n)))] → some (vl, zc1, zm1) = some S1 → W p l e room_1 s m args below meth c H1 locs1 (cells + 2) (slots + 12) Q (F0 m 1710 ls1 [])) : W p l e room_1 s m args below meth c H locs cells slots Q (F0 m 1658 ls []) := by
  have hbA : ¬ lx_A s b := Nat.not_le.mpr hbl
  generalize e1 : xs (6 * n + 1) = x1 at hq
  generalize e2 : xs (6 * n + 2) = x2 at hq
  generalize e3 : xs (6 * n + 3) = x3 at hq
  generalize e4 : xs (6 * n + 4) = x4 at hq
  generalize e5 : xs (6 * n + 5) = x5 at hq
  unfold ltp_two at hq
  refine lv_aload_n hx hb dz_1658 rfl (lv_at hl 1 rfl) ?_
  refine lv_aload_n hx hb dz_1659 rfl (lv_at hl 0 rfl) ?_
  refine lv_iload hx hb dz_1660 (lv_at hl 4 rfl) ?_
  refine lv_iconst (v := 1) hx hb dz_1662 (by decide) ?_
  refine lv_iadd hx hb dz_1663 ?_
  refine ow_topi (y := nI (6 * n + 1)) (nI_add (6 * n) 1) ?_
  refine va_sld hx hb hX hbl hbA hM.2.2.2.2.2 (vp_in_nI (n := 6 * n + 1) (N := L) (by omega) (by omega)) dz_1664 ?_
  refine ow_topi (y := x1) ((congrArg xs (nI_clamp (by omega))).trans e1) ?_
  refine lv_aload_n hx hb dz_1665 rfl (lv_at hl 0 rfl) ?_
  refine lv_iload hx hb dz_1666 (lv_at hl 4 rfl) ?_
  refine lv_iconst (v := 2) hx hb dz_1668 (by decide) ?_
  refine lv_iadd hx hb dz_1669 ?_
  refine ow_topi (y := nI (6 * n + 2)) (nI_add (6 * n) 2) ?_
  refine va_sld hx hb hX hbl hbA hM.2.2.2.2.2 (vp_in_nI (n := 6 * n + 2) (N := L) (by omega) (by omega)) dz_1670 ?_
  refine ow_topi (y := x2) ((congrArg xs (nI_clamp (by omega))).trans e2) ?_
  refine lv_aload_n hx hb dz_1671 rfl (lv_at hl 0 rfl) ?_
  refine lv_iload hx hb dz_1672 (lv_at hl 4 rfl) ?_
  refine lv_iconst (v := 3) hx hb dz_1674 (by decide) ?_
  refine lv_iadd hx hb dz_1675 ?_
  refine ow_topi (y := nI (6 * n + 3)) (nI_add (6 * n) 3) ?_
  refine va_sld hx hb hX hbl hbA hM.2.2.2.2.2 (vp_in_nI (n := 6 * n + 3) (N := L) (by omega) (by omega)) dz_1676 ?_
  refine ow_topi (y := x3) ((congrArg xs (nI_clamp (by omega))).trans e3) ?_
  refine lv_aload_n hx hb dz_1677 rfl (lv_at hl 3 rfl) ?_
  obtain ⟨v2, zc1, hcq, hq⟩ := tw_cl1 hq
  refine lx_wrap hM (vx_runSX (As := [.ref (u 0), .int x1, .int x2, .int x3, .ref (u 52001)]) (rest := []) ⟨hx, hb, hml, hown, hts⟩ (kl_L_two l D q vl u hM.2.2.1.1 hG.1 sa K 0 x1 x2 x3 (by unfold cw_X11 ci_X11; exact List.mem_singleton.mpr rfl) zc zc1 v2 hcq) (vx_cwSW 5 hts (lx_gS (lx_all wLL_good rfl) (lx_mem hL1 (hZ _ zq_278)) (hZ _ zq_279) (hZ _ zq_280) (hZ _ zq_3) rfl rfl rfl) rfl rfl rfl (by decide +kernel) ⟨(Nat.le_of_ble_eq_true rfl), (Nat.le_of_ble_eq_true rfl)⟩) (lx_preL hG hM) rfl rfl hl.1 rfl (lv_room (Nat.le_of_ble_eq_true rfl)) dz_1678 ⟨(by show _ ≤ 601024; omega), (by show _ ≤ 7293033; omega)⟩) (fun H locs hM => ?_)
  refine lv_istore (lv' := [(5, .int v2), (0, .ref b), (1, .ref (u 0)), (2, .ref (w 0)), (3, .ref (u 52001)), (4, .int (nI (6 * n)))]) hx hb dz_1681 hl (by decide) rfl (fun ls hl => ?_)
  refine lv_aload_n hx hb dz_1683 rfl (lv_at hl 3 rfl) ?_
  refine lv_aload_n hx hb dz_1684 rfl (lv_at hl 1 rfl) ?_
  refine lv_iload hx hb dz_1685 (lv_at hl 5 rfl) ?_
  refine lv_iconst (v := 1) hx hb dz_1687 (by decide) ?_
  refine lv_iadd hx hb dz_1688 ?_
  refine ow_topi (y := nI (6 * n + 1)) (nI_add (6 * n) 1) ?_
  refine va_sld hx hb hX hbl hbA hM.2.2.2.2.2 (vp_in_nI (n := 6 * n + 1) (N := L) (by omega) (by omega)) dz_1689 ?_
  refine ow_topi (y := x1) ((congrArg xs (nI_clamp (by omega))).trans e1) ?_
  refine lv_aload_n hx hb dz_1690 rfl (lv_at hl 1 rfl) ?_
  refine lv_iload hx hb dz_1691 (lv_at hl 5 rfl) ?_
  refine lv_iconst (v := 2) hx hb dz_1693 (by decide) ?_
  refine lv_iadd hx hb dz_1694 ?_
  refine ow_topi (y := nI (6 * n + 2)) (nI_add (6 * n) 2) ?_
  refine va_sld hx hb hX hbl hbA hM.2.2.2.2.2 (vp_in_nI (n := 6 * n + 2) (N := L) (by omega) (by omega)) dz_1695 ?_
  refine ow_topi (y := x2) ((congrArg xs (nI_clamp (by omega))).trans e2) ?_
  refine lv_aload_n hx hb dz_1696 rfl (lv_at hl 1 rfl) ?_
  refine lv_iload hx hb dz_1697 (lv_at hl 5 rfl) ?_
  refine lv_iconst (v := 3) hx hb dz_1699 (by decide) ?_
  refine lv_iadd hx hb dz_1700 ?_
  refine ow_topi (y := nI (6 * n + 3)) (nI_add (6 * n) 3) ?_
  refine va_sld hx hb hX hbl hbA hM.2.2.2.2.2 (vp_in_nI (n := 6 * n + 3) (N := L) (by omega) (by omega)) dz_1701 ?_
  refine ow_topi (y := x3) ((congrArg xs (nI_clamp (by omega))).trans e3) ?_
  obtain ⟨v4, zm3, hcq, hq⟩ := tw_cl1 hq
  refine lx_refi hM (va_runV (As := [.int x1, .int x2, .int x3]) (rest := []) ⟨hx, hb, hml, hown, hts⟩ (km_X13_two l D q5 w hM.2.2.2.1.1 K x1 x2 x3 zm zm3 v4 hcq) (cwV 3 hts (lx_gV (lx_all wM_good rfl) (lx_mem hM1 (hZ _ zq_281)) (hZ _ zq_282) (hZ _ zq_283) (hZ _ zq_284) (hZ _ zq_8) rfl rfl rfl rfl) rfl rfl rfl cd_X13_two ⟨(Nat.le_of_ble_eq_true rfl), (Nat.le_of_ble_eq_true rfl)⟩) (lx_preM hG hM) rfl rfl hl.1 rfl (lv_room (Nat.le_of_ble_eq_true rfl)) dz_1702 ⟨(by show _ ≤ 601024; omega), (by show _ ≤ 7293033; omega)⟩) (fun H locs hM => ?_)
  refine lv_istore (lv' := [(6, .int v4), (5, .int v2), (0, .ref b), (1, .ref (u 0)), (2, .ref (w 0)), (3, .ref (u 52001)), (4, .int (nI (6 * n)))]) hx hb dz_1705 hl (by decide) rfl (fun ls hl => ?_)
  refine lv_goto (tgt := 1710) hx hb dz_1707 (by decide) ?_
  exact kk _ _ H locs ls hM (lv_sub hl [2, 3, 4, 5, 6] rfl) hq
