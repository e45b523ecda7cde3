def lawL : List UInt8 := [0xbb, 0x00, 0x08, 0x59, 0xb7, 0x00, 0x7f, 0x4c, 0xbb, 0x00, 0x80, 0x59, 0xb7, 0x00, 0x82, 0x4d, 0x04, 0xbc, 0x0b, 0x4e, 0x03, 0x36, 0x04, 0x15, 0x04, 0x2a, 0xbe, 0x10, 0x06, 0x64, 0xa3, 0x06, 0x7a, 0x2a, 0x15, 0x04, 0x2e, 0x10, 0x3f, 0x7e, 0xaa, 0x00, 0x00, 0x00, 0x00, 0x00, 0x06, 0x6a, 0x00, 0x00, 0x00, 0x00, 0x00, 0x00, 0x00, 0x26, 0x00, 0x00, 0x00, 0xac, 0x00, 0x00, 0x00, 0xf8, 0x00, 0x00, 0x01, 0x11, 0x00, 0x00, 0x01, 0x21, 0x00, 0x00, 0x01, 0x3d, 0x00, 0x00, 0x01, 0x56, 0x00, 0x00, 0x01, 0x6f, 0x00, 0x00, 0x01, 0x97, 0x00, 0x00, 0x01, 0xcb, 0x00, 0x00, 0x01, 0xff, 0x00, 0x00, 0x02, 0x24, 0x00, 0x00, 0x02, 0x40, 0x00, 0x00, 0x02, 0x68, 0x00, 0x00, 0x02, 0x90, 0x00, 0x00, 0x02, 0xb8, 0x00, 0x00, 0x02, 0xe0, 0x00, 0x00, 0x03, 0x20, 0x00, 0x00, 0x03, 0x48, 0x00, 0x00, 0x03, 0x64, 0x00, 0x00, 0x03, 0x80, 0x00, 0x00, 0x03, 0xa8, 0x00, 0x00, 0x03, 0xc4, 0x00, 0x00, 0x03, 0xe0, 0x00, 0x00, 0x04, 0x08, 0x00, 0x00, 0x04, 0x30, 0x00, 0x00, 0x04, 0x4c, 0x00, 0x00, 0x04, 0x74, 0x00, 0x00, 0x04, 0x9c, 0x00, 0x00, 0x04, 0xc4, 0x00, 0x00, 0x04, 0xec, 0x00, 0x00, 0x05, 0x11, 0x00, 0x00, 0x05, 0x2d, 0x00, 0x00, 0x05, 0x55, 0x00, 0x00, 0x05, 0x71, 0x00, 0x00, 0x05, 0x99, 0x00, 0x00, 0x05, 0xcd, 0x00, 0x00, 0x05, 0xf2, 0x00, 0x00, 0x06, 0x0e, 0x00, 0x00, 0x06, 0x36, 0x2b, 0x2a, 0x15, 0x04, 0x04, 0x60, 0x2e, 0x2a, 0x15, 0x04, 0x05, 0x60, 0x2e, 0x2a, 0x15, 0x04, 0x06, 0x60, 0x2e, 0x2a, 0x15, 0x04, 0x07, 0x60, 0x2e, 0x2a, 0x15, 0x04, 0x08, 0x60, 0x2e, 0x2d, 0xb8, 0x00, 0x83, 0x36, 0x05, 0x2c, 0x2a, 0x15, 0x04, 0x04, 0x60, 0x2e, 0x2a, 0x15, 0x04, 0x05, 0x60, 0x2e, 0x2a, 0x15, 0x04, 0x06, 0x60, 0x2e, 0x2a, 0x15, 0x04, 0x07, 0x60, 0x2e, 0x2a, 0x15, 0x04, 0x08, 0x60, 0x2e, 0xb6, 0x00, 0x88, 0x36, 0x06, 0xa7, 0x05, 0x75, 0x2b, 0x2a, 0x15, 0x04, 0x04, 0x60, 0x2e, 0xb8, 0x00, 0x89, 0x36, 0x05, 0x2c, 0x2a, 0x15, 0x04, 0x04, 0x60, 0x2e, 0xb6, 0x00, 0x8c, 0xa7, 0x05, 0x5c, 0x2b, 0x2d, 0xb8, 0x00, 0x8d, 0x36, 0x05, 0x2c, 0xb6, 0x00, 0x90, 0x36, 0x06, 0xa7, 0x05, 0x4c, 0x2b, 0x2a, 0x15, 0x04, 0x04, 0x60, 0x2e, 0x2d, 0xb8, 0x00, 0x91, 0x36, 0x05, 0x2c, 0x2a, 0x15, 0x04, 0x04, 0x60, 0x2e, 0xb6, 0x00, 0x94, 0x36, 0x06, 0xa7, 0x05, 0x30, 0x2b, 0x2a, 0x15, 0x04, 0x04, 0x60, 0x2e, 0xb6, 0x00, 0x95, 0x57, 0x2c, 0x2a, 0x15, 0x04, 0x04, 0x60, 0x2e, 0xb6, 0x00, 0x99, 0x57, 0xa7, 0x05, 0x17, 0x2b, 0x2a, 0x15, 0x04, 0x04, 0x60, 0x2e, 0xb6, 0x00, 0x9a, 0x2c, 0x2a, 0x15, 0x04, 0x04, 0x60, 0x2e, 0xb6, 0x00, 0x9d, 0x9f, 0x05, 0x00, 0x03, 0xac, 0x2b, 0x2a, 0x15, 0x04, 0x04, 0x60, 0x2e, 0x2a, 0x15, 0x04, 0x05, 0x60, 0x2e, 0x2d, 0xb8, 0x00, 0x9e, 0x36, 0x05, 0x2c, 0x2a, 0x15, 0x04, 0x04, 0x60, 0x2e, 0x2a, 0x15, 0x04, 0x05, 0x60, 0x2e, 0xb6, 0x00, 0xa1, 0x36, 0x06, 0xa7, 0x04, 0xd6, 0x2b, 0x2a, 0x15, 0x04, 0x04, 0x60, 0x2e, 0x2a, 0x15, 0x04, 0x05, 0x60, 0x2e, 0x2a, 0x15, 0x04, 0x06, 0x60, 0x2e, 0x2d, 0xb8, 0x00, 0xa2, 0x36, 0x05, 0x2c, 0x2a, 0x15, 0x04, 0x04, 0x60, 0x2e, 0x2a, 0x15, 0x04, 0x05, 0x60, 0x2e, 0x2a, 0x15, 0x04, 0x06, 0x60, 0x2e, 0xb6, 0x00, 0xa5, 0x36, 0x06, 0xa7, 0x04, 0xa2, 0x2b, 0x2a, 0x15, 0x04, 0x04, 0x60, 0x2e, 0x2a, 0x15, 0x04, 0x05, 0x60, 0x2e, 0x2a, 0x15, 0x04, 0x06, 0x60, 0x2e, 0x2d, 0xb8, 0x00, 0xa6, 0x36, 0x05, 0x2c, 0x2a, 0x15, 0x04, 0x04, 0x60, 0x2e, 0x2a, 0x15, 0x04, 0x05, 0x60, 0x2e, 0x2a, 0x15, 0x04, 0x06, 0x60, 0x2e, 0xb6, 0x00, 0xa8, 0x36, 0x06, 0xa7, 0x04, 0x6e, 0x2b, 0x2a, 0x15, 0x04, 0x04, 0x60, 0x2e, 0x2a, 0x15, 0x04, 0x05, 0x60, 0x2e, 0xb6, 0x00, 0xa9, 0x57, 0x2c, 0x2a, 0x15, 0x04, 0x04, 0x60, 0x2e, 0x2a, 0x15, 0x04, 0x05, 0x60, 0x2e, 0xb6, 0x00, 0xad, 0x57, 0xa7, 0x04, 0x49, 0x2b, 0x2a, 0x15, 0x04, 0x04, 0x60, 0x2e, 0x2d, 0xb8, 0x00, 0xae, 0x36, 0x05, 0x2c, 0x2a, 0x15, 0x04, 0x04, 0x60, 0x2e, 0xb6, 0x00, 0xb0, 0x36, 0x06, 0xa7, 0x04, 0x2d, 0x2b, 0x2a, 0x15, 0x04, 0x04, 0x60, 0x2e, 0x2a, 0x15, 0x04, 0x05, 0x60, 0x2e, 0x2d, 0xb8, 0x00, 0xb1, 0x36, 0x05, 0x2c, 0x2a, 0x15, 0x04, 0x04, 0x60, 0x2e, 0x2a, 0x15, 0x04, 0x05, 0x60, 0x2e, 0xb6, 0x00, 0xb3, 0x36, 0x06, 0xa7, 0x04, 0x05, 0x2b, 0x2a, 0x15, 0x04, 0x04, 0x60, 0x2e, 0x2a, 0x15, 0x04, 0x05, 0x60, 0x2e, 0x2d, 0xb8, 0x00, 0xb4, 0x36, 0x05, 0x2c, 0x2a, 0x15, 0x04, 0x04, 0x60, 0x2e, 0x2a, 0x15, 0x04, 0x05, 0x60, 0x2e, 0xb6, 0x00, 0xb6, 0x36, 0x06, 0xa7, 0x03, 0xdd, 0x2b, 0x2a, 0x15, 0x04, 0x04, 0x60, 0x2e, 0x2a, 0x15, 0x04, 0x05, 0x60, 0x2e, 0x2d, 0xb8, 0x00, 0xb7, 0x36, 0x05, 0x2c, 0x2a, 0x15, 0x04, 0x04, 0x60, 0x2e, 0x2a, 0x15, 0x04, 0x05, 0x60, 0x2e, 0xb6, 0x00, 0xb9, 0x36, 0x06, 0xa7, 0x03, 0xb5, 0x2b, 0x2a, 0x15, 0x04, 0x04, 0x60, 0x2e, 0x2a, 0x15, 0x04, 0x05, 0x60, 0x2e, 0x2d, 0xb8, 0x00, 0xba, 0x36, 0x05, 0x2c, 0x2a, 0x15, 0x04, 0x04, 0x60, 0x2e, 0x2a, 0x15, 0x04, 0x05, 0x60, 0x2e, 0xb6, 0x00, 0xbc, 0x36, 0x06, 0xa7, 0x03, 0x8d, 0x2b, 0x2a, 0x15, 0x04, 0x04, 0x60, 0x2e, 0x2a, 0x15, 0x04, 0x05, 0x60, 0x2e, 0x2a, 0x15, 0x04, 0x06, 0x60, 0x2e, 0x2a, 0x15, 0x04, 0x07, 0x60, 0x2e, 0x2d, 0xb8, 0x00, 0xbd, 0x36, 0x05, 0x2c, 0x2a, 0x15, 0x04, 0x04, 0x60, 0x2e, 0x2a, 0x15, 0x04, 0x05, 0x60, 0x2e, 0x2a, 0x15, 0x04, 0x06, 0x60, 0x2e, 0x2a, 0x15, 0x04, 0x07, 0x60, 0x2e, 0xb6, 0x00, 0xc0, 0x36, 0x06, 0xa7, 0x03, 0x4d, 0x2b, 0x2a, 0x15, 0x04, 0x04, 0x60, 0x2e, 0x2a, 0x15, 0x04, 0x05, 0x60, 0x2e, 0x2d, 0xb8, 0x00, 0xc1, 0x36, 0x05, 0x2c, 0x2a, 0x15, 0x04, 0x04, 0x60, 0x2e, 0x2a, 0x15, 0x04, 0x05, 0x60, 0x2e, 0xb6, 0x00, 0xc3, 0x36, 0x06, 0xa7, 0x03, 0x25, 0x2b, 0x2a, 0x15, 0x04, 0x04, 0x60, 0x2e, 0x2d, 0xb8, 0x00, 0xc4, 0x36, 0x05, 0x2c, 0x2a, 0x15, 0x04, 0x04, 0x60, 0x2e, 0xb6, 0x00, 0xc6, 0x36, 0x06, 0xa7, 0x03, 0x09, 0x2b, 0x2a, 0x15, 0x04, 0x04, 0x60, 0x2e, 0x2d, 0xb8, 0x00, 0xc7, 0x36, 0x05, 0x2c, 0x2a, 0x15, 0x04, 0x04, 0x60, 0x2e, 0xb6, 0x00, 0xc9, 0x36, 0x06, 0xa7, 0x02, 0xed, 0x2b, 0x2a, 0x15, 0x04, 0x04, 0x60, 0x2e, 0x2a, 0x15, 0x04, 0x05, 0x60, 0x2e, 0x2d, 0xb8, 0x00, 0xca, 0x36, 0x05, 0x2c, 0x2a, 0x15, 0x04, 0x04, 0x60, 0x2e, 0x2a, 0x15, 0x04, 0x05, 0x60, 0x2e, 0xb6, 0x00, 0xcc, 0x36, 0x06, 0xa7, 0x02, 0xc5, 0x2b, 0x2a, 0x15, 0x04, 0x04, 0x60, 0x2e, 0x2d, 0xb8, 0x00, 0xcd, 0x36, 0x05, 0x2c, 0x2a, 0x15, 0x04, 0x04, 0x60, 0x2e, 0xb6, 0x00, 0xcf, 0x36, 0x06, 0xa7, 0x02, 0xa9, 0x2b, 0x2a, 0x15, 0x04, 0x04, 0x60, 0x2e, 0x2d, 0xb8, 0x00, 0xd0, 0x36, 0x05, 0x2c, 0x2a, 0x15, 0x04, 0x04, 0x60, 0x2e, 0xb6, 0x00, 0xd2, 0x36, 0x06, 0xa7, 0x02, 0x8d, 0x2b, 0x2a, 0x15, 0x04, 0x04, 0x60, 0x2e, 0x2a, 0x15, 0x04, 0x05, 0x60, 0x2e, 0x2d, 0xb8, 0x00, 0xd3, 0x36, 0x05, 0x2c, 0x2a, 0x15, 0x04, 0x04, 0x60, 0x2e, 0x2a, 0x15, 0x04, 0x05, 0x60, 0x2e, 0xb6, 0x00, 0xd5, 0x36, 0x06, 0xa7, 0x02, 0x65, 0x2b, 0x2a, 0x15, 0x04, 0x04, 0x60, 0x2e, 0x2a, 0x15, 0x04, 0x05, 0x60, 0x2e, 0x2d, 0xb8, 0x00, 0xd6, 0x36, 0x05, 0x2c, 0x2a, 0x15, 0x04, 0x04, 0x60, 0x2e, 0x2a, 0x15, 0x04, 0x05, 0x60, 0x2e, 0xb6, 0x00, 0xd8, 0x36, 0x06, 0xa7, 0x02, 0x3d, 0x2b, 0x2a, 0x15, 0x04, 0x04, 0x60, 0x2e, 0x2d, 0xb8, 0x00, 0xd9, 0x36, 0x05, 0x2c, 0x2a, 0x15, 0x04, 0x04, 0x60, 0x2e, 0xb6, 0x00, 0xdb, 0x36, 0x06, 0xa7, 0x02, 0x21, 0x2b, 0x2a, 0x15, 0x04, 0x04, 0x60, 0x2e, 0x2a, 0x15, 0x04, 0x05, 0x60, 0x2e, 0x2d, 0xb8, 0x00, 0xdc, 0x36, 0x05, 0x2c, 0x2a, 0x15, 0x04, 0x04, 0x60, 0x2e, 0x2a, 0x15, 0x04, 0x05, 0x60, 0x2e, 0xb6, 0x00, 0xde, 0x36, 0x06, 0xa7, 0x01, 0xf9, 0x2b, 0x2a, 0x15, 0x04, 0x04, 0x60, 0x2e, 0x2a, 0x15, 0x04, 0x05, 0x60, 0x2e, 0x2d, 0xb8, 0x00, 0xdf, 0x36, 0x05, 0x2c, 0x2a, 0x15, 0x04, 0x04, 0x60, 0x2e, 0x2a, 0x15, 0x04, 0x05, 0x60, 0x2e, 0xb6, 0x00, 0xe1, 0x37, 0x06, 0xa7, 0x01, 0xd1, 0x2b, 0x2a, 0x15, 0x04, 0x04, 0x60, 0x2e, 0x2a, 0x15, 0x04, 0x05, 0x60, 0x2e, 0x2d, 0xb8, 0x00, 0xe2, 0x36, 0x05, 0x2c, 0x2a, 0x15, 0x04, 0x04, 0x60, 0x2e, 0x2a, 0x15, 0x04, 0x05, 0x60, 0x2e, 0xb6, 0x00, 0xe4, 0x36, 0x06, 0xa7, 0x01, 0xa9, 0x2b, 0x2a, 0x15, 0x04, 0x04, 0x60, 0x2e, 0x2a, 0x15, 0x04, 0x05, 0x60, 0x2e, 0x2d, 0xb8, 0x00, 0xe5, 0x36, 0x05, 0x2c, 0x2a, 0x15, 0x04, 0x04, 0x60, 0x2e, 0x2a, 0x15, 0x04, 0x05, 0x60, 0x2e, 0xb6, 0x00, 0xe7, 0x36, 0x06, 0xa7, 0x01, 0x81, 0x2b, 0x2a, 0x15, 0x04, 0x04, 0x60, 0x2e, 0x2a, 0x15, 0x04, 0x05, 0x60, 0x2e, 0xb6, 0x00, 0xe8, 0x57, 0x2c, 0x2a, 0x15, 0x04, 0x04, 0x60, 0x2e, 0x2a, 0x15, 0x04, 0x05, 0x60, 0x2e, 0xb6, 0x00, 0xeb, 0x57, 0xa7, 0x01, 0x5c, 0x2b, 0x2a, 0x15, 0x04, 0x04, 0x60, 0x2e, 0x2d, 0xb8, 0x00, 0xec, 0x36, 0x05, 0x2c, 0x2a, 0x15, 0x04, 0x04, 0x60, 0x2e, 0xb6, 0x00, 0xee, 0x36, 0x06, 0xa7, 0x01, 0x40, 0x2b, 0x2a, 0x15, 0x04, 0x04, 0x60, 0x2e, 0x2a, 0x15, 0x04, 0x05, 0x60, 0x2e, 0x2d, 0xb8, 0x00, 0xef, 0x36, 0x05, 0x2c, 0x2a, 0x15, 0x04, 0x04, 0x60, 0x2e, 0x2a, 0x15, 0x04, 0x05, 0x60, 0x2e, 0xb6, 0x00, 0xf1, 0x36, 0x06, 0xa7, 0x01, 0x18, 0x2b, 0x2a, 0x15, 0x04, 0x04, 0x60, 0x2e, 0x2d, 0xb8, 0x00, 0xf2, 0x36, 0x05, 0x2c, 0x2a, 0x15, 0x04, 0x04, 0x60, 0x2e, 0xb6, 0x00, 0xf4, 0x36, 0x06, 0xa7, 0x00, 0xfc, 0x2b, 0x2a, 0x15, 0x04, 0x04, 0x60, 0x2e, 0x2a, 0x15, 0x04, 0x05, 0x60, 0x2e, 0x2d, 0xb8, 0x00, 0xf5, 0x36, 0x05, 0x2c, 0x2a, 0x15, 0x04, 0x04, 0x60, 0x2e, 0x2a, 0x15, 0x04, 0x05, 0x60, 0x2e, 0xb6, 0x00, 0xf7, 0x36, 0x06, 0xa7, 0x00, 0xd4, 0x2b, 0x2a, 0x15, 0x04, 0x04, 0x60, 0x2e, 0x2a, 0x15, 0x04, 0x05, 0x60, 0x2e, 0x2a, 0x15, 0x04, 0x06, 0x60, 0x2e, 0x2d, 0xb8, 0x00, 0xf8, 0x36, 0x05, 0x2c, 0x2a, 0x15, 0x04, 0x04, 0x60, 0x2e, 0x2a, 0x15, 0x04, 0x05, 0x60, 0x2e, 0x2a, 0x15, 0x04, 0x06, 0x60, 0x2e, 0xb6, 0x00, 0xfa, 0x36, 0x06, 0xa7, 0x00, 0xa0, 0x2b, 0x2a, 0x15, 0x04, 0x04, 0x60, 0x2e, 0x2a, 0x15, 0x04, 0x05, 0x60, 0x2e, 0xb6, 0x00, 0xfb, 0x57, 0x2c, 0x2a, 0x15, 0x04, 0x04, 0x60, 0x2e, 0x2a, 0x15, 0x04, 0x05, 0x60, 0x2e, 0xb6, 0x00, 0xfe, 0x57, 0xa7, 0x00, 0x7b, 0x2b, 0x2a, 0x15, 0x04, 0x04, 0x60, 0x2e, 0x2d, 0xb8, 0x00, 0xff, 0x36, 0x05, 0x2c, 0x2a, 0x15, 0x04, 0x04, 0x60, 0x2e, 0xb6, 0x01, 0x01, 0x36, 0x06, 0xa7, 0x00, 0x5f, 0x2b, 0x2a, 0x15, 0x04, 0x04, 0x60, 0x2e, 0x2a, 0x15, 0x04, 0x05, 0x60, 0x2e, 0x2d, 0xb8, 0x01, 0x02, 0x36, 0x05, 0x2c, 0x2a, 0x15, 0x04, 0x04, 0x60, 0x2e, 0x2a, 0x15, 0x04, 0x05, 0x60, 0x2e, 0xb6, 0x01, 0x04, 0x36, 0x06, 0xa7, 0x00, 0x37, 0x2b, 0x2a, 0x15, 0x04, 0x04, 0x60, 0x2e, 0x2a, 0x15, 0x04, 0x05, 0x60, 0x2e, 0x2a, 0x15, 0x04, 0x06, 0x60, 0x2e, 0x2d, 0xb8, 0x01, 0x05, 0x36, 0x05, 0x2c, 0x2a, 0x15, 0x04, 0x04, 0x60, 0x2e, 0x2a, 0x15, 0x04, 0x05, 0x60, 0x2e, 0x2a, 0x15, 0x04, 0x06, 0x60, 0x2e, 0xb6, 0x01, 0x07, 0x36, 0x06, 0xa7, 0x00, 0x03, 0x84, 0x04, 0x06, 0xa7, 0xf9, 0x82, 0x04, 0xac]
theorem cl_eqL : cL_law = ByteArray.mk lawL.toArray := rfl
def wl_1 : List UInt8 := [0x00, 0x00, 0x03, 0x20, 0x00, 0x00, 0x03, 0x48, 0x00, 0x00, 0x03, 0x64, 0x00, 0x00, 0x03, 0x80, 0x00, 0x00, 0x03, 0xa8, 0x00, 0x00, 0x03, 0xc4, 0x00, 0x00, 0x03, 0xe0, 0x00, 0x00, 0x04, 0x08, 0x00, 0x00, 0x04, 0x30, 0x00, 0x00, 0x04, 0x4c, 0x00, 0x00, 0x04, 0x74, 0x00, 0x00, 0x04, 0x9c, 0x00, 0x00, 0x04, 0xc4, 0x00, 0x00, 0x04, 0xec, 0x00, 0x00, 0x05, 0x11, 0x00, 0x00, 0x05, 0x2d, 0x00, 0x00, 0x05, 0x55, 0x00, 0x00, 0x05, 0x71, 0x00, 0x00, 0x05, 0x99, 0x00, 0x00, 0x05, 0xcd, 0x00, 0x00, 0x05, 0xf2, 0x00, 0x00, 0x06, 0x0e, 0x00, 0x00, 0x06, 0x36, 0x2b, 0x2a, 0x15, 0x04, 0x04, 0x60, 0x2e, 0x2a, 0x15, 0x04, 0x05, 0x60, 0x2e, 0x2a, 0x15, 0x04, 0x06, 0x60, 0x2e, 0x2a, 0x15, 0x04, 0x07, 0x60, 0x2e, 0x2a, 0x15, 0x04, 0x08, 0x60, 0x2e, 0x2d, 0xb8, 0x00, 0x83, 0x36]
theorem dwl_1 : dw_ok cL_law (ByteArray.mk wl_1.toArray) 120 := by
  rw [cl_eqL]
  exact dw_win (by decide +kernel) (by decide +kernel)
def wl_2 : List UInt8 := [0x08, 0x60, 0x2e, 0x2d, 0xb8, 0x00, 0x83, 0x36, 0x05, 0x2c, 0x2a, 0x15, 0x04, 0x04, 0x60, 0x2e, 0x2a, 0x15, 0x04, 0x05, 0x60, 0x2e, 0x2a, 0x15, 0x04, 0x06, 0x60, 0x2e, 0x2a, 0x15, 0x04, 0x07, 0x60, 0x2e, 0x2a, 0x15, 0x04, 0x08, 0x60, 0x2e, 0xb6, 0x00, 0x88, 0x36, 0x06, 0xa7, 0x05, 0x75, 0x2b, 0x2a, 0x15, 0x04, 0x04, 0x60, 0x2e, 0xb8, 0x00, 0x89, 0x36, 0x05, 0x2c, 0x2a, 0x15, 0x04, 0x04, 0x60, 0x2e, 0xb6, 0x00, 0x8c, 0xa7, 0x05, 0x5c, 0x2b, 0x2d, 0xb8, 0x00, 0x8d, 0x36, 0x05, 0x2c, 0xb6, 0x00, 0x90, 0x36, 0x06, 0xa7, 0x05, 0x4c, 0x2b, 0x2a, 0x15, 0x04, 0x04, 0x60, 0x2e, 0x2d, 0xb8, 0x00, 0x91, 0x36, 0x05, 0x2c, 0x2a, 0x15, 0x04, 0x04, 0x60, 0x2e, 0xb6, 0x00, 0x94, 0x36, 0x06, 0xa7, 0x05, 0x30, 0x2b, 0x2a, 0x15, 0x04, 0x04, 0x60, 0x2e, 0xb6, 0x00, 0x95, 0x57]
theorem dwl_2 : dw_ok cL_law (ByteArray.mk wl_2.toArray) 240 := by
  rw [cl_eqL]
  exact dw_win (by decide +kernel) (by decide +kernel)
def wl_3 : List UInt8 := [0x04, 0x04, 0x60, 0x2e, 0xb6, 0x00, 0x95, 0x57, 0x2c, 0x2a, 0x15, 0x04, 0x04, 0x60, 0x2e, 0xb6, 0x00, 0x99, 0x57, 0xa7, 0x05, 0x17, 0x2b, 0x2a, 0x15, 0x04, 0x04, 0x60, 0x2e, 0xb6, 0x00, 0x9a, 0x2c, 0x2a, 0x15, 0x04, 0x04, 0x60, 0x2e, 0xb6, 0x00, 0x9d, 0x9f, 0x05, 0x00, 0x03, 0xac, 0x2b, 0x2a, 0x15, 0x04, 0x04, 0x60, 0x2e, 0x2a, 0x15, 0x04, 0x05, 0x60, 0x2e, 0x2d, 0xb8, 0x00, 0x9e, 0x36, 0x05, 0x2c, 0x2a, 0x15, 0x04, 0x04, 0x60, 0x2e, 0x2a, 0x15, 0x04, 0x05, 0x60, 0x2e, 0xb6, 0x00, 0xa1, 0x36, 0x06, 0xa7, 0x04, 0xd6, 0x2b, 0x2a, 0x15, 0x04, 0x04, 0x60, 0x2e, 0x2a, 0x15, 0x04, 0x05, 0x60, 0x2e, 0x2a, 0x15, 0x04, 0x06, 0x60, 0x2e, 0x2d, 0xb8, 0x00, 0xa2, 0x36, 0x05, 0x2c, 0x2a, 0x15, 0x04, 0x04, 0x60, 0x2e, 0x2a, 0x15, 0x04, 0x05, 0x60, 0x2e, 0x2a, 0x15, 0x04]
theorem dwl_3 : dw_ok cL_law (ByteArray.mk wl_3.toArray) 360 := by
  rw [cl_eqL]
  exact dw_win (by decide +kernel) (by decide +kernel)
def wl_4 : List UInt8 := [0x15, 0x04, 0x05, 0x60, 0x2e, 0x2a, 0x15, 0x04, 0x06, 0x60, 0x2e, 0xb6, 0x00, 0xa5, 0x36, 0x06, 0xa7, 0x04, 0xa2, 0x2b, 0x2a, 0x15, 0x04, 0x04, 0x60, 0x2e, 0x2a, 0x15, 0x04, 0x05, 0x60, 0x2e, 0x2a, 0x15, 0x04, 0x06, 0x60, 0x2e, 0x2d, 0xb8, 0x00, 0xa6, 0x36, 0x05, 0x2c, 0x2a, 0x15, 0x04, 0x04, 0x60, 0x2e, 0x2a, 0x15, 0x04, 0x05, 0x60, 0x2e, 0x2a, 0x15, 0x04, 0x06, 0x60, 0x2e, 0xb6, 0x00, 0xa8, 0x36, 0x06, 0xa7, 0x04, 0x6e, 0x2b, 0x2a, 0x15, 0x04, 0x04, 0x60, 0x2e, 0x2a, 0x15, 0x04, 0x05, 0x60, 0x2e, 0xb6, 0x00, 0xa9, 0x57, 0x2c, 0x2a, 0x15, 0x04, 0x04, 0x60, 0x2e, 0x2a, 0x15, 0x04, 0x05, 0x60, 0x2e, 0xb6, 0x00, 0xad, 0x57, 0xa7, 0x04, 0x49, 0x2b, 0x2a, 0x15, 0x04, 0x04, 0x60, 0x2e, 0x2d, 0xb8, 0x00, 0xae, 0x36, 0x05, 0x2c, 0x2a, 0x15, 0x04, 0x04, 0x60, 0x2e]
theorem dwl_4 : dw_ok cL_law (ByteArray.mk wl_4.toArray) 480 := by
  rw [cl_eqL]
  exact dw_win (by decide +kernel) (by decide +kernel)
def wl_5 : List UInt8 := [0x05, 0x2c, 0x2a, 0x15, 0x04, 0x04, 0x60, 0x2e, 0xb6, 0x00, 0xb0, 0x36, 0x06, 0xa7, 0x04, 0x2d, 0x2b, 0x2a, 0x15, 0x04, 0x04, 0x60, 0x2e, 0x2a, 0x15, 0x04, 0x05, 0x60, 0x2e, 0x2d, 0xb8, 0x00, 0xb1, 0x36, 0x05, 0x2c, 0x2a, 0x15, 0x04, 0x04, 0x60, 0x2e, 0x2a, 0x15, 0x04, 0x05, 0x60, 0x2e, 0xb6, 0x00, 0xb3, 0x36, 0x06, 0xa7, 0x04, 0x05, 0x2b, 0x2a, 0x15, 0x04, 0x04, 0x60, 0x2e, 0x2a, 0x15, 0x04, 0x05, 0x60, 0x2e, 0x2d, 0xb8, 0x00, 0xb4, 0x36, 0x05, 0x2c, 0x2a, 0x15, 0x04, 0x04, 0x60, 0x2e, 0x2a, 0x15, 0x04, 0x05, 0x60, 0x2e, 0xb6, 0x00, 0xb6, 0x36, 0x06, 0xa7, 0x03, 0xdd, 0x2b, 0x2a, 0x15, 0x04, 0x04, 0x60, 0x2e, 0x2a, 0x15, 0x04, 0x05, 0x60, 0x2e, 0x2d, 0xb8, 0x00, 0xb7, 0x36, 0x05, 0x2c, 0x2a, 0x15, 0x04, 0x04, 0x60, 0x2e, 0x2a, 0x15, 0x04, 0x05, 0x60, 0x2e]
theorem dwl_5 : dw_ok cL_law (ByteArray.mk wl_5.toArray) 600 := by
  rw [cl_eqL]
  exact dw_win (by decide +kernel) (by decide +kernel)
def wl_6 : List UInt8 := [0x60, 0x2e, 0x2a, 0x15, 0x04, 0x05, 0x60, 0x2e, 0xb6, 0x00, 0xb9, 0x36, 0x06, 0xa7, 0x03, 0xb5, 0x2b, 0x2a, 0x15, 0x04, 0x04, 0x60, 0x2e, 0x2a, 0x15, 0x04, 0x05, 0x60, 0x2e, 0x2d, 0xb8, 0x00, 0xba, 0x36, 0x05, 0x2c, 0x2a, 0x15, 0x04, 0x04, 0x60, 0x2e, 0x2a, 0x15, 0x04, 0x05, 0x60, 0x2e, 0xb6, 0x00, 0xbc, 0x36, 0x06, 0xa7, 0x03, 0x8d, 0x2b, 0x2a, 0x15, 0x04, 0x04, 0x60, 0x2e, 0x2a, 0x15, 0x04, 0x05, 0x60, 0x2e, 0x2a, 0x15, 0x04, 0x06, 0x60, 0x2e, 0x2a, 0x15, 0x04, 0x07, 0x60, 0x2e, 0x2d, 0xb8, 0x00, 0xbd, 0x36, 0x05, 0x2c, 0x2a, 0x15, 0x04, 0x04, 0x60, 0x2e, 0x2a, 0x15, 0x04, 0x05, 0x60, 0x2e, 0x2a, 0x15, 0x04, 0x06, 0x60, 0x2e, 0x2a, 0x15, 0x04, 0x07, 0x60, 0x2e, 0xb6, 0x00, 0xc0, 0x36, 0x06, 0xa7, 0x03, 0x4d, 0x2b, 0x2a, 0x15, 0x04, 0x04, 0x60, 0x2e, 0x2a]
theorem dwl_6 : dw_ok cL_law (ByteArray.mk wl_6.toArray) 720 := by
  rw [cl_eqL]
  exact dw_win (by decide +kernel) (by decide +kernel)
def wl_7 : List UInt8 := [0x2b, 0x2a, 0x15, 0x04, 0x04, 0x60, 0x2e, 0x2a, 0x15, 0x04, 0x05, 0x60, 0x2e, 0x2d, 0xb8, 0x00, 0xc1, 0x36, 0x05, 0x2c, 0x2a, 0x15, 0x04, 0x04, 0x60, 0x2e, 0x2a, 0x15, 0x04, 0x05, 0x60, 0x2e, 0xb6, 0x00, 0xc3, 0x36, 0x06, 0xa7, 0x03, 0x25, 0x2b, 0x2a, 0x15, 0x04, 0x04, 0x60, 0x2e, 0x2d, 0xb8, 0x00, 0xc4, 0x36, 0x05, 0x2c, 0x2a, 0x15, 0x04, 0x04, 0x60, 0x2e, 0xb6, 0x00, 0xc6, 0x36, 0x06, 0xa7, 0x03, 0x09, 0x2b, 0x2a, 0x15, 0x04, 0x04, 0x60, 0x2e, 0x2d, 0xb8, 0x00, 0xc7, 0x36, 0x05, 0x2c, 0x2a, 0x15, 0x04, 0x04, 0x60, 0x2e, 0xb6, 0x00, 0xc9, 0x36, 0x06, 0xa7, 0x02, 0xed, 0x2b, 0x2a, 0x15, 0x04, 0x04, 0x60, 0x2e, 0x2a, 0x15, 0x04, 0x05, 0x60, 0x2e, 0x2d, 0xb8, 0x00, 0xca, 0x36, 0x05, 0x2c, 0x2a, 0x15, 0x04, 0x04, 0x60, 0x2e, 0x2a, 0x15, 0x04, 0x05, 0x60, 0x2e]
theorem dwl_7 : dw_ok cL_law (ByteArray.mk wl_7.toArray) 840 := by
  rw [cl_eqL]
  exact dw_win (by decide +kernel) (by decide +kernel)
def wl_8 : List UInt8 := [0x60, 0x2e, 0x2a, 0x15, 0x04, 0x05, 0x60, 0x2e, 0xb6, 0x00, 0xcc, 0x36, 0x06, 0xa7, 0x02, 0xc5, 0x2b, 0x2a, 0x15, 0x04, 0x04, 0x60, 0x2e, 0x2d, 0xb8, 0x00, 0xcd, 0x36, 0x05, 0x2c, 0x2a, 0x15, 0x04, 0x04, 0x60, 0x2e, 0xb6, 0x00, 0xcf, 0x36, 0x06, 0xa7, 0x02, 0xa9, 0x2b, 0x2a, 0x15, 0x04, 0x04, 0x60, 0x2e, 0x2d, 0xb8, 0x00, 0xd0, 0x36, 0x05, 0x2c, 0x2a, 0x15, 0x04, 0x04, 0x60, 0x2e, 0xb6, 0x00, 0xd2, 0x36, 0x06, 0xa7, 0x02, 0x8d, 0x2b, 0x2a, 0x15, 0x04, 0x04, 0x60, 0x2e, 0x2a, 0x15, 0x04, 0x05, 0x60, 0x2e, 0x2d, 0xb8, 0x00, 0xd3, 0x36, 0x05, 0x2c, 0x2a, 0x15, 0x04, 0x04, 0x60, 0x2e, 0x2a, 0x15, 0x04, 0x05, 0x60, 0x2e, 0xb6, 0x00, 0xd5, 0x36, 0x06, 0xa7, 0x02, 0x65, 0x2b, 0x2a, 0x15, 0x04, 0x04, 0x60, 0x2e, 0x2a, 0x15, 0x04, 0x05, 0x60, 0x2e, 0x2d, 0xb8, 0x00]
theorem dwl_8 : dw_ok cL_law (ByteArray.mk wl_8.toArray) 960 := by
  rw [cl_eqL]
  exact dw_win (by decide +kernel) (by decide +kernel)
def wl_9 : List UInt8 := [0x15, 0x04, 0x05, 0x60, 0x2e, 0x2d, 0xb8, 0x00, 0xd6, 0x36, 0x05, 0x2c, 0x2a, 0x15, 0x04, 0x04, 0x60, 0x2e, 0x2a, 0x15, 0x04, 0x05, 0x60, 0x2e, 0xb6, 0x00, 0xd8, 0x36, 0x06, 0xa7, 0x02, 0x3d, 0x2b, 0x2a, 0x15, 0x04, 0x04, 0x60, 0x2e, 0x2d, 0xb8, 0x00, 0xd9, 0x36, 0x05, 0x2c, 0x2a, 0x15, 0x04, 0x04, 0x60, 0x2e, 0xb6, 0x00, 0xdb, 0x36, 0x06, 0xa7, 0x02, 0x21, 0x2b, 0x2a, 0x15, 0x04, 0x04, 0x60, 0x2e, 0x2a, 0x15, 0x04, 0x05, 0x60, 0x2e, 0x2d, 0xb8, 0x00, 0xdc, 0x36, 0x05, 0x2c, 0x2a, 0x15, 0x04, 0x04, 0x60, 0x2e, 0x2a, 0x15, 0x04, 0x05, 0x60, 0x2e, 0xb6, 0x00, 0xde, 0x36, 0x06, 0xa7, 0x01, 0xf9, 0x2b, 0x2a, 0x15, 0x04, 0x04, 0x60, 0x2e, 0x2a, 0x15, 0x04, 0x05, 0x60, 0x2e, 0x2d, 0xb8, 0x00, 0xdf, 0x36, 0x05, 0x2c, 0x2a, 0x15, 0x04, 0x04, 0x60, 0x2e, 0x2a, 0x15]
theorem dwl_9 : dw_ok cL_law (ByteArray.mk wl_9.toArray) 1080 := by
  rw [cl_eqL]
  exact dw_win (by decide +kernel) (by decide +kernel)
def wl_10 : List UInt8 := [0x2a, 0x15, 0x04, 0x04, 0x60, 0x2e, 0x2a, 0x15, 0x04, 0x05, 0x60, 0x2e, 0xb6, 0x00, 0xe1, 0x37, 0x06, 0xa7, 0x01, 0xd1, 0x2b, 0x2a, 0x15, 0x04, 0x04, 0x60, 0x2e, 0x2a, 0x15, 0x04, 0x05, 0x60, 0x2e, 0x2d, 0xb8, 0x00, 0xe2, 0x36, 0x05, 0x2c, 0x2a, 0x15, 0x04, 0x04, 0x60, 0x2e, 0x2a, 0x15, 0x04, 0x05, 0x60, 0x2e, 0xb6, 0x00, 0xe4, 0x36, 0x06, 0xa7, 0x01, 0xa9, 0x2b, 0x2a, 0x15, 0x04, 0x04, 0x60, 0x2e, 0x2a, 0x15, 0x04, 0x05, 0x60, 0x2e, 0x2d, 0xb8, 0x00, 0xe5, 0x36, 0x05, 0x2c, 0x2a, 0x15, 0x04, 0x04, 0x60, 0x2e, 0x2a, 0x15, 0x04, 0x05, 0x60, 0x2e, 0xb6, 0x00, 0xe7, 0x36, 0x06, 0xa7, 0x01, 0x81, 0x2b, 0x2a, 0x15, 0x04, 0x04, 0x60, 0x2e, 0x2a, 0x15, 0x04, 0x05, 0x60, 0x2e, 0xb6, 0x00, 0xe8, 0x57, 0x2c, 0x2a, 0x15, 0x04, 0x04, 0x60, 0x2e, 0x2a, 0x15, 0x04, 0x05]
theorem dwl_10 : dw_ok cL_law (ByteArray.mk wl_10.toArray) 1200 := by
  rw [cl_eqL]
  exact dw_win (by decide +kernel) (by decide +kernel)
def wl_11 : List UInt8 := [0x04, 0x04, 0x60, 0x2e, 0x2a, 0x15, 0x04, 0x05, 0x60, 0x2e, 0xb6, 0x00, 0xeb, 0x57, 0xa7, 0x01, 0x5c, 0x2b, 0x2a, 0x15, 0x04, 0x04, 0x60, 0x2e, 0x2d, 0xb8, 0x00, 0xec, 0x36, 0x05, 0x2c, 0x2a, 0x15, 0x04, 0x04, 0x60, 0x2e, 0xb6, 0x00, 0xee, 0x36, 0x06, 0xa7, 0x01, 0x40, 0x2b, 0x2a, 0x15, 0x04, 0x04, 0x60, 0x2e, 0x2a, 0x15, 0x04, 0x05, 0x60, 0x2e, 0x2d, 0xb8, 0x00, 0xef, 0x36, 0x05, 0x2c, 0x2a, 0x15, 0x04, 0x04, 0x60, 0x2e, 0x2a, 0x15, 0x04, 0x05, 0x60, 0x2e, 0xb6, 0x00, 0xf1, 0x36, 0x06, 0xa7, 0x01, 0x18, 0x2b, 0x2a, 0x15, 0x04, 0x04, 0x60, 0x2e, 0x2d, 0xb8, 0x00, 0xf2, 0x36, 0x05, 0x2c, 0x2a, 0x15, 0x04, 0x04, 0x60, 0x2e, 0xb6, 0x00, 0xf4, 0x36, 0x06, 0xa7, 0x00, 0xfc, 0x2b, 0x2a, 0x15, 0x04, 0x04, 0x60, 0x2e, 0x2a, 0x15, 0x04, 0x05, 0x60, 0x2e, 0x2d, 0xb8]
theorem dwl_11 : dw_ok cL_law (ByteArray.mk wl_11.toArray) 1320 := by
  rw [cl_eqL]
  exact dw_win (by decide +kernel) (by decide +kernel)
def wl_12 : List UInt8 := [0x2a, 0x15, 0x04, 0x05, 0x60, 0x2e, 0x2d, 0xb8, 0x00, 0xf5, 0x36, 0x05, 0x2c, 0x2a, 0x15, 0x04, 0x04, 0x60, 0x2e, 0x2a, 0x15, 0x04, 0x05, 0x60, 0x2e, 0xb6, 0x00, 0xf7, 0x36, 0x06, 0xa7, 0x00, 0xd4, 0x2b, 0x2a, 0x15, 0x04, 0x04, 0x60, 0x2e, 0x2a, 0x15, 0x04, 0x05, 0x60, 0x2e, 0x2a, 0x15, 0x04, 0x06, 0x60, 0x2e, 0x2d, 0xb8, 0x00, 0xf8, 0x36, 0x05, 0x2c, 0x2a, 0x15, 0x04, 0x04, 0x60, 0x2e, 0x2a, 0x15, 0x04, 0x05, 0x60, 0x2e, 0x2a, 0x15, 0x04, 0x06, 0x60, 0x2e, 0xb6, 0x00, 0xfa, 0x36, 0x06, 0xa7, 0x00, 0xa0, 0x2b, 0x2a, 0x15, 0x04, 0x04, 0x60, 0x2e, 0x2a, 0x15, 0x04, 0x05, 0x60, 0x2e, 0xb6, 0x00, 0xfb, 0x57, 0x2c, 0x2a, 0x15, 0x04, 0x04, 0x60, 0x2e, 0x2a, 0x15, 0x04, 0x05, 0x60, 0x2e, 0xb6, 0x00, 0xfe, 0x57, 0xa7, 0x00, 0x7b, 0x2b, 0x2a, 0x15, 0x04, 0x04, 0x60]
theorem dwl_12 : dw_ok cL_law (ByteArray.mk wl_12.toArray) 1440 := by
  rw [cl_eqL]
  exact dw_win (by decide +kernel) (by decide +kernel)
def wl_13 : List UInt8 := [0x00, 0x7b, 0x2b, 0x2a, 0x15, 0x04, 0x04, 0x60, 0x2e, 0x2d, 0xb8, 0x00, 0xff, 0x36, 0x05, 0x2c, 0x2a, 0x15, 0x04, 0x04, 0x60, 0x2e, 0xb6, 0x01, 0x01, 0x36, 0x06, 0xa7, 0x00, 0x5f, 0x2b, 0x2a, 0x15, 0x04, 0x04, 0x60, 0x2e, 0x2a, 0x15, 0x04, 0x05, 0x60, 0x2e, 0x2d, 0xb8, 0x01, 0x02, 0x36, 0x05, 0x2c, 0x2a, 0x15, 0x04, 0x04, 0x60, 0x2e, 0x2a, 0x15, 0x04, 0x05, 0x60, 0x2e, 0xb6, 0x01, 0x04, 0x36, 0x06, 0xa7, 0x00, 0x37, 0x2b, 0x2a, 0x15, 0x04, 0x04, 0x60, 0x2e, 0x2a, 0x15, 0x04, 0x05, 0x60, 0x2e, 0x2a, 0x15, 0x04, 0x06, 0x60, 0x2e, 0x2d, 0xb8, 0x01, 0x05, 0x36, 0x05, 0x2c, 0x2a, 0x15, 0x04, 0x04, 0x60, 0x2e, 0x2a, 0x15, 0x04, 0x05, 0x60, 0x2e, 0x2a, 0x15, 0x04, 0x06, 0x60, 0x2e, 0xb6, 0x01, 0x07, 0x36, 0x06, 0xa7, 0x00, 0x03, 0x84, 0x04, 0x06, 0xa7, 0xf9, 0x82]
theorem dwl_13 : dw_ok cL_law (ByteArray.mk wl_13.toArray) 1560 := by
  rw [cl_eqL]
  exact dw_win (by decide +kernel) (by decide +kernel)
theorem dz_212 : decode cL_law 212 = .ok (.aload_n 1, 1) := dw_at dwl_1 (p := 92) rfl (by decide +kernel)
theorem dz_213 : decode cL_law 213 = .ok (.aload_n 0, 1) := dw_at dwl_1 (p := 93) rfl (by decide +kernel)
theorem dz_214 : decode cL_law 214 = .ok (.iload 4, 2) := dw_at dwl_1 (p := 94) rfl (by decide +kernel)
theorem dz_216 : decode cL_law 216 = .ok (.iconst 1, 1) := dw_at dwl_1 (p := 96) rfl (by decide +kernel)
theorem dz_217 : decode cL_law 217 = .ok (.iadd, 1) := dw_at dwl_1 (p := 97) rfl (by decide +kernel)
theorem dz_218 : decode cL_law 218 = .ok (.iaload, 1) := dw_at dwl_1 (p := 98) rfl (by decide +kernel)
theorem dz_219 : decode cL_law 219 = .ok (.aload_n 0, 1) := dw_at dwl_1 (p := 99) rfl (by decide +kernel)
theorem dz_220 : decode cL_law 220 = .ok (.iload 4, 2) := dw_at dwl_1 (p := 100) rfl (by decide +kernel)
theorem dz_222 : decode cL_law 222 = .ok (.iconst 2, 1) := dw_at dwl_1 (p := 102) rfl (by decide +kernel)
theorem dz_223 : decode cL_law 223 = .ok (.iadd, 1) := dw_at dwl_1 (p := 103) rfl (by decide +kernel)
theorem dz_224 : decode cL_law 224 = .ok (.iaload, 1) := dw_at dwl_1 (p := 104) rfl (by decide +kernel)
theorem dz_225 : decode cL_law 225 = .ok (.aload_n 0, 1) := dw_at dwl_1 (p := 105) rfl (by decide +kernel)
theorem dz_226 : decode cL_law 226 = .ok (.iload 4, 2) := dw_at dwl_1 (p := 106) rfl (by decide +kernel)
theorem dz_228 : decode cL_law 228 = .ok (.iconst 3, 1) := dw_at dwl_1 (p := 108) rfl (by decide +kernel)
theorem dz_229 : decode cL_law 229 = .ok (.iadd, 1) := dw_at dwl_1 (p := 109) rfl (by decide +kernel)
theorem dz_230 : decode cL_law 230 = .ok (.iaload, 1) := dw_at dwl_1 (p := 110) rfl (by decide +kernel)
theorem dz_231 : decode cL_law 231 = .ok (.aload_n 0, 1) := dw_at dwl_1 (p := 111) rfl (by decide +kernel)
theorem dz_232 : decode cL_law 232 = .ok (.iload 4, 2) := dw_at dwl_1 (p := 112) rfl (by decide +kernel)
theorem dz_234 : decode cL_law 234 = .ok (.iconst 4, 1) := dw_at dwl_1 (p := 114) rfl (by decide +kernel)
theorem dz_235 : decode cL_law 235 = .ok (.iadd, 1) := dw_at dwl_1 (p := 115) rfl (by decide +kernel)
theorem dz_236 : decode cL_law 236 = .ok (.iaload, 1) := dw_at dwl_1 (p := 116) rfl (by decide +kernel)
theorem dz_237 : decode cL_law 237 = .ok (.aload_n 0, 1) := dw_at dwl_1 (p := 117) rfl (by decide +kernel)
theorem dz_238 : decode cL_law 238 = .ok (.iload 4, 2) := dw_at dwl_1 (p := 118) rfl (by decide +kernel)
theorem dz_240 : decode cL_law 240 = .ok (.iconst 5, 1) := dw_at dwl_2 (p := 0) rfl (by decide +kernel)
theorem dz_241 : decode cL_law 241 = .ok (.iadd, 1) := dw_at dwl_2 (p := 1) rfl (by decide +kernel)
theorem dz_242 : decode cL_law 242 = .ok (.iaload, 1) := dw_at dwl_2 (p := 2) rfl (by decide +kernel)
theorem dz_243 : decode cL_law 243 = .ok (.aload_n 3, 1) := dw_at dwl_2 (p := 3) rfl (by decide +kernel)
theorem dz_244 : decode cL_law 244 = .ok (.invokestatic 131, 3) := dw_at dwl_2 (p := 4) rfl (by decide +kernel)
theorem dz_247 : decode cL_law 247 = .ok (.istore 5, 2) := dw_at dwl_2 (p := 7) rfl (by decide +kernel)
theorem dz_249 : decode cL_law 249 = .ok (.aload_n 2, 1) := dw_at dwl_2 (p := 9) rfl (by decide +kernel)
theorem dz_250 : decode cL_law 250 = .ok (.aload_n 0, 1) := dw_at dwl_2 (p := 10) rfl (by decide +kernel)
theorem dz_251 : decode cL_law 251 = .ok (.iload 4, 2) := dw_at dwl_2 (p := 11) rfl (by decide +kernel)
theorem dz_253 : decode cL_law 253 = .ok (.iconst 1, 1) := dw_at dwl_2 (p := 13) rfl (by decide +kernel)
theorem dz_254 : decode cL_law 254 = .ok (.iadd, 1) := dw_at dwl_2 (p := 14) rfl (by decide +kernel)
theorem dz_255 : decode cL_law 255 = .ok (.iaload, 1) := dw_at dwl_2 (p := 15) rfl (by decide +kernel)
theorem dz_256 : decode cL_law 256 = .ok (.aload_n 0, 1) := dw_at dwl_2 (p := 16) rfl (by decide +kernel)
theorem dz_257 : decode cL_law 257 = .ok (.iload 4, 2) := dw_at dwl_2 (p := 17) rfl (by decide +kernel)
theorem dz_259 : decode cL_law 259 = .ok (.iconst 2, 1) := dw_at dwl_2 (p := 19) rfl (by decide +kernel)
theorem dz_260 : decode cL_law 260 = .ok (.iadd, 1) := dw_at dwl_2 (p := 20) rfl (by decide +kernel)
theorem dz_261 : decode cL_law 261 = .ok (.iaload, 1) := dw_at dwl_2 (p := 21) rfl (by decide +kernel)
theorem dz_262 : decode cL_law 262 = .ok (.aload_n 0, 1) := dw_at dwl_2 (p := 22) rfl (by decide +kernel)
theorem dz_263 : decode cL_law 263 = .ok (.iload 4, 2) := dw_at dwl_2 (p := 23) rfl (by decide +kernel)
theorem dz_265 : decode cL_law 265 = .ok (.iconst 3, 1) := dw_at dwl_2 (p := 25) rfl (by decide +kernel)
theorem dz_266 : decode cL_law 266 = .ok (.iadd, 1) := dw_at dwl_2 (p := 26) rfl (by decide +kernel)
theorem dz_267 : decode cL_law 267 = .ok (.iaload, 1) := dw_at dwl_2 (p := 27) rfl (by decide +kernel)
theorem dz_268 : decode cL_law 268 = .ok (.aload_n 0, 1) := dw_at dwl_2 (p := 28) rfl (by decide +kernel)
theorem dz_269 : decode cL_law 269 = .ok (.iload 4, 2) := dw_at dwl_2 (p := 29) rfl (by decide +kernel)
theorem dz_271 : decode cL_law 271 = .ok (.iconst 4, 1) := dw_at dwl_2 (p := 31) rfl (by decide +kernel)
theorem dz_272 : decode cL_law 272 = .ok (.iadd, 1) := dw_at dwl_2 (p := 32) rfl (by decide +kernel)
theorem dz_273 : decode cL_law 273 = .ok (.iaload, 1) := dw_at dwl_2 (p := 33) rfl (by decide +kernel)
theorem dz_274 : decode cL_law 274 = .ok (.aload_n 0, 1) := dw_at dwl_2 (p := 34) rfl (by decide +kernel)
theorem dz_275 : decode cL_law 275 = .ok (.iload 4, 2) := dw_at dwl_2 (p := 35) rfl (by decide +kernel)
theorem dz_277 : decode cL_law 277 = .ok (.iconst 5, 1) := dw_at dwl_2 (p := 37) rfl (by decide +kernel)
theorem dz_278 : decode cL_law 278 = .ok (.iadd, 1) := dw_at dwl_2 (p := 38) rfl (by decide +kernel)
theorem dz_279 : decode cL_law 279 = .ok (.iaload, 1) := dw_at dwl_2 (p := 39) rfl (by decide +kernel)
theorem dz_280 : decode cL_law 280 = .ok (.invokevirtual 136, 3) := dw_at dwl_2 (p := 40) rfl (by decide +kernel)
theorem dz_283 : decode cL_law 283 = .ok (.istore 6, 2) := dw_at dwl_2 (p := 43) rfl (by decide +kernel)
theorem dz_285 : decode cL_law 285 = .ok (.goto 1397, 3) := dw_at dwl_2 (p := 45) rfl (by decide +kernel)
def ltp_feed (vl : Nat → Nat) (K : Nat) (x1 : Int32) (x2 : Int32) (x3 : Int32) (x4 : Int32) (x5 : Int32) (zc zm : ow_MS) : Option ow_LwS :=
 cs1 (le_L_feed vl K 0 x1 x2 x3 x4 x5 zc) fun v2 zc1 => cs1 (qe_X13_feed K x1 x2 x3 x4 x5 zm) fun v4 zm3 => some (vl, zc1, zm3)
set_option maxHeartbeats 4000000 in
set_option maxRecDepth 100000 in
theorem lxc_feed {p : Program} {l : Launch} {e : Env} {s : State} {m : MethodId} {args : Array Value} {below : List Frame} {meth : Method} {c : Code} {b L K n : Nat} {xs : Nat → Int32} {D : va_G} {q : Nat → ClassId} {q5 : ow_Q5} {vl u w sa : Nat → Nat} {zc zm : ow_MS} {S1 : ow_LwS} {Ts : List Cond} {Q : State → Prop} {H : Heap} {locs : List Loc} {ls : Array Slot} {cells slots : Nat} (hx : p.tables.exec = Jvm.exec) (hb : c.code = cL_law) (hml : c.maxLocals = 8) (hown : s.vm.findClass RL = some m.cls) (hts : ∀ w ∈ Ts, w.before args s = true) (hX : va_X b L xs s s.heap) (hbl : b < s.heap.size) (hZ : ∀ w ∈ wZ, w ∈ Ts) (hL1 : ∀ w ∈ wLL, w ∈ Ts) (hC1 : ∀ w ∈ wC, w ∈ Ts) (hM1 : ∀ w ∈ wM, w ∈ Ts) (hG : lx_G l s D q q5 sa) (hLn : L ≤ 3072) (hn : 6 * n + 6 ≤ L) (hq : ltp_feed vl K (xs (6 * n + 1)) (xs (6 * n + 2)) (xs (6 * n + 3)) (xs (6 * n + 4)) (xs (6 * n + 5)) zc zm = some S1) (hM : lx_M D q q5 s vl u w zc zm H locs) (hl : lv_has ls 8 [(0, .ref b), (1, .ref (u 0)), (2, .ref (w 0)), (3, .ref (u 52001)), (4, .int (nI (6 * n)))]) (hc : cells + 1 ≤ 601024) (hs : slots + 6 ≤ 7293033) (kk : ∀ (zc1 zm1 : ow_MS) (H1 : Heap) (locs1 : List Loc) (ls1 : Array Slot), lx_M D q q5 s vl u w zc1 zm1 H1 locs1 → lv_has ls1 8 [(0, .ref b), (1, .ref (u 0)), (2, .ref (w 0)), (3, .ref (u 52001)), (4, .int (nI (6 * n)))] → some (vl, zc1, zm1) = some S1 → W p l e room_1 s m args below meth c H1 locs1 (cells + 1) (slots + 6) Q (F0 m 1682 ls1 [])) : W p l e room_1 s m args below meth c H locs cells slots Q (F0 m 212 ls []) := by
  have hbA : ¬ lx_A s b := Nat.not_le.mpr hbl
  generalize e1 : xs (6 * n + 1) = x1 at hq
  generalize e2 : xs (6 * n + 2) = x2 at hq
  generalize e3 : xs (6 * n + 3) = x3 at hq
  generalize e4 : xs (6 * n + 4) = x4 at hq
  generalize e5 : xs (6 * n + 5) = x5 at hq
  unfold ltp_feed at hq
  refine lv_aload_n hx hb dz_212 rfl (lv_at hl 1 rfl) ?_
  refine lv_aload_n hx hb dz_213 rfl (lv_at hl 0 rfl) ?_
  refine lv_iload hx hb dz_214 (lv_at hl 4 rfl) ?_
  refine lv_iconst (v := 1) hx hb dz_216 (by decide) ?_
  refine lv_iadd hx hb dz_217 ?_
  refine ow_topi (y := nI (6 * n + 1)) (nI_add (6 * n) 1) ?_
  refine va_sld hx hb hX hbl hbA hM.2.2.2.2.2 (vp_in_nI (n := 6 * n + 1) (N := L) (by omega) (by omega)) dz_218 ?_
  refine ow_topi (y := x1) ((congrArg xs (nI_clamp (by omega))).trans e1) ?_
  refine lv_aload_n hx hb dz_219 rfl (lv_at hl 0 rfl) ?_
  refine lv_iload hx hb dz_220 (lv_at hl 4 rfl) ?_
  refine lv_iconst (v := 2) hx hb dz_222 (by decide) ?_
  refine lv_iadd hx hb dz_223 ?_
  refine ow_topi (y := nI (6 * n + 2)) (nI_add (6 * n) 2) ?_
  refine va_sld hx hb hX hbl hbA hM.2.2.2.2.2 (vp_in_nI (n := 6 * n + 2) (N := L) (by omega) (by omega)) dz_224 ?_
  refine ow_topi (y := x2) ((congrArg xs (nI_clamp (by omega))).trans e2) ?_
  refine lv_aload_n hx hb dz_225 rfl (lv_at hl 0 rfl) ?_
  refine lv_iload hx hb dz_226 (lv_at hl 4 rfl) ?_
  refine lv_iconst (v := 3) hx hb dz_228 (by decide) ?_
  refine lv_iadd hx hb dz_229 ?_
  refine ow_topi (y := nI (6 * n + 3)) (nI_add (6 * n) 3) ?_
  refine va_sld hx hb hX hbl hbA hM.2.2.2.2.2 (vp_in_nI (n := 6 * n + 3) (N := L) (by omega) (by omega)) dz_230 ?_
  refine ow_topi (y := x3) ((congrArg xs (nI_clamp (by omega))).trans e3) ?_
  refine lv_aload_n hx hb dz_231 rfl (lv_at hl 0 rfl) ?_
  refine lv_iload hx hb dz_232 (lv_at hl 4 rfl) ?_
  refine lv_iconst (v := 4) hx hb dz_234 (by decide) ?_
  refine lv_iadd hx hb dz_235 ?_
  refine ow_topi (y := nI (6 * n + 4)) (nI_add (6 * n) 4) ?_
  refine va_sld hx hb hX hbl hbA hM.2.2.2.2.2 (vp_in_nI (n := 6 * n + 4) (N := L) (by omega) (by omega)) dz_236 ?_
  refine ow_topi (y := x4) ((congrArg xs (nI_clamp (by omega))).trans e4) ?_
  refine lv_aload_n hx hb dz_237 rfl (lv_at hl 0 rfl) ?_
  refine lv_iload hx hb dz_238 (lv_at hl 4 rfl) ?_
  refine lv_iconst (v := 5) hx hb dz_240 (by decide) ?_
  refine lv_iadd hx hb dz_241 ?_
  refine ow_topi (y := nI (6 * n + 5)) (nI_add (6 * n) 5) ?_
  refine va_sld hx hb hX hbl hbA hM.2.2.2.2.2 (vp_in_nI (n := 6 * n + 5) (N := L) (by omega) (by omega)) dz_242 ?_
  refine ow_topi (y := x5) ((congrArg xs (nI_clamp (by omega))).trans e5) ?_
  refine lv_aload_n hx hb dz_243 rfl (lv_at hl 3 rfl) ?_
  obtain ⟨v2, zc1, hcq, hq⟩ := tw_cl1 hq
  refine lx_wrap hM (vx_runSX (As := [.ref (u 0), .int x1, .int x2, .int x3, .int x4, .int x5, .ref (u 52001)]) (rest := []) ⟨hx, hb, hml, hown, hts⟩ (kl_L_feed l D q vl u hM.2.2.1.1 hG.1 sa K 0 x1 x2 x3 x4 x5 (by unfold cw_X11 ci_X11; exact List.mem_singleton.mpr rfl) zc zc1 v2 hcq) (vx_cwSW 7 hts (lx_gS (lx_all wLL_good rfl) (lx_mem hL1 (hZ _ zq_0)) (hZ _ zq_1) (hZ _ zq_2) (hZ _ zq_3) rfl rfl rfl) rfl rfl rfl (by decide +kernel) ⟨(Nat.le_of_ble_eq_true rfl), (Nat.le_of_ble_eq_true rfl)⟩) (lx_preL hG hM) rfl rfl hl.1 rfl (lv_room (Nat.le_of_ble_eq_true rfl)) dz_244 ⟨(by show _ ≤ 601024; omega), (by show _ ≤ 7293033; omega)⟩) (fun H locs hM => ?_)
  refine lv_istore (lv' := [(5, .int v2), (0, .ref b), (1, .ref (u 0)), (2, .ref (w 0)), (3, .ref (u 52001)), (4, .int (nI (6 * n)))]) hx hb dz_247 hl (by decide) rfl (fun ls hl => ?_)
  refine lv_aload_n hx hb dz_249 rfl (lv_at hl 3 rfl) ?_
  refine lv_aload_n hx hb dz_250 rfl (lv_at hl 1 rfl) ?_
  refine lv_iload hx hb dz_251 (lv_at hl 5 rfl) ?_
  refine lv_iconst (v := 1) hx hb dz_253 (by decide) ?_
  refine lv_iadd hx hb dz_254 ?_
  refine ow_topi (y := nI (6 * n + 1)) (nI_add (6 * n) 1) ?_
  refine va_sld hx hb hX hbl hbA hM.2.2.2.2.2 (vp_in_nI (n := 6 * n + 1) (N := L) (by omega) (by omega)) dz_255 ?_
  refine ow_topi (y := x1) ((congrArg xs (nI_clamp (by omega))).trans e1) ?_
  refine lv_aload_n hx hb dz_256 rfl (lv_at hl 1 rfl) ?_
  refine lv_iload hx hb dz_257 (lv_at hl 5 rfl) ?_
  refine lv_iconst (v := 2) hx hb dz_259 (by decide) ?_
  refine lv_iadd hx hb dz_260 ?_
  refine ow_topi (y := nI (6 * n + 2)) (nI_add (6 * n) 2) ?_
  refine va_sld hx hb hX hbl hbA hM.2.2.2.2.2 (vp_in_nI (n := 6 * n + 2) (N := L) (by omega) (by omega)) dz_261 ?_
  refine ow_topi (y := x2) ((congrArg xs (nI_clamp (by omega))).trans e2) ?_
  refine lv_aload_n hx hb dz_262 rfl (lv_at hl 1 rfl) ?_
  refine lv_iload hx hb dz_263 (lv_at hl 5 rfl) ?_
  refine lv_iconst (v := 3) hx hb dz_265 (by decide) ?_
  refine lv_iadd hx hb dz_266 ?_
  refine ow_topi (y := nI (6 * n + 3)) (nI_add (6 * n) 3) ?_
  refine va_sld hx hb hX hbl hbA hM.2.2.2.2.2 (vp_in_nI (n := 6 * n + 3) (N := L) (by omega) (by omega)) dz_267 ?_
  refine ow_topi (y := x3) ((congrArg xs (nI_clamp (by omega))).trans e3) ?_
  refine lv_aload_n hx hb dz_268 rfl (lv_at hl 1 rfl) ?_
  refine lv_iload hx hb dz_269 (lv_at hl 5 rfl) ?_
  refine lv_iconst (v := 4) hx hb dz_271 (by decide) ?_
  refine lv_iadd hx hb dz_272 ?_
  refine ow_topi (y := nI (6 * n + 4)) (nI_add (6 * n) 4) ?_
  refine va_sld hx hb hX hbl hbA hM.2.2.2.2.2 (vp_in_nI (n := 6 * n + 4) (N := L) (by omega) (by omega)) dz_273 ?_
  refine ow_topi (y := x4) ((congrArg xs (nI_clamp (by omega))).trans e4) ?_
  refine lv_aload_n hx hb dz_274 rfl (lv_at hl 1 rfl) ?_
  refine lv_iload hx hb dz_275 (lv_at hl 5 rfl) ?_
  refine lv_iconst (v := 5) hx hb dz_277 (by decide) ?_
  refine lv_iadd hx hb dz_278 ?_
  refine ow_topi (y := nI (6 * n + 5)) (nI_add (6 * n) 5) ?_
  refine va_sld hx hb hX hbl hbA hM.2.2.2.2.2 (vp_in_nI (n := 6 * n + 5) (N := L) (by omega) (by omega)) dz_279 ?_
  refine ow_topi (y := x5) ((congrArg xs (nI_clamp (by omega))).trans e5) ?_
  obtain ⟨v4, zm3, hcq, hq⟩ := tw_cl1 hq
  refine lx_refi hM (va_runV (As := [.int x1, .int x2, .int x3, .int x4, .int x5]) (rest := []) ⟨hx, hb, hml, hown, hts⟩ (km_X13_feed l D q5 w hM.2.2.2.1.1 K x1 x2 x3 x4 x5 zm zm3 v4 hcq) (cwV 5 hts (lx_gV (lx_all wM_good rfl) (lx_mem hM1 (hZ _ zq_4)) (hZ _ zq_5) (hZ _ zq_6) (hZ _ zq_7) (hZ _ zq_8) rfl rfl rfl rfl) rfl rfl rfl cd_X13_feed ⟨(Nat.le_of_ble_eq_true rfl), (Nat.le_of_ble_eq_true rfl)⟩) (lx_preM hG hM) rfl rfl hl.1 rfl (lv_room (Nat.le_of_ble_eq_true rfl)) dz_280 ⟨(by show _ ≤ 601024; omega), (by show _ ≤ 7293033; omega)⟩) (fun H locs hM => ?_)
  refine lv_istore (lv' := [(6, .int v4), (5, .int v2), (0, .ref b), (1, .ref (u 0)), (2, .ref (w 0)), (3, .ref (u 52001)), (4, .int (nI (6 * n)))]) hx hb dz_283 hl (by decide) rfl (fun ls hl => ?_)
  refine lv_goto (tgt := 1682) hx hb dz_285 (by decide) ?_
  exact kk _ _ H locs ls hM (lv_sub hl [2, 3, 4, 5, 6] rfl) hq
theorem dz_288 : decode cL_law 288 = .ok (.aload_n 1, 1) := dw_at dwl_2 (p := 48) rfl (by decide +kernel)
theorem dz_289 : decode cL_law 289 = .ok (.aload_n 0, 1) := dw_at dwl_2 (p := 49) rfl (by decide +kernel)
theorem dz_290 : decode cL_law 290 = .ok (.iload 4, 2) := dw_at dwl_2 (p := 50) rfl (by decide +kernel)
theorem dz_292 : decode cL_law 292 = .ok (.iconst 1, 1) := dw_at dwl_2 (p := 52) rfl (by decide +kernel)
theorem dz_293 : decode cL_law 293 = .ok (.iadd, 1) := dw_at dwl_2 (p := 53) rfl (by decide +kernel)
theorem dz_294 : decode cL_law 294 = .ok (.iaload, 1) := dw_at dwl_2 (p := 54) rfl (by decide +kernel)
theorem dz_295 : decode cL_law 295 = .ok (.invokestatic 137, 3) := dw_at dwl_2 (p := 55) rfl (by decide +kernel)
theorem dz_298 : decode cL_law 298 = .ok (.istore 5, 2) := dw_at dwl_2 (p := 58) rfl (by decide +kernel)
theorem dz_300 : decode cL_law 300 = .ok (.aload_n 2, 1) := dw_at dwl_2 (p := 60) rfl (by decide +kernel)
theorem dz_301 : decode cL_law 301 = .ok (.aload_n 0, 1) := dw_at dwl_2 (p := 61) rfl (by decide +kernel)
theorem dz_302 : decode cL_law 302 = .ok (.iload 4, 2) := dw_at dwl_2 (p := 62) rfl (by decide +kernel)
theorem dz_304 : decode cL_law 304 = .ok (.iconst 1, 1) := dw_at dwl_2 (p := 64) rfl (by decide +kernel)
theorem dz_305 : decode cL_law 305 = .ok (.iadd, 1) := dw_at dwl_2 (p := 65) rfl (by decide +kernel)
theorem dz_306 : decode cL_law 306 = .ok (.iaload, 1) := dw_at dwl_2 (p := 66) rfl (by decide +kernel)
theorem dz_307 : decode cL_law 307 = .ok (.invokevirtual 140, 3) := dw_at dwl_2 (p := 67) rfl (by decide +kernel)
theorem dz_310 : decode cL_law 310 = .ok (.goto 1372, 3) := dw_at dwl_2 (p := 70) rfl (by decide +kernel)
def ltp_end (vl : Nat → Nat) (K : Nat) (x1 : Int32) (x2 : Int32) (x3 : Int32) (x4 : Int32) (x5 : Int32) (zc zm : ow_MS) : Option ow_LwS :=
 cs1 (le_L_end vl K 0 x1 zc) fun v2 zc1 => cs0 (qe_X13_end K x1 zm) fun zm3 => some (vl, zc1, zm3)
set_option maxHeartbeats 4000000 in
set_option maxRecDepth 100000 in
theorem lxc_end {p : Program} {l : Launch} {e : Env} {s : State} {m : MethodId} {args : Array Value} {below : List Frame} {meth : Method} {c : Code} {b L K n : Nat} {xs : Nat → Int32} {D : va_G} {q : Nat → ClassId} {q5 : ow_Q5} {vl u w sa : Nat → Nat} {zc zm : ow_MS} {S1 : ow_LwS} {Ts : List Cond} {Q : State → Prop} {H : Heap} {locs : List Loc} {ls : Array Slot} {cells slots : Nat} (hx : p.tables.exec = Jvm.exec) (hb : c.code = cL_law) (hml : c.maxLocals = 8) (hown : s.vm.findClass RL = some m.cls) (hts : ∀ w ∈ Ts, w.before args s = true) (hX : va_X b L xs s s.heap) (hbl : b < s.heap.size) (hZ : ∀ w ∈ wZ, w ∈ Ts) (hL1 : ∀ w ∈ wLL, w ∈ Ts) (hC1 : ∀ w ∈ wC, w ∈ Ts) (hM1 : ∀ w ∈ wM, w ∈ Ts) (hG : lx_G l s D q q5 sa) (hLn : L ≤ 3072) (hn : 6 * n + 6 ≤ L) (hq : ltp_end vl K (xs (6 * n + 1)) (xs (6 * n + 2)) (xs (6 * n + 3)) (xs (6 * n + 4)) (xs (6 * n + 5)) zc zm = some S1) (hM : lx_M D q q5 s vl u w zc zm H locs) (hl : lv_has ls 8 [(0, .ref b), (1, .ref (u 0)), (2, .ref (w 0)), (3, .ref (u 52001)), (4, .int (nI (6 * n)))]) (hc : cells + 1 ≤ 601024) (hs : slots + 6 ≤ 7293033) (kk : ∀ (zc1 zm1 : ow_MS) (H1 : Heap) (locs1 : List Loc) (ls1 : Array Slot), lx_M D q q5 s vl u w zc1 zm1 H1 locs1 → lv_has ls1 8 [(0, .ref b), (1, .ref (u 0)), (2, .ref (w 0)), (3, .ref (u 52001)), (4, .int (nI (6 * n)))] → some (vl, zc1, zm1) = some S1 → W p l e room_1 s m args below meth c H1 locs1 (cells + 1) (slots + 6) Q (F0 m 1682 ls1 [])) : W p l e room_1 s m args below meth c H locs cells slots Q (F0 m 288 ls []) := by
  have hbA : ¬ lx_A s b := Nat.not_le.mpr hbl
  generalize e1 : xs (6 * n + 1) = x1 at hq
  generalize e2 : xs (6 * n + 2) = x2 at hq
  generalize e3 : xs (6 * n + 3) = x3 at hq
  generalize e4 : xs (6 * n + 4) = x4 at hq
  generalize e5 : xs (6 * n + 5) = x5 at hq
  unfold ltp_end at hq
  refine lv_aload_n hx hb dz_288 rfl (lv_at hl 1 rfl) ?_
  refine lv_aload_n hx hb dz_289 rfl (lv_at hl 0 rfl) ?_
  refine lv_iload hx hb dz_290 (lv_at hl 4 rfl) ?_
  refine lv_iconst (v := 1) hx hb dz_292 (by decide) ?_
  refine lv_iadd hx hb dz_293 ?_
  refine ow_topi (y := nI (6 * n + 1)) (nI_add (6 * n) 1) ?_
  refine va_sld hx hb hX hbl hbA hM.2.2.2.2.2 (vp_in_nI (n := 6 * n + 1) (N := L) (by omega) (by omega)) dz_294 ?_
  refine ow_topi (y := x1) ((congrArg xs (nI_clamp (by omega))).trans e1) ?_
  obtain ⟨v2, zc1, hcq, hq⟩ := tw_cl1 hq
  refine lx_wrap hM (vx_runSX (As := [.ref (u 0), .int x1]) (rest := []) ⟨hx, hb, hml, hown, hts⟩ (kl_L_end l D q vl u hM.2.2.1.1 hG.1 sa K 0 x1 (by unfold cw_X11 ci_X11; exact List.mem_singleton.mpr rfl) zc zc1 v2 hcq) (vx_cwSW 2 hts (lx_gS (lx_all wLL_good rfl) (lx_mem hL1 (hZ _ zq_13)) (hZ _ zq_14) (hZ _ zq_15) (hZ _ zq_3) rfl rfl rfl) rfl rfl rfl (by decide +kernel) ⟨(Nat.le_of_ble_eq_true rfl), (Nat.le_of_ble_eq_true rfl)⟩) (lx_preL hG hM) rfl rfl hl.1 rfl (lv_room (Nat.le_of_ble_eq_true rfl)) dz_295 ⟨(by show _ ≤ 601024; omega), (by show _ ≤ 7293033; omega)⟩) (fun H locs hM => ?_)
  refine lv_istore (lv' := [(5, .int v2), (0, .ref b), (1, .ref (u 0)), (2, .ref (w 0)), (3, .ref (u 52001)), (4, .int (nI (6 * n)))]) hx hb dz_298 hl (by decide) rfl (fun ls hl => ?_)
  refine lv_aload_n hx hb dz_300 rfl (lv_at hl 3 rfl) ?_
  refine lv_aload_n hx hb dz_301 rfl (lv_at hl 1 rfl) ?_
  refine lv_iload hx hb dz_302 (lv_at hl 5 rfl) ?_
  refine lv_iconst (v := 1) hx hb dz_304 (by decide) ?_
  refine lv_iadd hx hb dz_305 ?_
  refine ow_topi (y := nI (6 * n + 1)) (nI_add (6 * n) 1) ?_
  refine va_sld hx hb hX hbl hbA hM.2.2.2.2.2 (vp_in_nI (n := 6 * n + 1) (N := L) (by omega) (by omega)) dz_306 ?_
  refine ow_topi (y := x1) ((congrArg xs (nI_clamp (by omega))).trans e1) ?_
  obtain ⟨zm3, hcq, hq⟩ := tw_cl0 hq
  refine lx_refv hM (va_runV (As := [.int x1]) (rest := []) ⟨hx, hb, hml, hown, hts⟩ (km_X13_end l D q5 w hM.2.2.2.1.1 K x1 zm zm3 hcq) (cwV 1 hts (lx_gV (lx_all wM_good rfl) (lx_mem hM1 (hZ _ zq_16)) (hZ _ zq_17) (hZ _ zq_18) (hZ _ zq_19) (hZ _ zq_8) rfl rfl rfl rfl) rfl rfl rfl cd_X13_end ⟨(Nat.le_of_ble_eq_true rfl), (Nat.le_of_ble_eq_true rfl)⟩) (lx_preM hG hM) rfl rfl hl.1 rfl (lv_room (Nat.le_of_ble_eq_true rfl)) dz_307 ⟨(by show _ ≤ 601024; omega), (by show _ ≤ 7293033; omega)⟩) (fun H locs hM => ?_)
  refine lv_goto (tgt := 1682) hx hb dz_310 (by decide) ?_
  exact kk _ _ H locs ls hM (lv_sub hl [1, 2, 3, 4, 5] rfl) hq
theorem dz_313 : decode cL_law 313 = .ok (.aload_n 1, 1) := dw_at dwl_2 (p := 73) rfl (by decide +kernel)
theorem dz_314 : decode cL_law 314 = .ok (.aload_n 3, 1) := dw_at dwl_2 (p := 74) rfl (by decide +kernel)
theorem dz_315 : decode cL_law 315 = .ok (.invokestatic 141, 3) := dw_at dwl_2 (p := 75) rfl (by decide +kernel)
theorem dz_318 : decode cL_law 318 = .ok (.istore 5, 2) := dw_at dwl_2 (p := 78) rfl (by decide +kernel)
theorem dz_320 : decode cL_law 320 = .ok (.aload_n 2, 1) := dw_at dwl_2 (p := 80) rfl (by decide +kernel)
theorem dz_321 : decode cL_law 321 = .ok (.invokevirtual 144, 3) := dw_at dwl_2 (p := 81) rfl (by decide +kernel)
theorem dz_324 : decode cL_law 324 = .ok (.istore 6, 2) := dw_at dwl_2 (p := 84) rfl (by decide +kernel)
theorem dz_326 : decode cL_law 326 = .ok (.goto 1356, 3) := dw_at dwl_2 (p := 86) rfl (by decide +kernel)
def ltp_diagram (vl : Nat → Nat) (K : Nat) (x1 : Int32) (x2 : Int32) (x3 : Int32) (x4 : Int32) (x5 : Int32) (zc zm : ow_MS) : Option ow_LwS :=
 cs1 (le_L_diagram vl K 0  zc) fun v2 zc1 => cs1 (qe_X13_diagram K zm) fun v4 zm3 => some (vl, zc1, zm3)
set_option maxHeartbeats 4000000 in
set_option maxRecDepth 100000 in
theorem lxc_diagram {p : Program} {l : Launch} {e : Env} {s : State} {m : MethodId} {args : Array Value} {below : List Frame} {meth : Method} {c : Code} {b L K n : Nat} {xs : Nat → Int32} {D : va_G} {q : Nat → ClassId} {q5 : ow_Q5} {vl u w sa : Nat → Nat} {zc zm : ow_MS} {S1 : ow_LwS} {Ts : List Cond} {Q : State → Prop} {H : Heap} {locs : List Loc} {ls : Array Slot} {cells slots : Nat} (hx : p.tables.exec = Jvm.exec) (hb : c.code = cL_law) (hml : c.maxLocals = 8) (hown : s.vm.findClass RL = some m.cls) (hts : ∀ w ∈ Ts, w.before args s = true) (hX : va_X b L xs s s.heap) (hbl : b < s.heap.size) (hZ : ∀ w ∈ wZ, w ∈ Ts) (hL1 : ∀ w ∈ wLL, w ∈ Ts) (hC1 : ∀ w ∈ wC, w ∈ Ts) (hM1 : ∀ w ∈ wM, w ∈ Ts) (hG : lx_G l s D q q5 sa) (hLn : L ≤ 3072) (hn : 6 * n + 6 ≤ L) (hq : ltp_diagram vl K (xs (6 * n + 1)) (xs (6 * n + 2)) (xs (6 * n + 3)) (xs (6 * n + 4)) (xs (6 * n + 5)) zc zm = some S1) (hM : lx_M D q q5 s vl u w zc zm H locs) (hl : lv_has ls 8 [(0, .ref b), (1, .ref (u 0)), (2, .ref (w 0)), (3, .ref (u 52001)), (4, .int (nI (6 * n)))]) (hc : cells + 1 ≤ 601024) (hs : slots + 6 ≤ 7293033) (kk : ∀ (zc1 zm1 : ow_MS) (H1 : Heap) (locs1 : List Loc) (ls1 : Array Slot), lx_M D q q5 s vl u w zc1 zm1 H1 locs1 → lv_has ls1 8 [(0, .ref b), (1, .ref (u 0)), (2, .ref (w 0)), (3, .ref (u 52001)), (4, .int (nI (6 * n)))] → some (vl, zc1, zm1) = some S1 → W p l e room_1 s m args below meth c H1 locs1 (cells + 1) (slots + 6) Q (F0 m 1682 ls1 [])) : W p l e room_1 s m args below meth c H locs cells slots Q (F0 m 313 ls []) := by
  have hbA : ¬ lx_A s b := Nat.not_le.mpr hbl
  generalize e1 : xs (6 * n + 1) = x1 at hq
  generalize e2 : xs (6 * n + 2) = x2 at hq
  generalize e3 : xs (6 * n + 3) = x3 at hq
  generalize e4 : xs (6 * n + 4) = x4 at hq
  generalize e5 : xs (6 * n + 5) = x5 at hq
  unfold ltp_diagram at hq
  refine lv_aload_n hx hb dz_313 rfl (lv_at hl 1 rfl) ?_
  refine lv_aload_n hx hb dz_314 rfl (lv_at hl 3 rfl) ?_
  obtain ⟨v2, zc1, hcq, hq⟩ := tw_cl1 hq
  refine lx_wrap hM (vx_runSX (As := [.ref (u 0), .ref (u 52001)]) (rest := []) ⟨hx, hb, hml, hown, hts⟩ (kl_L_diagram l D q vl u hM.2.2.1.1 hG.1 sa K 0  (by unfold cw_X11 ci_X11; exact List.mem_singleton.mpr rfl) zc zc1 v2 hcq) (vx_cwSW 2 hts (lx_gS (lx_all wLL_good rfl) (lx_mem hL1 (hZ _ zq_20)) (hZ _ zq_21) (hZ _ zq_22) (hZ _ zq_3) rfl rfl rfl) rfl rfl rfl (by decide +kernel) ⟨(Nat.le_of_ble_eq_true rfl), (Nat.le_of_ble_eq_true rfl)⟩) (lx_preL hG hM) rfl rfl hl.1 rfl (lv_room (Nat.le_of_ble_eq_true rfl)) dz_315 ⟨(by show _ ≤ 601024; omega), (by show _ ≤ 7293033; omega)⟩) (fun H locs hM => ?_)
  refine lv_istore (lv' := [(5, .int v2), (0, .ref b), (1, .ref (u 0)), (2, .ref (w 0)), (3, .ref (u 52001)), (4, .int (nI (6 * n)))]) hx hb dz_318 hl (by decide) rfl (fun ls hl => ?_)
  refine lv_aload_n hx hb dz_320 rfl (lv_at hl 3 rfl) ?_
  obtain ⟨v4, zm3, hcq, hq⟩ := tw_cl1 hq
  refine lx_refi hM (va_runV (As := []) (rest := []) ⟨hx, hb, hml, hown, hts⟩ (km_X13_diagram l D q5 w hM.2.2.2.1.1 K zm zm3 v4 hcq) (cwV 0 hts (lx_gV (lx_all wM_good rfl) (lx_mem hM1 (hZ _ zq_23)) (hZ _ zq_24) (hZ _ zq_25) (hZ _ zq_26) (hZ _ zq_8) rfl rfl rfl rfl) rfl rfl rfl cd_X13_diagram ⟨(Nat.le_of_ble_eq_true rfl), (Nat.le_of_ble_eq_true rfl)⟩) (lx_preM hG hM) rfl rfl hl.1 rfl (lv_room (Nat.le_of_ble_eq_true rfl)) dz_321 ⟨(by show _ ≤ 601024; omega), (by show _ ≤ 7293033; omega)⟩) (fun H locs hM => ?_)
  refine lv_istore (lv' := [(6, .int v4), (5, .int v2), (0, .ref b), (1, .ref (u 0)), (2, .ref (w 0)), (3, .ref (u 52001)), (4, .int (nI (6 * n)))]) hx hb dz_324 hl (by decide) rfl (fun ls hl => ?_)
  refine lv_goto (tgt := 1682) hx hb dz_326 (by decide) ?_
  exact kk _ _ H locs ls hM (lv_sub hl [2, 3, 4, 5, 6] rfl) hq
theorem dz_329 : decode cL_law 329 = .ok (.aload_n 1, 1) := dw_at dwl_2 (p := 89) rfl (by decide +kernel)
theorem dz_330 : decode cL_law 330 = .ok (.aload_n 0, 1) := dw_at dwl_2 (p := 90) rfl (by decide +kernel)
theorem dz_331 : decode cL_law 331 = .ok (.iload 4, 2) := dw_at dwl_2 (p := 91) rfl (by decide +kernel)
theorem dz_333 : decode cL_law 333 = .ok (.iconst 1, 1) := dw_at dwl_2 (p := 93) rfl (by decide +kernel)
theorem dz_334 : decode cL_law 334 = .ok (.iadd, 1) := dw_at dwl_2 (p := 94) rfl (by decide +kernel)
theorem dz_335 : decode cL_law 335 = .ok (.iaload, 1) := dw_at dwl_2 (p := 95) rfl (by decide +kernel)
theorem dz_336 : decode cL_law 336 = .ok (.aload_n 3, 1) := dw_at dwl_2 (p := 96) rfl (by decide +kernel)
theorem dz_337 : decode cL_law 337 = .ok (.invokestatic 145, 3) := dw_at dwl_2 (p := 97) rfl (by decide +kernel)
theorem dz_340 : decode cL_law 340 = .ok (.istore 5, 2) := dw_at dwl_2 (p := 100) rfl (by decide +kernel)
theorem dz_342 : decode cL_law 342 = .ok (.aload_n 2, 1) := dw_at dwl_2 (p := 102) rfl (by decide +kernel)
theorem dz_343 : decode cL_law 343 = .ok (.aload_n 0, 1) := dw_at dwl_2 (p := 103) rfl (by decide +kernel)
theorem dz_344 : decode cL_law 344 = .ok (.iload 4, 2) := dw_at dwl_2 (p := 104) rfl (by decide +kernel)
theorem dz_346 : decode cL_law 346 = .ok (.iconst 1, 1) := dw_at dwl_2 (p := 106) rfl (by decide +kernel)
theorem dz_347 : decode cL_law 347 = .ok (.iadd, 1) := dw_at dwl_2 (p := 107) rfl (by decide +kernel)
theorem dz_348 : decode cL_law 348 = .ok (.iaload, 1) := dw_at dwl_2 (p := 108) rfl (by decide +kernel)
theorem dz_349 : decode cL_law 349 = .ok (.invokevirtual 148, 3) := dw_at dwl_2 (p := 109) rfl (by decide +kernel)
theorem dz_352 : decode cL_law 352 = .ok (.istore 6, 2) := dw_at dwl_2 (p := 112) rfl (by decide +kernel)
theorem dz_354 : decode cL_law 354 = .ok (.goto 1328, 3) := dw_at dwl_2 (p := 114) rfl (by decide +kernel)
def ltp_braid (vl : Nat → Nat) (K : Nat) (x1 : Int32) (x2 : Int32) (x3 : Int32) (x4 : Int32) (x5 : Int32) (zc zm : ow_MS) : Option ow_LwS :=
 cs1 (le_L_braid vl K 0 x1 zc) fun v2 zc1 => cs1 (qe_X13_braid K x1 zm) fun v4 zm3 => some (vl, zc1, zm3)
set_option maxHeartbeats 4000000 in
set_option maxRecDepth 100000 in
theorem lxc_braid {p : Program} {l : Launch} {e : Env} {s : State} {m : MethodId} {args : Array Value} {below : List Frame} {meth : Method} {c : Code} {b L K n : Nat} {xs : Nat → Int32} {D : va_G} {q : Nat → ClassId} {q5 : ow_Q5} {vl u w sa : Nat → Nat} {zc zm : ow_MS} {S1 : ow_LwS} {Ts : List Cond} {Q : State → Prop} {H : Heap} {locs : List Loc} {ls : Array Slot} {cells slots : Nat} (hx : p.tables.exec = Jvm.exec) (hb : c.code = cL_law) (hml : c.maxLocals = 8) (hown : s.vm.findClass RL = some m.cls) (hts : ∀ w ∈ Ts, w.before args s = true) (hX : va_X b L xs s s.heap) (hbl : b < s.heap.size) (hZ : ∀ w ∈ wZ, w ∈ Ts) (hL1 : ∀ w ∈ wLL, w ∈ Ts) (hC1 : ∀ w ∈ wC, w ∈ Ts) (hM1 : ∀ w ∈ wM, w ∈ Ts) (hG : lx_G l s D q q5 sa) (hLn : L ≤ 3072) (hn : 6 * n + 6 ≤ L) (hq : ltp_braid vl K (xs (6 * n + 1)) (xs (6 * n + 2)) (xs (6 * n + 3)) (xs (6 * n + 4)) (xs (6 * n + 5)) zc zm = some S1) (hM : lx_M D q q5 s vl u w zc zm H locs) (hl : lv_has ls 8 [(0, .ref b), (1, .ref (u 0)), (2, .ref (w 0)), (3, .ref (u 52001)), (4, .int (nI (6 * n)))]) (hc : cells + 2 ≤ 601024) (hs : slots + 12 ≤ 7293033) (kk : ∀ (zc1 zm1 : ow_MS) (H1 : Heap) (locs1 : List Loc) (ls1 : Array Slot), lx_M D q q5 s vl u w zc1 zm1 H1 locs1 → lv_has ls1 8 [(0, .ref b), (1, .ref (u 0)), (2, .ref (w 0)), (3, .ref (u 52001)), (4, .int (nI (6 * n)))] → some (vl, zc1, zm1) = some S1 → W p l e room_1 s m args below meth c H1 locs1 (cells + 2) (slots + 12) Q (F0 m 1682 ls1 [])) : W p l e room_1 s m args below meth c H locs cells slots Q (F0 m 329 ls []) := by
  have hbA : ¬ lx_A s b := Nat.not_le.mpr hbl
  generalize e1 : xs (6 * n + 1) = x1 at hq
  generalize e2 : xs (6 * n + 2) = x2 at hq
  generalize e3 : xs (6 * n + 3) = x3 at hq
  generalize e4 : xs (6 * n + 4) = x4 at hq
  generalize e5 : xs (6 * n + 5) = x5 at hq
  unfold ltp_braid at hq
  refine lv_aload_n hx hb dz_329 rfl (lv_at hl 1 rfl) ?_
  refine lv_aload_n hx hb dz_330 rfl (lv_at hl 0 rfl) ?_
  refine lv_iload hx hb dz_331 (lv_at hl 4 rfl) ?_
  refine lv_iconst (v := 1) hx hb dz_333 (by decide) ?_
  refine lv_iadd hx hb dz_334 ?_
  refine ow_topi (y := nI (6 * n + 1)) (nI_add (6 * n) 1) ?_
  refine va_sld hx hb hX hbl hbA hM.2.2.2.2.2 (vp_in_nI (n := 6 * n + 1) (N := L) (by omega) (by omega)) dz_335 ?_
  refine ow_topi (y := x1) ((congrArg xs (nI_clamp (by omega))).trans e1) ?_
  refine lv_aload_n hx hb dz_336 rfl (lv_at hl 3 rfl) ?_
  obtain ⟨v2, zc1, hcq, hq⟩ := tw_cl1 hq
  refine lx_wrap hM (vx_runSX (As := [.ref (u 0), .int x1, .ref (u 52001)]) (rest := []) ⟨hx, hb, hml, hown, hts⟩ (kl_L_braid l D q vl u hM.2.2.1.1 hG.1 sa K 0 x1 (by unfold cw_X11 ci_X11; exact List.mem_singleton.mpr rfl) zc zc1 v2 hcq) (vx_cwSW 3 hts (lx_gS (lx_all wLL_good rfl) (lx_mem hL1 (hZ _ zq_27)) (hZ _ zq_28) (hZ _ zq_29) (hZ _ zq_3) rfl rfl rfl) rfl rfl rfl (by decide +kernel) ⟨(Nat.le_of_ble_eq_true rfl), (Nat.le_of_ble_eq_true rfl)⟩) (lx_preL hG hM) rfl rfl hl.1 rfl (lv_room (Nat.le_of_ble_eq_true rfl)) dz_337 ⟨(by show _ ≤ 601024; omega), (by show _ ≤ 7293033; omega)⟩) (fun H locs hM => ?_)
  refine lv_istore (lv' := [(5, .int v2), (0, .ref b), (1, .ref (u 0)), (2, .ref (w 0)), (3, .ref (u 52001)), (4, .int (nI (6 * n)))]) hx hb dz_340 hl (by decide) rfl (fun ls hl => ?_)
  refine lv_aload_n hx hb dz_342 rfl (lv_at hl 3 rfl) ?_
  refine lv_aload_n hx hb dz_343 rfl (lv_at hl 1 rfl) ?_
  refine lv_iload hx hb dz_344 (lv_at hl 5 rfl) ?_
  refine lv_iconst (v := 1) hx hb dz_346 (by decide) ?_
  refine lv_iadd hx hb dz_347 ?_
  refine ow_topi (y := nI (6 * n + 1)) (nI_add (6 * n) 1) ?_
  refine va_sld hx hb hX hbl hbA hM.2.2.2.2.2 (vp_in_nI (n := 6 * n + 1) (N := L) (by omega) (by omega)) dz_348 ?_
  refine ow_topi (y := x1) ((congrArg xs (nI_clamp (by omega))).trans e1) ?_
  obtain ⟨v4, zm3, hcq, hq⟩ := tw_cl1 hq
  refine lx_refi hM (va_runV (As := [.int x1]) (rest := []) ⟨hx, hb, hml, hown, hts⟩ (km_X13_braid l D q5 w hM.2.2.2.1.1 K x1 zm zm3 v4 hcq) (cwV 1 hts (lx_gV (lx_all wM_good rfl) (lx_mem hM1 (hZ _ zq_30)) (hZ _ zq_31) (hZ _ zq_32) (hZ _ zq_33) (hZ _ zq_8) rfl rfl rfl rfl) rfl rfl rfl cd_X13_braid ⟨(Nat.le_of_ble_eq_true rfl), (Nat.le_of_ble_eq_true rfl)⟩) (lx_preM hG hM) rfl rfl hl.1 rfl (lv_room (Nat.le_of_ble_eq_true rfl)) dz_349 ⟨(by show _ ≤ 601024; omega), (by show _ ≤ 7293033; omega)⟩) (fun H locs hM => ?_)
  refine lv_istore (lv' := [(6, .int v4), (5, .int v2), (0, .ref b), (1, .ref (u 0)), (2, .ref (w 0)), (3, .ref (u 52001)), (4, .int (nI (6 * n)))]) hx hb dz_352 hl (by decide) rfl (fun ls hl => ?_)
  refine lv_goto (tgt := 1682) hx hb dz_354 (by decide) ?_
  exact kk _ _ H locs ls hM (lv_sub hl [2, 3, 4, 5, 6] rfl) hq
theorem dz_357 : decode cL_law 357 = .ok (.aload_n 1, 1) := dw_at dwl_2 (p := 117) rfl (by decide +kernel)
theorem dz_358 : decode cL_law 358 = .ok (.aload_n 0, 1) := dw_at dwl_2 (p := 118) rfl (by decide +kernel)
theorem dz_359 : decode cL_law 359 = .ok (.iload 4, 2) := dw_at dwl_2 (p := 119) rfl (by decide +kernel)
theorem dz_361 : decode cL_law 361 = .ok (.iconst 1, 1) := dw_at dwl_3 (p := 1) rfl (by decide +kernel)
theorem dz_362 : decode cL_law 362 = .ok (.iadd, 1) := dw_at dwl_3 (p := 2) rfl (by decide +kernel)
theorem dz_363 : decode cL_law 363 = .ok (.iaload, 1) := dw_at dwl_3 (p := 3) rfl (by decide +kernel)
theorem dz_364 : decode cL_law 364 = .ok (.invokevirtual 149, 3) := dw_at dwl_3 (p := 4) rfl (by decide +kernel)
theorem dz_367 : decode cL_law 367 = .ok (.pop, 1) := dw_at dwl_3 (p := 7) rfl (by decide +kernel)
theorem dz_368 : decode cL_law 368 = .ok (.aload_n 2, 1) := dw_at dwl_3 (p := 8) rfl (by decide +kernel)
theorem dz_369 : decode cL_law 369 = .ok (.aload_n 0, 1) := dw_at dwl_3 (p := 9) rfl (by decide +kernel)
theorem dz_370 : decode cL_law 370 = .ok (.iload 4, 2) := dw_at dwl_3 (p := 10) rfl (by decide +kernel)
theorem dz_372 : decode cL_law 372 = .ok (.iconst 1, 1) := dw_at dwl_3 (p := 12) rfl (by decide +kernel)
theorem dz_373 : decode cL_law 373 = .ok (.iadd, 1) := dw_at dwl_3 (p := 13) rfl (by decide +kernel)
theorem dz_374 : decode cL_law 374 = .ok (.iaload, 1) := dw_at dwl_3 (p := 14) rfl (by decide +kernel)
theorem dz_375 : decode cL_law 375 = .ok (.invokevirtual 153, 3) := dw_at dwl_3 (p := 15) rfl (by decide +kernel)
theorem dz_378 : decode cL_law 378 = .ok (.pop, 1) := dw_at dwl_3 (p := 18) rfl (by decide +kernel)
theorem dz_379 : decode cL_law 379 = .ok (.goto 1303, 3) := dw_at dwl_3 (p := 19) rfl (by decide +kernel)
def ltp_drop (vl : Nat → Nat) (K : Nat) (x1 : Int32) (x2 : Int32) (x3 : Int32) (x4 : Int32) (x5 : Int32) (zc zm : ow_MS) : Option ow_LwS :=
 cs1 (ce_X11_drop vl K 0 x1 zc) fun v2 zc1 => cs1 (qe_X13_drop K x1 zm) fun v4 zm3 => some (vl, zc1, zm3)
set_option maxHeartbeats 4000000 in
set_option maxRecDepth 100000 in
theorem lxc_drop {p : Program} {l : Launch} {e : Env} {s : State} {m : MethodId} {args : Array Value} {below : List Frame} {meth : Method} {c : Code} {b L K n : Nat} {xs : Nat → Int32} {D : va_G} {q : Nat → ClassId} {q5 : ow_Q5} {vl u w sa : Nat → Nat} {zc zm : ow_MS} {S1 : ow_LwS} {Ts : List Cond} {Q : State → Prop} {H : Heap} {locs : List Loc} {ls : Array Slot} {cells slots : Nat} (hx : p.tables.exec = Jvm.exec) (hb : c.code = cL_law) (hml : c.maxLocals = 8) (hown : s.vm.findClass RL = some m.cls) (hts : ∀ w ∈ Ts, w.before args s = true) (hX : va_X b L xs s s.heap) (hbl : b < s.heap.size) (hZ : ∀ w ∈ wZ, w ∈ Ts) (hL1 : ∀ w ∈ wLL, w ∈ Ts) (hC1 : ∀ w ∈ wC, w ∈ Ts) (hM1 : ∀ w ∈ wM, w ∈ Ts) (hG : lx_G l s D q q5 sa) (hLn : L ≤ 3072) (hn : 6 * n + 6 ≤ L) (hq : ltp_drop vl K (xs (6 * n + 1)) (xs (6 * n + 2)) (xs (6 * n + 3)) (xs (6 * n + 4)) (xs (6 * n + 5)) zc zm = some S1) (hM : lx_M D q q5 s vl u w zc zm H locs) (hl : lv_has ls 8 [(0, .ref b), (1, .ref (u 0)), (2, .ref (w 0)), (3, .ref (u 52001)), (4, .int (nI (6 * n)))]) (hc : cells + 0 ≤ 601024) (hs : slots + 0 ≤ 7293033) (kk : ∀ (zc1 zm1 : ow_MS) (H1 : Heap) (locs1 : List Loc) (ls1 : Array Slot), lx_M D q q5 s vl u w zc1 zm1 H1 locs1 → lv_has ls1 8 [(0, .ref b), (1, .ref (u 0)), (2, .ref (w 0)), (3, .ref (u 52001)), (4, .int (nI (6 * n)))] → some (vl, zc1, zm1) = some S1 → W p l e room_1 s m args below meth c H1 locs1 (cells + 0) (slots + 0) Q (F0 m 1682 ls1 [])) : W p l e room_1 s m args below meth c H locs cells slots Q (F0 m 357 ls []) := by
  have hbA : ¬ lx_A s b := Nat.not_le.mpr hbl
  generalize e1 : xs (6 * n + 1) = x1 at hq
  generalize e2 : xs (6 * n + 2) = x2 at hq
  generalize e3 : xs (6 * n + 3) = x3 at hq
  generalize e4 : xs (6 * n + 4) = x4 at hq
  generalize e5 : xs (6 * n + 5) = x5 at hq
  unfold ltp_drop at hq
  refine lv_aload_n hx hb dz_357 rfl (lv_at hl 1 rfl) ?_
  refine lv_aload_n hx hb dz_358 rfl (lv_at hl 0 rfl) ?_
  refine lv_iload hx hb dz_359 (lv_at hl 4 rfl) ?_
  refine lv_iconst (v := 1) hx hb dz_361 (by decide) ?_
  refine lv_iadd hx hb dz_362 ?_
  refine ow_topi (y := nI (6 * n + 1)) (nI_add (6 * n) 1) ?_
  refine va_sld hx hb hX hbl hbA hM.2.2.2.2.2 (vp_in_nI (n := 6 * n + 1) (N := L) (by omega) (by omega)) dz_363 ?_
  refine ow_topi (y := x1) ((congrArg xs (nI_clamp (by omega))).trans e1) ?_
  obtain ⟨v2, zc1, hcq, hq⟩ := tw_cl1 hq
  refine lx_cls hM (va_runV (As := [.int x1]) (rest := []) ⟨hx, hb, hml, hown, hts⟩ (kc_X11_drop l D q vl u hM.2.2.1.1 K 0 x1 (by unfold cw_X11 ci_X11; exact List.mem_singleton.mpr rfl) zc zc1 v2 hcq) (cwV 1 hts (lx_gV (lx_all wC_good rfl) (lx_mem hC1 (hZ _ zq_34)) (hZ _ zq_35) (hZ _ zq_36) (hZ _ zq_37) (hZ _ zq_38) rfl rfl rfl rfl) rfl rfl rfl cdd_X11_drop ⟨(Nat.le_of_ble_eq_true rfl), (Nat.le_of_ble_eq_true rfl)⟩) (lx_preC hG hM) rfl rfl hl.1 rfl (lv_room (Nat.le_of_ble_eq_true rfl)) dz_364 ⟨(by show _ ≤ 601024; omega), (by show _ ≤ 7293033; omega)⟩) (fun H locs hM => ?_)
  refine lv_pop hx hb dz_367 rfl ?_
  refine lv_aload_n hx hb dz_368 rfl (lv_at hl 2 rfl) ?_
  refine lv_aload_n hx hb dz_369 rfl (lv_at hl 0 rfl) ?_
  refine lv_iload hx hb dz_370 (lv_at hl 4 rfl) ?_
  refine lv_iconst (v := 1) hx hb dz_372 (by decide) ?_
  refine lv_iadd hx hb dz_373 ?_
  refine ow_topi (y := nI (6 * n + 1)) (nI_add (6 * n) 1) ?_
  refine va_sld hx hb hX hbl hbA hM.2.2.2.2.2 (vp_in_nI (n := 6 * n + 1) (N := L) (by omega) (by omega)) dz_374 ?_
  refine ow_topi (y := x1) ((congrArg xs (nI_clamp (by omega))).trans e1) ?_
  obtain ⟨v4, zm3, hcq, hq⟩ := tw_cl1 hq
  refine lx_refi hM (va_runV (As := [.int x1]) (rest := []) ⟨hx, hb, hml, hown, hts⟩ (km_X13_drop l D q5 w hM.2.2.2.1.1 K x1 zm zm3 v4 hcq) (cwV 1 hts (lx_gV (lx_all wM_good rfl) (lx_mem hM1 (hZ _ zq_39)) (hZ _ zq_40) (hZ _ zq_41) (hZ _ zq_42) (hZ _ zq_8) rfl rfl rfl rfl) rfl rfl rfl cd_X13_drop ⟨(Nat.le_of_ble_eq_true rfl), (Nat.le_of_ble_eq_true rfl)⟩) (lx_preM hG hM) rfl rfl hl.1 rfl (lv_room (Nat.le_of_ble_eq_true rfl)) dz_375 ⟨(by show _ ≤ 601024; omega), (by show _ ≤ 7293033; omega)⟩) (fun H locs hM => ?_)
  refine lv_pop hx hb dz_378 rfl ?_
  refine lv_goto (tgt := 1682) hx hb dz_379 (by decide) ?_
  exact kk _ _ H locs ls hM (lv_sub hl [0, 1, 2, 3, 4] rfl) hq
theorem dz_382 : decode cL_law 382 = .ok (.aload_n 1, 1) := dw_at dwl_3 (p := 22) rfl (by decide +kernel)
theorem dz_383 : decode cL_law 383 = .ok (.aload_n 0, 1) := dw_at dwl_3 (p := 23) rfl (by decide +kernel)
theorem dz_384 : decode cL_law 384 = .ok (.iload 4, 2) := dw_at dwl_3 (p := 24) rfl (by decide +kernel)
theorem dz_386 : decode cL_law 386 = .ok (.iconst 1, 1) := dw_at dwl_3 (p := 26) rfl (by decide +kernel)
theorem dz_387 : decode cL_law 387 = .ok (.iadd, 1) := dw_at dwl_3 (p := 27) rfl (by decide +kernel)
theorem dz_388 : decode cL_law 388 = .ok (.iaload, 1) := dw_at dwl_3 (p := 28) rfl (by decide +kernel)
theorem dz_389 : decode cL_law 389 = .ok (.invokevirtual 154, 3) := dw_at dwl_3 (p := 29) rfl (by decide +kernel)
theorem dz_392 : decode cL_law 392 = .ok (.aload_n 2, 1) := dw_at dwl_3 (p := 32) rfl (by decide +kernel)
theorem dz_393 : decode cL_law 393 = .ok (.aload_n 0, 1) := dw_at dwl_3 (p := 33) rfl (by decide +kernel)
theorem dz_394 : decode cL_law 394 = .ok (.iload 4, 2) := dw_at dwl_3 (p := 34) rfl (by decide +kernel)
theorem dz_396 : decode cL_law 396 = .ok (.iconst 1, 1) := dw_at dwl_3 (p := 36) rfl (by decide +kernel)
theorem dz_397 : decode cL_law 397 = .ok (.iadd, 1) := dw_at dwl_3 (p := 37) rfl (by decide +kernel)
theorem dz_398 : decode cL_law 398 = .ok (.iaload, 1) := dw_at dwl_3 (p := 38) rfl (by decide +kernel)
theorem dz_399 : decode cL_law 399 = .ok (.invokevirtual 157, 3) := dw_at dwl_3 (p := 39) rfl (by decide +kernel)
theorem dz_402 : decode cL_law 402 = .ok (.if_icmp .eq 1280, 3) := dw_at dwl_3 (p := 42) rfl (by decide +kernel)
theorem dz_405 : decode cL_law 405 = .ok (.iconst 0, 1) := dw_at dwl_3 (p := 45) rfl (by decide +kernel)
def ltp_dropBraid (vl : Nat → Nat) (K : Nat) (x1 : Int32) (x2 : Int32) (x3 : Int32) (x4 : Int32) (x5 : Int32) (zc zm : ow_MS) : Option ow_LwS :=
 cs1 (ce_X11_dropBraid vl K 0 x1 zc) fun v2 zc1 => cs1 (qe_X13_dropBraid K x1 zm) fun v4 zm3 => (if v2 = v4 then some (vl, zc1, zm3)
 else none)
set_option maxHeartbeats 4000000 in
set_option maxRecDepth 100000 in
theorem lxc_dropBraid {p : Program} {l : Launch} {e : Env} {s : State} {m : MethodId} {args : Array Value} {below : List Frame} {meth : Method} {c : Code} {b L K n : Nat} {xs : Nat → Int32} {D : va_G} {q : Nat → ClassId} {q5 : ow_Q5} {vl u w sa : Nat → Nat} {zc zm : ow_MS} {S1 : ow_LwS} {Ts : List Cond} {Q : State → Prop} {H : Heap} {locs : List Loc} {ls : Array Slot} {cells slots : Nat} (hx : p.tables.exec = Jvm.exec) (hb : c.code = cL_law) (hml : c.maxLocals = 8) (hown : s.vm.findClass RL = some m.cls) (hts : ∀ w ∈ Ts, w.before args s = true) (hX : va_X b L xs s s.heap) (hbl : b < s.heap.size) (hZ : ∀ w ∈ wZ, w ∈ Ts) (hL1 : ∀ w ∈ wLL, w ∈ Ts) (hC1 : ∀ w ∈ wC, w ∈ Ts) (hM1 : ∀ w ∈ wM, w ∈ Ts) (hG : lx_G l s D q q5 sa) (hLn : L ≤ 3072) (hn : 6 * n + 6 ≤ L) (hq : ltp_dropBraid vl K (xs (6 * n + 1)) (xs (6 * n + 2)) (xs (6 * n + 3)) (xs (6 * n + 4)) (xs (6 * n + 5)) zc zm = some S1) (hM : lx_M D q q5 s vl u w zc zm H locs) (hl : lv_has ls 8 [(0, .ref b), (1, .ref (u 0)), (2, .ref (w 0)), (3, .ref (u 52001)), (4, .int (nI (6 * n)))]) (hc : cells + 0 ≤ 601024) (hs : slots + 0 ≤ 7293033) (kk : ∀ (zc1 zm1 : ow_MS) (H1 : Heap) (locs1 : List Loc) (ls1 : Array Slot), lx_M D q q5 s vl u w zc1 zm1 H1 locs1 → lv_has ls1 8 [(0, .ref b), (1, .ref (u 0)), (2, .ref (w 0)), (3, .ref (u 52001)), (4, .int (nI (6 * n)))] → some (vl, zc1, zm1) = some S1 → W p l e room_1 s m args below meth c H1 locs1 (cells + 0) (slots + 0) Q (F0 m 1682 ls1 [])) : W p l e room_1 s m args below meth c H locs cells slots Q (F0 m 382 ls []) := by
  have hbA : ¬ lx_A s b := Nat.not_le.mpr hbl
  generalize e1 : xs (6 * n + 1) = x1 at hq
  generalize e2 : xs (6 * n + 2) = x2 at hq
  generalize e3 : xs (6 * n + 3) = x3 at hq
  generalize e4 : xs (6 * n + 4) = x4 at hq
  generalize e5 : xs (6 * n + 5) = x5 at hq
  unfold ltp_dropBraid at hq
  refine lv_aload_n hx hb dz_382 rfl (lv_at hl 1 rfl) ?_
  refine lv_aload_n hx hb dz_383 rfl (lv_at hl 0 rfl) ?_
  refine lv_iload hx hb dz_384 (lv_at hl 4 rfl) ?_
  refine lv_iconst (v := 1) hx hb dz_386 (by decide) ?_
  refine lv_iadd hx hb dz_387 ?_
  refine ow_topi (y := nI (6 * n + 1)) (nI_add (6 * n) 1) ?_
  refine va_sld hx hb hX hbl hbA hM.2.2.2.2.2 (vp_in_nI (n := 6 * n + 1) (N := L) (by omega) (by omega)) dz_388 ?_
  refine ow_topi (y := x1) ((congrArg xs (nI_clamp (by omega))).trans e1) ?_
  obtain ⟨v2, zc1, hcq, hq⟩ := tw_cl1 hq
  refine lx_cls hM (va_runV (As := [.int x1]) (rest := []) ⟨hx, hb, hml, hown, hts⟩ (kc_X11_dropBraid l D q vl u hM.2.2.1.1 K 0 x1 (by unfold cw_X11 ci_X11; exact List.mem_singleton.mpr rfl) zc zc1 v2 hcq) (cwV 1 hts (lx_gV (lx_all wC_good rfl) (lx_mem hC1 (hZ _ zq_43)) (hZ _ zq_44) (hZ _ zq_45) (hZ _ zq_46) (hZ _ zq_38) rfl rfl rfl rfl) rfl rfl rfl cdd_X11_dropBraid ⟨(Nat.le_of_ble_eq_true rfl), (Nat.le_of_ble_eq_true rfl)⟩) (lx_preC hG hM) rfl rfl hl.1 rfl (lv_room (Nat.le_of_ble_eq_true rfl)) dz_389 ⟨(by show _ ≤ 601024; omega), (by show _ ≤ 7293033; omega)⟩) (fun H locs hM => ?_)
  refine lv_aload_n hx hb dz_392 rfl (lv_at hl 2 rfl) ?_
  refine lv_aload_n hx hb dz_393 rfl (lv_at hl 0 rfl) ?_
  refine lv_iload hx hb dz_394 (lv_at hl 4 rfl) ?_
  refine lv_iconst (v := 1) hx hb dz_396 (by decide) ?_
  refine lv_iadd hx hb dz_397 ?_
  refine ow_topi (y := nI (6 * n + 1)) (nI_add (6 * n) 1) ?_
  refine va_sld hx hb hX hbl hbA hM.2.2.2.2.2 (vp_in_nI (n := 6 * n + 1) (N := L) (by omega) (by omega)) dz_398 ?_
  refine ow_topi (y := x1) ((congrArg xs (nI_clamp (by omega))).trans e1) ?_
  obtain ⟨v4, zm3, hcq, hq⟩ := tw_cl1 hq
  refine lx_refi hM (va_runV (As := [.int x1]) (rest := [.int v2]) ⟨hx, hb, hml, hown, hts⟩ (km_X13_dropBraid l D q5 w hM.2.2.2.1.1 K x1 zm zm3 v4 hcq) (cwV 1 hts (lx_gV (lx_all wM_good rfl) (lx_mem hM1 (hZ _ zq_47)) (hZ _ zq_48) (hZ _ zq_49) (hZ _ zq_50) (hZ _ zq_8) rfl rfl rfl rfl) rfl rfl rfl cd_X13_dropBraid ⟨(Nat.le_of_ble_eq_true rfl), (Nat.le_of_ble_eq_true rfl)⟩) (lx_preM hG hM) rfl rfl hl.1 rfl (lv_room (Nat.le_of_ble_eq_true rfl)) dz_399 ⟨(by show _ ≤ 601024; omega), (by show _ ≤ 7293033; omega)⟩) (fun H locs hM => ?_)
  refine lv_icmp_eq (tgt := 1682) hx hb dz_402 (by decide) (fun hc9 => ?_) (fun hc9 => ?_)
  · have hq := tw_it hq hc9
    exact kk _ _ H locs ls hM (lv_sub hl [0, 1, 2, 3, 4] rfl) hq
  · have hq := tw_if hq hc9
    refine lv_iconst (v := 0) hx hb dz_405 (by decide) ?_
    exact cw_no hq
theorem dz_407 : decode cL_law 407 = .ok (.aload_n 1, 1) := dw_at dwl_3 (p := 47) rfl (by decide +kernel)
theorem dz_408 : decode cL_law 408 = .ok (.aload_n 0, 1) := dw_at dwl_3 (p := 48) rfl (by decide +kernel)
theorem dz_409 : decode cL_law 409 = .ok (.iload 4, 2) := dw_at dwl_3 (p := 49) rfl (by decide +kernel)
theorem dz_411 : decode cL_law 411 = .ok (.iconst 1, 1) := dw_at dwl_3 (p := 51) rfl (by decide +kernel)
theorem dz_412 : decode cL_law 412 = .ok (.iadd, 1) := dw_at dwl_3 (p := 52) rfl (by decide +kernel)
theorem dz_413 : decode cL_law 413 = .ok (.iaload, 1) := dw_at dwl_3 (p := 53) rfl (by decide +kernel)
theorem dz_414 : decode cL_law 414 = .ok (.aload_n 0, 1) := dw_at dwl_3 (p := 54) rfl (by decide +kernel)
theorem dz_415 : decode cL_law 415 = .ok (.iload 4, 2) := dw_at dwl_3 (p := 55) rfl (by decide +kernel)
theorem dz_417 : decode cL_law 417 = .ok (.iconst 2, 1) := dw_at dwl_3 (p := 57) rfl (by decide +kernel)
theorem dz_418 : decode cL_law 418 = .ok (.iadd, 1) := dw_at dwl_3 (p := 58) rfl (by decide +kernel)
theorem dz_419 : decode cL_law 419 = .ok (.iaload, 1) := dw_at dwl_3 (p := 59) rfl (by decide +kernel)
theorem dz_420 : decode cL_law 420 = .ok (.aload_n 3, 1) := dw_at dwl_3 (p := 60) rfl (by decide +kernel)
theorem dz_421 : decode cL_law 421 = .ok (.invokestatic 158, 3) := dw_at dwl_3 (p := 61) rfl (by decide +kernel)
theorem dz_424 : decode cL_law 424 = .ok (.istore 5, 2) := dw_at dwl_3 (p := 64) rfl (by decide +kernel)
theorem dz_426 : decode cL_law 426 = .ok (.aload_n 2, 1) := dw_at dwl_3 (p := 66) rfl (by decide +kernel)
theorem dz_427 : decode cL_law 427 = .ok (.aload_n 0, 1) := dw_at dwl_3 (p := 67) rfl (by decide +kernel)
theorem dz_428 : decode cL_law 428 = .ok (.iload 4, 2) := dw_at dwl_3 (p := 68) rfl (by decide +kernel)
theorem dz_430 : decode cL_law 430 = .ok (.iconst 1, 1) := dw_at dwl_3 (p := 70) rfl (by decide +kernel)
theorem dz_431 : decode cL_law 431 = .ok (.iadd, 1) := dw_at dwl_3 (p := 71) rfl (by decide +kernel)
theorem dz_432 : decode cL_law 432 = .ok (.iaload, 1) := dw_at dwl_3 (p := 72) rfl (by decide +kernel)
theorem dz_433 : decode cL_law 433 = .ok (.aload_n 0, 1) := dw_at dwl_3 (p := 73) rfl (by decide +kernel)
theorem dz_434 : decode cL_law 434 = .ok (.iload 4, 2) := dw_at dwl_3 (p := 74) rfl (by decide +kernel)
theorem dz_436 : decode cL_law 436 = .ok (.iconst 2, 1) := dw_at dwl_3 (p := 76) rfl (by decide +kernel)
theorem dz_437 : decode cL_law 437 = .ok (.iadd, 1) := dw_at dwl_3 (p := 77) rfl (by decide +kernel)
theorem dz_438 : decode cL_law 438 = .ok (.iaload, 1) := dw_at dwl_3 (p := 78) rfl (by decide +kernel)
theorem dz_439 : decode cL_law 439 = .ok (.invokevirtual 161, 3) := dw_at dwl_3 (p := 79) rfl (by decide +kernel)
theorem dz_442 : decode cL_law 442 = .ok (.istore 6, 2) := dw_at dwl_3 (p := 82) rfl (by decide +kernel)
theorem dz_444 : decode cL_law 444 = .ok (.goto 1238, 3) := dw_at dwl_3 (p := 84) rfl (by decide +kernel)
def ltp_figure (vl : Nat → Nat) (K : Nat) (x1 : Int32) (x2 : Int32) (x3 : Int32) (x4 : Int32) (x5 : Int32) (zc zm : ow_MS) : Option ow_LwS :=
 cs1 (le_L_figure vl K 0 x1 x2 zc) fun v2 zc1 => cs1 (qe_X13_figure K x1 x2 zm) fun v4 zm3 => some (vl, zc1, zm3)
set_option maxHeartbeats 4000000 in
set_option maxRecDepth 100000 in
theorem lxc_figure {p : Program} {l : Launch} {e : Env} {s : State} {m : MethodId} {args : Array Value} {below : List Frame} {meth : Method} {c : Code} {b L K n : Nat} {xs : Nat → Int32} {D : va_G} {q : Nat → ClassId} {q5 : ow_Q5} {vl u w sa : Nat → Nat} {zc zm : ow_MS} {S1 : ow_LwS} {Ts : List Cond} {Q : State → Prop} {H : Heap} {locs : List Loc} {ls : Array Slot} {cells slots : Nat} (hx : p.tables.exec = Jvm.exec) (hb : c.code = cL_law) (hml : c.maxLocals = 8) (hown : s.vm.findClass RL = some m.cls) (hts : ∀ w ∈ Ts, w.before args s = true) (hX : va_X b L xs s s.heap) (hbl : b < s.heap.size) (hZ : ∀ w ∈ wZ, w ∈ Ts) (hL1 : ∀ w ∈ wLL, w ∈ Ts) (hC1 : ∀ w ∈ wC, w ∈ Ts) (hM1 : ∀ w ∈ wM, w ∈ Ts) (hG : lx_G l s D q q5 sa) (hLn : L ≤ 3072) (hn : 6 * n + 6 ≤ L) (hq : ltp_figure vl K (xs (6 * n + 1)) (xs (6 * n + 2)) (xs (6 * n + 3)) (xs (6 * n + 4)) (xs (6 * n + 5)) zc zm = some S1) (hM : lx_M D q q5 s vl u w zc zm H locs) (hl : lv_has ls 8 [(0, .ref b), (1, .ref (u 0)), (2, .ref (w 0)), (3, .ref (u 52001)), (4, .int (nI (6 * n)))]) (hc : cells + 2 ≤ 601024) (hs : slots + 12 ≤ 7293033) (kk : ∀ (zc1 zm1 : ow_MS) (H1 : Heap) (locs1 : List Loc) (ls1 : Array Slot), lx_M D q q5 s vl u w zc1 zm1 H1 locs1 → lv_has ls1 8 [(0, .ref b), (1, .ref (u 0)), (2, .ref (w 0)), (3, .ref (u 52001)), (4, .int (nI (6 * n)))] → some (vl, zc1, zm1) = some S1 → W p l e room_1 s m args below meth c H1 locs1 (cells + 2) (slots + 12) Q (F0 m 1682 ls1 [])) : W p l e room_1 s m args below meth c H locs cells slots Q (F0 m 407 ls []) := by
  have hbA : ¬ lx_A s b := Nat.not_le.mpr hbl
  generalize e1 : xs (6 * n + 1) = x1 at hq
  generalize e2 : xs (6 * n + 2) = x2 at hq
  generalize e3 : xs (6 * n + 3) = x3 at hq
  generalize e4 : xs (6 * n + 4) = x4 at hq
  generalize e5 : xs (6 * n + 5) = x5 at hq
  unfold ltp_figure at hq
  refine lv_aload_n hx hb dz_407 rfl (lv_at hl 1 rfl) ?_
  refine lv_aload_n hx hb dz_408 rfl (lv_at hl 0 rfl) ?_
  refine lv_iload hx hb dz_409 (lv_at hl 4 rfl) ?_
  refine lv_iconst (v := 1) hx hb dz_411 (by decide) ?_
  refine lv_iadd hx hb dz_412 ?_
  refine ow_topi (y := nI (6 * n + 1)) (nI_add (6 * n) 1) ?_
  refine va_sld hx hb hX hbl hbA hM.2.2.2.2.2 (vp_in_nI (n := 6 * n + 1) (N := L) (by omega) (by omega)) dz_413 ?_
  refine ow_topi (y := x1) ((congrArg xs (nI_clamp (by omega))).trans e1) ?_
  refine lv_aload_n hx hb dz_414 rfl (lv_at hl 0 rfl) ?_
  refine lv_iload hx hb dz_415 (lv_at hl 4 rfl) ?_
  refine lv_iconst (v := 2) hx hb dz_417 (by decide) ?_
  refine lv_iadd hx hb dz_418 ?_
  refine ow_topi (y := nI (6 * n + 2)) (nI_add (6 * n) 2) ?_
  refine va_sld hx hb hX hbl hbA hM.2.2.2.2.2 (vp_in_nI (n := 6 * n + 2) (N := L) (by omega) (by omega)) dz_419 ?_
  refine ow_topi (y := x2) ((congrArg xs (nI_clamp (by omega))).trans e2) ?_
  refine lv_aload_n hx hb dz_420 rfl (lv_at hl 3 rfl) ?_
  obtain ⟨v2, zc1, hcq, hq⟩ := tw_cl1 hq
  refine lx_wrap hM (vx_runSX (As := [.ref (u 0), .int x1, .int x2, .ref (u 52001)]) (rest := []) ⟨hx, hb, hml, hown, hts⟩ (kl_L_figure l D q vl u hM.2.2.1.1 hG.1 sa K 0 x1 x2 (by unfold cw_X11 ci_X11; exact List.mem_singleton.mpr rfl) zc zc1 v2 hcq) (vx_cwSW 4 hts (lx_gS (lx_all wLL_good rfl) (lx_mem hL1 (hZ _ zq_51)) (hZ _ zq_52) (hZ _ zq_53) (hZ _ zq_3) rfl rfl rfl) rfl rfl rfl (by decide +kernel) ⟨(Nat.le_of_ble_eq_true rfl), (Nat.le_of_ble_eq_true rfl)⟩) (lx_preL hG hM) rfl rfl hl.1 rfl (lv_room (Nat.le_of_ble_eq_true rfl)) dz_421 ⟨(by show _ ≤ 601024; omega), (by show _ ≤ 7293033; omega)⟩) (fun H locs hM => ?_)
  refine lv_istore (lv' := [(5, .int v2), (0, .ref b), (1, .ref (u 0)), (2, .ref (w 0)), (3, .ref (u 52001)), (4, .int (nI (6 * n)))]) hx hb dz_424 hl (by decide) rfl (fun ls hl => ?_)
  refine lv_aload_n hx hb dz_426 rfl (lv_at hl 3 rfl) ?_
  refine lv_aload_n hx hb dz_427 rfl (lv_at hl 1 rfl) ?_
  refine lv_iload hx hb dz_428 (lv_at hl 5 rfl) ?_
  refine lv_iconst (v := 1) hx hb dz_430 (by decide) ?_
  refine lv_iadd hx hb dz_431 ?_
  refine ow_topi (y := nI (6 * n + 1)) (nI_add (6 * n) 1) ?_
  refine va_sld hx hb hX hbl hbA hM.2.2.2.2.2 (vp_in_nI (n := 6 * n + 1) (N := L) (by omega) (by omega)) dz_432 ?_
  refine ow_topi (y := x1) ((congrArg xs (nI_clamp (by omega))).trans e1) ?_
  refine lv_aload_n hx hb dz_433 rfl (lv_at hl 1 rfl) ?_
  refine lv_iload hx hb dz_434 (lv_at hl 5 rfl) ?_
  refine lv_iconst (v := 2) hx hb dz_436 (by decide) ?_
  refine lv_iadd hx hb dz_437 ?_
  refine ow_topi (y := nI (6 * n + 2)) (nI_add (6 * n) 2) ?_
  refine va_sld hx hb hX hbl hbA hM.2.2.2.2.2 (vp_in_nI (n := 6 * n + 2) (N := L) (by omega) (by omega)) dz_438 ?_
  refine ow_topi (y := x2) ((congrArg xs (nI_clamp (by omega))).trans e2) ?_
  obtain ⟨v4, zm3, hcq, hq⟩ := tw_cl1 hq
  refine lx_refi hM (va_runV (As := [.int x1, .int x2]) (rest := []) ⟨hx, hb, hml, hown, hts⟩ (km_X13_figure l D q5 w hM.2.2.2.1.1 K x1 x2 zm zm3 v4 hcq) (cwV 2 hts (lx_gV (lx_all wM_good rfl) (lx_mem hM1 (hZ _ zq_54)) (hZ _ zq_55) (hZ _ zq_56) (hZ _ zq_57) (hZ _ zq_8) rfl rfl rfl rfl) rfl rfl rfl cd_X13_figure ⟨(Nat.le_of_ble_eq_true rfl), (Nat.le_of_ble_eq_true rfl)⟩) (lx_preM hG hM) rfl rfl hl.1 rfl (lv_room (Nat.le_of_ble_eq_true rfl)) dz_439 ⟨(by show _ ≤ 601024; omega), (by show _ ≤ 7293033; omega)⟩) (fun H locs hM => ?_)
  refine lv_istore (lv' := [(6, .int v4), (5, .int v2), (0, .ref b), (1, .ref (u 0)), (2, .ref (w 0)), (3, .ref (u 52001)), (4, .int (nI (6 * n)))]) hx hb dz_442 hl (by decide) rfl (fun ls hl => ?_)
  refine lv_goto (tgt := 1682) hx hb dz_444 (by decide) ?_
  exact kk _ _ H locs ls hM (lv_sub hl [2, 3, 4, 5, 6] rfl) hq
theorem dz_447 : decode cL_law 447 = .ok (.aload_n 1, 1) := dw_at dwl_3 (p := 87) rfl (by decide +kernel)
theorem dz_448 : decode cL_law 448 = .ok (.aload_n 0, 1) := dw_at dwl_3 (p := 88) rfl (by decide +kernel)
theorem dz_449 : decode cL_law 449 = .ok (.iload 4, 2) := dw_at dwl_3 (p := 89) rfl (by decide +kernel)
theorem dz_451 : decode cL_law 451 = .ok (.iconst 1, 1) := dw_at dwl_3 (p := 91) rfl (by decide +kernel)
theorem dz_452 : decode cL_law 452 = .ok (.iadd, 1) := dw_at dwl_3 (p := 92) rfl (by decide +kernel)
theorem dz_453 : decode cL_law 453 = .ok (.iaload, 1) := dw_at dwl_3 (p := 93) rfl (by decide +kernel)
theorem dz_454 : decode cL_law 454 = .ok (.aload_n 0, 1) := dw_at dwl_3 (p := 94) rfl (by decide +kernel)
theorem dz_455 : decode cL_law 455 = .ok (.iload 4, 2) := dw_at dwl_3 (p := 95) rfl (by decide +kernel)
theorem dz_457 : decode cL_law 457 = .ok (.iconst 2, 1) := dw_at dwl_3 (p := 97) rfl (by decide +kernel)
theorem dz_458 : decode cL_law 458 = .ok (.iadd, 1) := dw_at dwl_3 (p := 98) rfl (by decide +kernel)
theorem dz_459 : decode cL_law 459 = .ok (.iaload, 1) := dw_at dwl_3 (p := 99) rfl (by decide +kernel)
theorem dz_460 : decode cL_law 460 = .ok (.aload_n 0, 1) := dw_at dwl_3 (p := 100) rfl (by decide +kernel)
theorem dz_461 : decode cL_law 461 = .ok (.iload 4, 2) := dw_at dwl_3 (p := 101) rfl (by decide +kernel)
theorem dz_463 : decode cL_law 463 = .ok (.iconst 3, 1) := dw_at dwl_3 (p := 103) rfl (by decide +kernel)
theorem dz_464 : decode cL_law 464 = .ok (.iadd, 1) := dw_at dwl_3 (p := 104) rfl (by decide +kernel)
theorem dz_465 : decode cL_law 465 = .ok (.iaload, 1) := dw_at dwl_3 (p := 105) rfl (by decide +kernel)
theorem dz_466 : decode cL_law 466 = .ok (.aload_n 3, 1) := dw_at dwl_3 (p := 106) rfl (by decide +kernel)
theorem dz_467 : decode cL_law 467 = .ok (.invokestatic 162, 3) := dw_at dwl_3 (p := 107) rfl (by decide +kernel)
theorem dz_470 : decode cL_law 470 = .ok (.istore 5, 2) := dw_at dwl_3 (p := 110) rfl (by decide +kernel)
theorem dz_472 : decode cL_law 472 = .ok (.aload_n 2, 1) := dw_at dwl_3 (p := 112) rfl (by decide +kernel)
theorem dz_473 : decode cL_law 473 = .ok (.aload_n 0, 1) := dw_at dwl_3 (p := 113) rfl (by decide +kernel)
theorem dz_474 : decode cL_law 474 = .ok (.iload 4, 2) := dw_at dwl_3 (p := 114) rfl (by decide +kernel)
theorem dz_476 : decode cL_law 476 = .ok (.iconst 1, 1) := dw_at dwl_3 (p := 116) rfl (by decide +kernel)
theorem dz_477 : decode cL_law 477 = .ok (.iadd, 1) := dw_at dwl_3 (p := 117) rfl (by decide +kernel)
theorem dz_478 : decode cL_law 478 = .ok (.iaload, 1) := dw_at dwl_3 (p := 118) rfl (by decide +kernel)
theorem dz_479 : decode cL_law 479 = .ok (.aload_n 0, 1) := dw_at dwl_3 (p := 119) rfl (by decide +kernel)
theorem dz_480 : decode cL_law 480 = .ok (.iload 4, 2) := dw_at dwl_4 (p := 0) rfl (by decide +kernel)
theorem dz_482 : decode cL_law 482 = .ok (.iconst 2, 1) := dw_at dwl_4 (p := 2) rfl (by decide +kernel)
theorem dz_483 : decode cL_law 483 = .ok (.iadd, 1) := dw_at dwl_4 (p := 3) rfl (by decide +kernel)
theorem dz_484 : decode cL_law 484 = .ok (.iaload, 1) := dw_at dwl_4 (p := 4) rfl (by decide +kernel)
theorem dz_485 : decode cL_law 485 = .ok (.aload_n 0, 1) := dw_at dwl_4 (p := 5) rfl (by decide +kernel)
theorem dz_486 : decode cL_law 486 = .ok (.iload 4, 2) := dw_at dwl_4 (p := 6) rfl (by decide +kernel)
theorem dz_488 : decode cL_law 488 = .ok (.iconst 3, 1) := dw_at dwl_4 (p := 8) rfl (by decide +kernel)
theorem dz_489 : decode cL_law 489 = .ok (.iadd, 1) := dw_at dwl_4 (p := 9) rfl (by decide +kernel)
theorem dz_490 : decode cL_law 490 = .ok (.iaload, 1) := dw_at dwl_4 (p := 10) rfl (by decide +kernel)
theorem dz_491 : decode cL_law 491 = .ok (.invokevirtual 165, 3) := dw_at dwl_4 (p := 11) rfl (by decide +kernel)
theorem dz_494 : decode cL_law 494 = .ok (.istore 6, 2) := dw_at dwl_4 (p := 14) rfl (by decide +kernel)
theorem dz_496 : decode cL_law 496 = .ok (.goto 1186, 3) := dw_at dwl_4 (p := 16) rfl (by decide +kernel)
def ltp_visit (vl : Nat → Nat) (K : Nat) (x1 : Int32) (x2 : Int32) (x3 : Int32) (x4 : Int32) (x5 : Int32) (zc zm : ow_MS) : Option ow_LwS :=
 cs1 (le_L_visit vl K 0 x1 x2 x3 zc) fun v2 zc1 => cs1 (qe_X13_visit K x1 x2 x3 zm) fun v4 zm3 => some (vl, zc1, zm3)
set_option maxHeartbeats 4000000 in
set_option maxRecDepth 100000 in
theorem lxc_visit {p : Program} {l : Launch} {e : Env} {s : State} {m : MethodId} {args : Array Value} {below : List Frame} {meth : Method} {c : Code} {b L K n : Nat} {xs : Nat → Int32} {D : va_G} {q : Nat → ClassId} {q5 : ow_Q5} {vl u w sa : Nat → Nat} {zc zm : ow_MS} {S1 : ow_LwS} {Ts : List Cond} {Q : State → Prop} {H : Heap} {locs : List Loc} {ls : Array Slot} {cells slots : Nat} (hx : p.tables.exec = Jvm.exec) (hb : c.code = cL_law) (hml : c.maxLocals = 8) (hown : s.vm.findClass RL = some m.cls) (hts : ∀ w ∈ Ts, w.before args s = true) (hX : va_X b L xs s s.heap) (hbl : b < s.heap.size) (hZ : ∀ w ∈ wZ, w ∈ Ts) (hL1 : ∀ w ∈ wLL, w ∈ Ts) (hC1 : ∀ w ∈ wC, w ∈ Ts) (hM1 : ∀ w ∈ wM, w ∈ Ts) (hG : lx_G l s D q q5 sa) (hLn : L ≤ 3072) (hn : 6 * n + 6 ≤ L) (hq : ltp_visit vl K (xs (6 * n + 1)) (xs (6 * n + 2)) (xs (6 * n + 3)) (xs (6 * n + 4)) (xs (6 * n + 5)) zc zm = some S1) (hM : lx_M D q q5 s vl u w zc zm H locs) (hl : lv_has ls 8 [(0, .ref b), (1, .ref (u 0)), (2, .ref (w 0)), (3, .ref (u 52001)), (4, .int (nI (6 * n)))]) (hc : cells + 2 ≤ 601024) (hs : slots + 12 ≤ 7293033) (kk : ∀ (zc1 zm1 : ow_MS) (H1 : Heap) (locs1 : List Loc) (ls1 : Array Slot), lx_M D q q5 s vl u w zc1 zm1 H1 locs1 → lv_has ls1 8 [(0, .ref b), (1, .ref (u 0)), (2, .ref (w 0)), (3, .ref (u 52001)), (4, .int (nI (6 * n)))] → some (vl, zc1, zm1) = some S1 → W p l e room_1 s m args below meth c H1 locs1 (cells + 2) (slots + 12) Q (F0 m 1682 ls1 [])) : W p l e room_1 s m args below meth c H locs cells slots Q (F0 m 447 ls []) := by
  have hbA : ¬ lx_A s b := Nat.not_le.mpr hbl
  generalize e1 : xs (6 * n + 1) = x1 at hq
  generalize e2 : xs (6 * n + 2) = x2 at hq
  generalize e3 : xs (6 * n + 3) = x3 at hq
  generalize e4 : xs (6 * n + 4) = x4 at hq
  generalize e5 : xs (6 * n + 5) = x5 at hq
  unfold ltp_visit at hq
  refine lv_aload_n hx hb dz_447 rfl (lv_at hl 1 rfl) ?_
  refine lv_aload_n hx hb dz_448 rfl (lv_at hl 0 rfl) ?_
  refine lv_iload hx hb dz_449 (lv_at hl 4 rfl) ?_
  refine lv_iconst (v := 1) hx hb dz_451 (by decide) ?_
  refine lv_iadd hx hb dz_452 ?_
  refine ow_topi (y := nI (6 * n + 1)) (nI_add (6 * n) 1) ?_
  refine va_sld hx hb hX hbl hbA hM.2.2.2.2.2 (vp_in_nI (n := 6 * n + 1) (N := L) (by omega) (by omega)) dz_453 ?_
  refine ow_topi (y := x1) ((congrArg xs (nI_clamp (by omega))).trans e1) ?_
  refine lv_aload_n hx hb dz_454 rfl (lv_at hl 0 rfl) ?_
  refine lv_iload hx hb dz_455 (lv_at hl 4 rfl) ?_
  refine lv_iconst (v := 2) hx hb dz_457 (by decide) ?_
  refine lv_iadd hx hb dz_458 ?_
  refine ow_topi (y := nI (6 * n + 2)) (nI_add (6 * n) 2) ?_
  refine va_sld hx hb hX hbl hbA hM.2.2.2.2.2 (vp_in_nI (n := 6 * n + 2) (N := L) (by omega) (by omega)) dz_459 ?_
  refine ow_topi (y := x2) ((congrArg xs (nI_clamp (by omega))).trans e2) ?_
  refine lv_aload_n hx hb dz_460 rfl (lv_at hl 0 rfl) ?_
  refine lv_iload hx hb dz_461 (lv_at hl 4 rfl) ?_
  refine lv_iconst (v := 3) hx hb dz_463 (by decide) ?_
  refine lv_iadd hx hb dz_464 ?_
  refine ow_topi (y := nI (6 * n + 3)) (nI_add (6 * n) 3) ?_
  refine va_sld hx hb hX hbl hbA hM.2.2.2.2.2 (vp_in_nI (n := 6 * n + 3) (N := L) (by omega) (by omega)) dz_465 ?_
  refine ow_topi (y := x3) ((congrArg xs (nI_clamp (by omega))).trans e3) ?_
  refine lv_aload_n hx hb dz_466 rfl (lv_at hl 3 rfl) ?_
  obtain ⟨v2, zc1, hcq, hq⟩ := tw_cl1 hq
  refine lx_wrap hM (vx_runSX (As := [.ref (u 0), .int x1, .int x2, .int x3, .ref (u 52001)]) (rest := []) ⟨hx, hb, hml, hown, hts⟩ (kl_L_visit l D q vl u hM.2.2.1.1 hG.1 sa K 0 x1 x2 x3 (by unfold cw_X11 ci_X11; exact List.mem_singleton.mpr rfl) zc zc1 v2 hcq) (vx_cwSW 5 hts (lx_gS (lx_all wLL_good rfl) (lx_mem hL1 (hZ _ zq_58)) (hZ _ zq_59) (hZ _ zq_60) (hZ _ zq_3) rfl rfl rfl) rfl rfl rfl (by decide +kernel) ⟨(Nat.le_of_ble_eq_true rfl), (Nat.le_of_ble_eq_true rfl)⟩) (lx_preL hG hM) rfl rfl hl.1 rfl (lv_room (Nat.le_of_ble_eq_true rfl)) dz_467 ⟨(by show _ ≤ 601024; omega), (by show _ ≤ 7293033; omega)⟩) (fun H locs hM => ?_)
  refine lv_istore (lv' := [(5, .int v2), (0, .ref b), (1, .ref (u 0)), (2, .ref (w 0)), (3, .ref (u 52001)), (4, .int (nI (6 * n)))]) hx hb dz_470 hl (by decide) rfl (fun ls hl => ?_)
  refine lv_aload_n hx hb dz_472 rfl (lv_at hl 3 rfl) ?_
  refine lv_aload_n hx hb dz_473 rfl (lv_at hl 1 rfl) ?_
  refine lv_iload hx hb dz_474 (lv_at hl 5 rfl) ?_
  refine lv_iconst (v := 1) hx hb dz_476 (by decide) ?_
  refine lv_iadd hx hb dz_477 ?_
  refine ow_topi (y := nI (6 * n + 1)) (nI_add (6 * n) 1) ?_
  refine va_sld hx hb hX hbl hbA hM.2.2.2.2.2 (vp_in_nI (n := 6 * n + 1) (N := L) (by omega) (by omega)) dz_478 ?_
  refine ow_topi (y := x1) ((congrArg xs (nI_clamp (by omega))).trans e1) ?_
  refine lv_aload_n hx hb dz_479 rfl (lv_at hl 1 rfl) ?_
  refine lv_iload hx hb dz_480 (lv_at hl 5 rfl) ?_
  refine lv_iconst (v := 2) hx hb dz_482 (by decide) ?_
  refine lv_iadd hx hb dz_483 ?_
  refine ow_topi (y := nI (6 * n + 2)) (nI_add (6 * n) 2) ?_
  refine va_sld hx hb hX hbl hbA hM.2.2.2.2.2 (vp_in_nI (n := 6 * n + 2) (N := L) (by omega) (by omega)) dz_484 ?_
  refine ow_topi (y := x2) ((congrArg xs (nI_clamp (by omega))).trans e2) ?_
  refine lv_aload_n hx hb dz_485 rfl (lv_at hl 1 rfl) ?_
  refine lv_iload hx hb dz_486 (lv_at hl 5 rfl) ?_
  refine lv_iconst (v := 3) hx hb dz_488 (by decide) ?_
  refine lv_iadd hx hb dz_489 ?_
  refine ow_topi (y := nI (6 * n + 3)) (nI_add (6 * n) 3) ?_
  refine va_sld hx hb hX hbl hbA hM.2.2.2.2.2 (vp_in_nI (n := 6 * n + 3) (N := L) (by omega) (by omega)) dz_490 ?_
  refine ow_topi (y := x3) ((congrArg xs (nI_clamp (by omega))).trans e3) ?_
  obtain ⟨v4, zm3, hcq, hq⟩ := tw_cl1 hq
  refine lx_refi hM (va_runV (As := [.int x1, .int x2, .int x3]) (rest := []) ⟨hx, hb, hml, hown, hts⟩ (km_X13_visit l D q5 w hM.2.2.2.1.1 K x1 x2 x3 zm zm3 v4 hcq) (cwV 3 hts (lx_gV (lx_all wM_good rfl) (lx_mem hM1 (hZ _ zq_61)) (hZ _ zq_62) (hZ _ zq_63) (hZ _ zq_64) (hZ _ zq_8) rfl rfl rfl rfl) rfl rfl rfl cd_X13_visit ⟨(Nat.le_of_ble_eq_true rfl), (Nat.le_of_ble_eq_true rfl)⟩) (lx_preM hG hM) rfl rfl hl.1 rfl (lv_room (Nat.le_of_ble_eq_true rfl)) dz_491 ⟨(by show _ ≤ 601024; omega), (by show _ ≤ 7293033; omega)⟩) (fun H locs hM => ?_)
  refine lv_istore (lv' := [(6, .int v4), (5, .int v2), (0, .ref b), (1, .ref (u 0)), (2, .ref (w 0)), (3, .ref (u 52001)), (4, .int (nI (6 * n)))]) hx hb dz_494 hl (by decide) rfl (fun ls hl => ?_)
  refine lv_goto (tgt := 1682) hx hb dz_496 (by decide) ?_
  exact kk _ _ H locs ls hM (lv_sub hl [2, 3, 4, 5, 6] rfl) hq
theorem dz_499 : decode cL_law 499 = .ok (.aload_n 1, 1) := dw_at dwl_4 (p := 19) rfl (by decide +kernel)
theorem dz_500 : decode cL_law 500 = .ok (.aload_n 0, 1) := dw_at dwl_4 (p := 20) rfl (by decide +kernel)
theorem dz_501 : decode cL_law 501 = .ok (.iload 4, 2) := dw_at dwl_4 (p := 21) rfl (by decide +kernel)
theorem dz_503 : decode cL_law 503 = .ok (.iconst 1, 1) := dw_at dwl_4 (p := 23) rfl (by decide +kernel)
theorem dz_504 : decode cL_law 504 = .ok (.iadd, 1) := dw_at dwl_4 (p := 24) rfl (by decide +kernel)
theorem dz_505 : decode cL_law 505 = .ok (.iaload, 1) := dw_at dwl_4 (p := 25) rfl (by decide +kernel)
theorem dz_506 : decode cL_law 506 = .ok (.aload_n 0, 1) := dw_at dwl_4 (p := 26) rfl (by decide +kernel)
theorem dz_507 : decode cL_law 507 = .ok (.iload 4, 2) := dw_at dwl_4 (p := 27) rfl (by decide +kernel)
theorem dz_509 : decode cL_law 509 = .ok (.iconst 2, 1) := dw_at dwl_4 (p := 29) rfl (by decide +kernel)
theorem dz_510 : decode cL_law 510 = .ok (.iadd, 1) := dw_at dwl_4 (p := 30) rfl (by decide +kernel)
theorem dz_511 : decode cL_law 511 = .ok (.iaload, 1) := dw_at dwl_4 (p := 31) rfl (by decide +kernel)
theorem dz_512 : decode cL_law 512 = .ok (.aload_n 0, 1) := dw_at dwl_4 (p := 32) rfl (by decide +kernel)
theorem dz_513 : decode cL_law 513 = .ok (.iload 4, 2) := dw_at dwl_4 (p := 33) rfl (by decide +kernel)
theorem dz_515 : decode cL_law 515 = .ok (.iconst 3, 1) := dw_at dwl_4 (p := 35) rfl (by decide +kernel)
theorem dz_516 : decode cL_law 516 = .ok (.iadd, 1) := dw_at dwl_4 (p := 36) rfl (by decide +kernel)
theorem dz_517 : decode cL_law 517 = .ok (.iaload, 1) := dw_at dwl_4 (p := 37) rfl (by decide +kernel)
theorem dz_518 : decode cL_law 518 = .ok (.aload_n 3, 1) := dw_at dwl_4 (p := 38) rfl (by decide +kernel)
theorem dz_519 : decode cL_law 519 = .ok (.invokestatic 166, 3) := dw_at dwl_4 (p := 39) rfl (by decide +kernel)
theorem dz_522 : decode cL_law 522 = .ok (.istore 5, 2) := dw_at dwl_4 (p := 42) rfl (by decide +kernel)
theorem dz_524 : decode cL_law 524 = .ok (.aload_n 2, 1) := dw_at dwl_4 (p := 44) rfl (by decide +kernel)
theorem dz_525 : decode cL_law 525 = .ok (.aload_n 0, 1) := dw_at dwl_4 (p := 45) rfl (by decide +kernel)
theorem dz_526 : decode cL_law 526 = .ok (.iload 4, 2) := dw_at dwl_4 (p := 46) rfl (by decide +kernel)
theorem dz_528 : decode cL_law 528 = .ok (.iconst 1, 1) := dw_at dwl_4 (p := 48) rfl (by decide +kernel)
theorem dz_529 : decode cL_law 529 = .ok (.iadd, 1) := dw_at dwl_4 (p := 49) rfl (by decide +kernel)
theorem dz_530 : decode cL_law 530 = .ok (.iaload, 1) := dw_at dwl_4 (p := 50) rfl (by decide +kernel)
theorem dz_531 : decode cL_law 531 = .ok (.aload_n 0, 1) := dw_at dwl_4 (p := 51) rfl (by decide +kernel)
theorem dz_532 : decode cL_law 532 = .ok (.iload 4, 2) := dw_at dwl_4 (p := 52) rfl (by decide +kernel)
theorem dz_534 : decode cL_law 534 = .ok (.iconst 2, 1) := dw_at dwl_4 (p := 54) rfl (by decide +kernel)
theorem dz_535 : decode cL_law 535 = .ok (.iadd, 1) := dw_at dwl_4 (p := 55) rfl (by decide +kernel)
theorem dz_536 : decode cL_law 536 = .ok (.iaload, 1) := dw_at dwl_4 (p := 56) rfl (by decide +kernel)
theorem dz_537 : decode cL_law 537 = .ok (.aload_n 0, 1) := dw_at dwl_4 (p := 57) rfl (by decide +kernel)
theorem dz_538 : decode cL_law 538 = .ok (.iload 4, 2) := dw_at dwl_4 (p := 58) rfl (by decide +kernel)
theorem dz_540 : decode cL_law 540 = .ok (.iconst 3, 1) := dw_at dwl_4 (p := 60) rfl (by decide +kernel)
theorem dz_541 : decode cL_law 541 = .ok (.iadd, 1) := dw_at dwl_4 (p := 61) rfl (by decide +kernel)
theorem dz_542 : decode cL_law 542 = .ok (.iaload, 1) := dw_at dwl_4 (p := 62) rfl (by decide +kernel)
theorem dz_543 : decode cL_law 543 = .ok (.invokevirtual 168, 3) := dw_at dwl_4 (p := 63) rfl (by decide +kernel)
theorem dz_546 : decode cL_law 546 = .ok (.istore 6, 2) := dw_at dwl_4 (p := 66) rfl (by decide +kernel)
theorem dz_548 : decode cL_law 548 = .ok (.goto 1134, 3) := dw_at dwl_4 (p := 68) rfl (by decide +kernel)
def ltp_linking (vl : Nat → Nat) (K : Nat) (x1 : Int32) (x2 : Int32) (x3 : Int32) (x4 : Int32) (x5 : Int32) (zc zm : ow_MS) : Option ow_LwS :=
 cs1 (le_L_linking vl K 0 x1 x2 x3 zc) fun v2 zc1 => cs1 (qe_X13_linking K x1 x2 x3 zm) fun v4 zm3 => some (vl, zc1, zm3)
set_option maxHeartbeats 4000000 in
set_option maxRecDepth 100000 in
theorem lxc_linking {p : Program} {l : Launch} {e : Env} {s : State} {m : MethodId} {args : Array Value} {below : List Frame} {meth : Method} {c : Code} {b L K n : Nat} {xs : Nat → Int32} {D : va_G} {q : Nat → ClassId} {q5 : ow_Q5} {vl u w sa : Nat → Nat} {zc zm : ow_MS} {S1 : ow_LwS} {Ts : List Cond} {Q : State → Prop} {H : Heap} {locs : List Loc} {ls : Array Slot} {cells slots : Nat} (hx : p.tables.exec = Jvm.exec) (hb : c.code = cL_law) (hml : c.maxLocals = 8) (hown : s.vm.findClass RL = some m.cls) (hts : ∀ w ∈ Ts, w.before args s = true) (hX : va_X b L xs s s.heap) (hbl : b < s.heap.size) (hZ : ∀ w ∈ wZ, w ∈ Ts) (hL1 : ∀ w ∈ wLL, w ∈ Ts) (hC1 : ∀ w ∈ wC, w ∈ Ts) (hM1 : ∀ w ∈ wM, w ∈ Ts) (hG : lx_G l s D q q5 sa) (hLn : L ≤ 3072) (hn : 6 * n + 6 ≤ L) (hq : ltp_linking vl K (xs (6 * n + 1)) (xs (6 * n + 2)) (xs (6 * n + 3)) (xs (6 * n + 4)) (xs (6 * n + 5)) zc zm = some S1) (hM : lx_M D q q5 s vl u w zc zm H locs) (hl : lv_has ls 8 [(0, .ref b), (1, .ref (u 0)), (2, .ref (w 0)), (3, .ref (u 52001)), (4, .int (nI (6 * n)))]) (hc : cells + 4 ≤ 601024) (hs : slots + 24 ≤ 7293033) (kk : ∀ (zc1 zm1 : ow_MS) (H1 : Heap) (locs1 : List Loc) (ls1 : Array Slot), lx_M D q q5 s vl u w zc1 zm1 H1 locs1 → lv_has ls1 8 [(0, .ref b), (1, .ref (u 0)), (2, .ref (w 0)), (3, .ref (u 52001)), (4, .int (nI (6 * n)))] → some (vl, zc1, zm1) = some S1 → W p l e room_1 s m args below meth c H1 locs1 (cells + 4) (slots + 24) Q (F0 m 1682 ls1 [])) : W p l e room_1 s m args below meth c H locs cells slots Q (F0 m 499 ls []) := by
  have hbA : ¬ lx_A s b := Nat.not_le.mpr hbl
  generalize e1 : xs (6 * n + 1) = x1 at hq
  generalize e2 : xs (6 * n + 2) = x2 at hq
  generalize e3 : xs (6 * n + 3) = x3 at hq
  generalize e4 : xs (6 * n + 4) = x4 at hq
  generalize e5 : xs (6 * n + 5) = x5 at hq
  unfold ltp_linking at hq
  refine lv_aload_n hx hb dz_499 rfl (lv_at hl 1 rfl) ?_
  refine lv_aload_n hx hb dz_500 rfl (lv_at hl 0 rfl) ?_
  refine lv_iload hx hb dz_501 (lv_at hl 4 rfl) ?_
  refine lv_iconst (v := 1) hx hb dz_503 (by decide) ?_
  refine lv_iadd hx hb dz_504 ?_
  refine ow_topi (y := nI (6 * n + 1)) (nI_add (6 * n) 1) ?_
  refine va_sld hx hb hX hbl hbA hM.2.2.2.2.2 (vp_in_nI (n := 6 * n + 1) (N := L) (by omega) (by omega)) dz_505 ?_
  refine ow_topi (y := x1) ((congrArg xs (nI_clamp (by omega))).trans e1) ?_
  refine lv_aload_n hx hb dz_506 rfl (lv_at hl 0 rfl) ?_
  refine lv_iload hx hb dz_507 (lv_at hl 4 rfl) ?_
  refine lv_iconst (v := 2) hx hb dz_509 (by decide) ?_
  refine lv_iadd hx hb dz_510 ?_
  refine ow_topi (y := nI (6 * n + 2)) (nI_add (6 * n) 2) ?_
  refine va_sld hx hb hX hbl hbA hM.2.2.2.2.2 (vp_in_nI (n := 6 * n + 2) (N := L) (by omega) (by omega)) dz_511 ?_
  refine ow_topi (y := x2) ((congrArg xs (nI_clamp (by omega))).trans e2) ?_
  refine lv_aload_n hx hb dz_512 rfl (lv_at hl 0 rfl) ?_
  refine lv_iload hx hb dz_513 (lv_at hl 4 rfl) ?_
  refine lv_iconst (v := 3) hx hb dz_515 (by decide) ?_
  refine lv_iadd hx hb dz_516 ?_
  refine ow_topi (y := nI (6 * n + 3)) (nI_add (6 * n) 3) ?_
  refine va_sld hx hb hX hbl hbA hM.2.2.2.2.2 (vp_in_nI (n := 6 * n + 3) (N := L) (by omega) (by omega)) dz_517 ?_
  refine ow_topi (y := x3) ((congrArg xs (nI_clamp (by omega))).trans e3) ?_
  refine lv_aload_n hx hb dz_518 rfl (lv_at hl 3 rfl) ?_
  obtain ⟨v2, zc1, hcq, hq⟩ := tw_cl1 hq
  refine lx_wrap hM (vx_runSX (As := [.ref (u 0), .int x1, .int x2, .int x3, .ref (u 52001)]) (rest := []) ⟨hx, hb, hml, hown, hts⟩ (kl_L_linking l D q vl u hM.2.2.1.1 hG.1 sa K 0 x1 x2 x3 (by unfold cw_X11 ci_X11; exact List.mem_singleton.mpr rfl) zc zc1 v2 hcq) (vx_cwSW 5 hts (lx_gS (lx_all wLL_good rfl) (lx_mem hL1 (hZ _ zq_65)) (hZ _ zq_66) (hZ _ zq_67) (hZ _ zq_3) rfl rfl rfl) rfl rfl rfl (by decide +kernel) ⟨(Nat.le_of_ble_eq_true rfl), (Nat.le_of_ble_eq_true rfl)⟩) (lx_preL hG hM) rfl rfl hl.1 rfl (lv_room (Nat.le_of_ble_eq_true rfl)) dz_519 ⟨(by show _ ≤ 601024; omega), (by show _ ≤ 7293033; omega)⟩) (fun H locs hM => ?_)
  refine lv_istore (lv' := [(5, .int v2), (0, .ref b), (1, .ref (u 0)), (2, .ref (w 0)), (3, .ref (u 52001)), (4, .int (nI (6 * n)))]) hx hb dz_522 hl (by decide) rfl (fun ls hl => ?_)
  refine lv_aload_n hx hb dz_524 rfl (lv_at hl 3 rfl) ?_
  refine lv_aload_n hx hb dz_525 rfl (lv_at hl 1 rfl) ?_
  refine lv_iload hx hb dz_526 (lv_at hl 5 rfl) ?_
  refine lv_iconst (v := 1) hx hb dz_528 (by decide) ?_
  refine lv_iadd hx hb dz_529 ?_
  refine ow_topi (y := nI (6 * n + 1)) (nI_add (6 * n) 1) ?_
  refine va_sld hx hb hX hbl hbA hM.2.2.2.2.2 (vp_in_nI (n := 6 * n + 1) (N := L) (by omega) (by omega)) dz_530 ?_
  refine ow_topi (y := x1) ((congrArg xs (nI_clamp (by omega))).trans e1) ?_
  refine lv_aload_n hx hb dz_531 rfl (lv_at hl 1 rfl) ?_
  refine lv_iload hx hb dz_532 (lv_at hl 5 rfl) ?_
  refine lv_iconst (v := 2) hx hb dz_534 (by decide) ?_
  refine lv_iadd hx hb dz_535 ?_
  refine ow_topi (y := nI (6 * n + 2)) (nI_add (6 * n) 2) ?_
  refine va_sld hx hb hX hbl hbA hM.2.2.2.2.2 (vp_in_nI (n := 6 * n + 2) (N := L) (by omega) (by omega)) dz_536 ?_
  refine ow_topi (y := x2) ((congrArg xs (nI_clamp (by omega))).trans e2) ?_
  refine lv_aload_n hx hb dz_537 rfl (lv_at hl 1 rfl) ?_
  refine lv_iload hx hb dz_538 (lv_at hl 5 rfl) ?_
  refine lv_iconst (v := 3) hx hb dz_540 (by decide) ?_
  refine lv_iadd hx hb dz_541 ?_
  refine ow_topi (y := nI (6 * n + 3)) (nI_add (6 * n) 3) ?_
  refine va_sld hx hb hX hbl hbA hM.2.2.2.2.2 (vp_in_nI (n := 6 * n + 3) (N := L) (by omega) (by omega)) dz_542 ?_
  refine ow_topi (y := x3) ((congrArg xs (nI_clamp (by omega))).trans e3) ?_
  obtain ⟨v4, zm3, hcq, hq⟩ := tw_cl1 hq
  refine lx_refi hM (va_runV (As := [.int x1, .int x2, .int x3]) (rest := []) ⟨hx, hb, hml, hown, hts⟩ (km_X13_linking l D q5 w hM.2.2.2.1.1 K x1 x2 x3 zm zm3 v4 hcq) (cwV 3 hts (lx_gV (lx_all wM_good rfl) (lx_mem hM1 (hZ _ zq_68)) (hZ _ zq_69) (hZ _ zq_70) (hZ _ zq_71) (hZ _ zq_8) rfl rfl rfl rfl) rfl rfl rfl cd_X13_linking ⟨(Nat.le_of_ble_eq_true rfl), (Nat.le_of_ble_eq_true rfl)⟩) (lx_preM hG hM) rfl rfl hl.1 rfl (lv_room (Nat.le_of_ble_eq_true rfl)) dz_543 ⟨(by show _ ≤ 601024; omega), (by show _ ≤ 7293033; omega)⟩) (fun H locs hM => ?_)
  refine lv_istore (lv' := [(6, .int v4), (5, .int v2), (0, .ref b), (1, .ref (u 0)), (2, .ref (w 0)), (3, .ref (u 52001)), (4, .int (nI (6 * n)))]) hx hb dz_546 hl (by decide) rfl (fun ls hl => ?_)
  refine lv_goto (tgt := 1682) hx hb dz_548 (by decide) ?_
  exact kk _ _ H locs ls hM (lv_sub hl [2, 3, 4, 5, 6] rfl) hq
theorem dz_551 : decode cL_law 551 = .ok (.aload_n 1, 1) := dw_at dwl_4 (p := 71) rfl (by decide +kernel)
theorem dz_552 : decode cL_law 552 = .ok (.aload_n 0, 1) := dw_at dwl_4 (p := 72) rfl (by decide +kernel)
theorem dz_553 : decode cL_law 553 = .ok (.iload 4, 2) := dw_at dwl_4 (p := 73) rfl (by decide +kernel)
theorem dz_555 : decode cL_law 555 = .ok (.iconst 1, 1) := dw_at dwl_4 (p := 75) rfl (by decide +kernel)
theorem dz_556 : decode cL_law 556 = .ok (.iadd, 1) := dw_at dwl_4 (p := 76) rfl (by decide +kernel)
theorem dz_557 : decode cL_law 557 = .ok (.iaload, 1) := dw_at dwl_4 (p := 77) rfl (by decide +kernel)
theorem dz_558 : decode cL_law 558 = .ok (.aload_n 0, 1) := dw_at dwl_4 (p := 78) rfl (by decide +kernel)
theorem dz_559 : decode cL_law 559 = .ok (.iload 4, 2) := dw_at dwl_4 (p := 79) rfl (by decide +kernel)
theorem dz_561 : decode cL_law 561 = .ok (.iconst 2, 1) := dw_at dwl_4 (p := 81) rfl (by decide +kernel)
theorem dz_562 : decode cL_law 562 = .ok (.iadd, 1) := dw_at dwl_4 (p := 82) rfl (by decide +kernel)
theorem dz_563 : decode cL_law 563 = .ok (.iaload, 1) := dw_at dwl_4 (p := 83) rfl (by decide +kernel)
theorem dz_564 : decode cL_law 564 = .ok (.invokevirtual 169, 3) := dw_at dwl_4 (p := 84) rfl (by decide +kernel)
theorem dz_567 : decode cL_law 567 = .ok (.pop, 1) := dw_at dwl_4 (p := 87) rfl (by decide +kernel)
theorem dz_568 : decode cL_law 568 = .ok (.aload_n 2, 1) := dw_at dwl_4 (p := 88) rfl (by decide +kernel)
theorem dz_569 : decode cL_law 569 = .ok (.aload_n 0, 1) := dw_at dwl_4 (p := 89) rfl (by decide +kernel)
theorem dz_570 : decode cL_law 570 = .ok (.iload 4, 2) := dw_at dwl_4 (p := 90) rfl (by decide +kernel)
theorem dz_572 : decode cL_law 572 = .ok (.iconst 1, 1) := dw_at dwl_4 (p := 92) rfl (by decide +kernel)
theorem dz_573 : decode cL_law 573 = .ok (.iadd, 1) := dw_at dwl_4 (p := 93) rfl (by decide +kernel)
theorem dz_574 : decode cL_law 574 = .ok (.iaload, 1) := dw_at dwl_4 (p := 94) rfl (by decide +kernel)
theorem dz_575 : decode cL_law 575 = .ok (.aload_n 0, 1) := dw_at dwl_4 (p := 95) rfl (by decide +kernel)
theorem dz_576 : decode cL_law 576 = .ok (.iload 4, 2) := dw_at dwl_4 (p := 96) rfl (by decide +kernel)
theorem dz_578 : decode cL_law 578 = .ok (.iconst 2, 1) := dw_at dwl_4 (p := 98) rfl (by decide +kernel)
theorem dz_579 : decode cL_law 579 = .ok (.iadd, 1) := dw_at dwl_4 (p := 99) rfl (by decide +kernel)
theorem dz_580 : decode cL_law 580 = .ok (.iaload, 1) := dw_at dwl_4 (p := 100) rfl (by decide +kernel)
theorem dz_581 : decode cL_law 581 = .ok (.invokevirtual 173, 3) := dw_at dwl_4 (p := 101) rfl (by decide +kernel)
theorem dz_584 : decode cL_law 584 = .ok (.pop, 1) := dw_at dwl_4 (p := 104) rfl (by decide +kernel)
theorem dz_585 : decode cL_law 585 = .ok (.goto 1097, 3) := dw_at dwl_4 (p := 105) rfl (by decide +kernel)
def ltp_alike (vl : Nat → Nat) (K : Nat) (x1 : Int32) (x2 : Int32) (x3 : Int32) (x4 : Int32) (x5 : Int32) (zc zm : ow_MS) : Option ow_LwS :=
 cs1 (ce_X11_alike vl K 0 x1 x2 zc) fun v2 zc1 => cs1 (qe_X13_alike K x1 x2 zm) fun v4 zm3 => some (vl, zc1, zm3)
set_option maxHeartbeats 4000000 in
set_option maxRecDepth 100000 in
theorem lxc_alike {p : Program} {l : Launch} {e : Env} {s : State} {m : MethodId} {args : Array Value} {below : List Frame} {meth : Method} {c : Code} {b L K n : Nat} {xs : Nat → Int32} {D : va_G} {q : Nat → ClassId} {q5 : ow_Q5} {vl u w sa : Nat → Nat} {zc zm : ow_MS} {S1 : ow_LwS} {Ts : List Cond} {Q : State → Prop} {H : Heap} {locs : List Loc} {ls : Array Slot} {cells slots : Nat} (hx : p.tables.exec = Jvm.exec) (hb : c.code = cL_law) (hml : c.maxLocals = 8) (hown : s.vm.findClass RL = some m.cls) (hts : ∀ w ∈ Ts, w.before args s = true) (hX : va_X b L xs s s.heap) (hbl : b < s.heap.size) (hZ : ∀ w ∈ wZ, w ∈ Ts) (hL1 : ∀ w ∈ wLL, w ∈ Ts) (hC1 : ∀ w ∈ wC, w ∈ Ts) (hM1 : ∀ w ∈ wM, w ∈ Ts) (hG : lx_G l s D q q5 sa) (hLn : L ≤ 3072) (hn : 6 * n + 6 ≤ L) (hq : ltp_alike vl K (xs (6 * n + 1)) (xs (6 * n + 2)) (xs (6 * n + 3)) (xs (6 * n + 4)) (xs (6 * n + 5)) zc zm = some S1) (hM : lx_M D q q5 s vl u w zc zm H locs) (hl : lv_has ls 8 [(0, .ref b), (1, .ref (u 0)), (2, .ref (w 0)), (3, .ref (u 52001)), (4, .int (nI (6 * n)))]) (hc : cells + 0 ≤ 601024) (hs : slots + 0 ≤ 7293033) (kk : ∀ (zc1 zm1 : ow_MS) (H1 : Heap) (locs1 : List Loc) (ls1 : Array Slot), lx_M D q q5 s vl u w zc1 zm1 H1 locs1 → lv_has ls1 8 [(0, .ref b), (1, .ref (u 0)), (2, .ref (w 0)), (3, .ref (u 52001)), (4, .int (nI (6 * n)))] → some (vl, zc1, zm1) = some S1 → W p l e room_1 s m args below meth c H1 locs1 (cells + 0) (slots + 0) Q (F0 m 1682 ls1 [])) : W p l e room_1 s m args below meth c H locs cells slots Q (F0 m 551 ls []) := by
  have hbA : ¬ lx_A s b := Nat.not_le.mpr hbl
  generalize e1 : xs (6 * n + 1) = x1 at hq
  generalize e2 : xs (6 * n + 2) = x2 at hq
  generalize e3 : xs (6 * n + 3) = x3 at hq
  generalize e4 : xs (6 * n + 4) = x4 at hq
  generalize e5 : xs (6 * n + 5) = x5 at hq
  unfold ltp_alike at hq
  refine lv_aload_n hx hb dz_551 rfl (lv_at hl 1 rfl) ?_
  refine lv_aload_n hx hb dz_552 rfl (lv_at hl 0 rfl) ?_
  refine lv_iload hx hb dz_553 (lv_at hl 4 rfl) ?_
  refine lv_iconst (v := 1) hx hb dz_555 (by decide) ?_
  refine lv_iadd hx hb dz_556 ?_
  refine ow_topi (y := nI (6 * n + 1)) (nI_add (6 * n) 1) ?_
  refine va_sld hx hb hX hbl hbA hM.2.2.2.2.2 (vp_in_nI (n := 6 * n + 1) (N := L) (by omega) (by omega)) dz_557 ?_
  refine ow_topi (y := x1) ((congrArg xs (nI_clamp (by omega))).trans e1) ?_
  refine lv_aload_n hx hb dz_558 rfl (lv_at hl 0 rfl) ?_
  refine lv_iload hx hb dz_559 (lv_at hl 4 rfl) ?_
  refine lv_iconst (v := 2) hx hb dz_561 (by decide) ?_
  refine lv_iadd hx hb dz_562 ?_
  refine ow_topi (y := nI (6 * n + 2)) (nI_add (6 * n) 2) ?_
  refine va_sld hx hb hX hbl hbA hM.2.2.2.2.2 (vp_in_nI (n := 6 * n + 2) (N := L) (by omega) (by omega)) dz_563 ?_
  refine ow_topi (y := x2) ((congrArg xs (nI_clamp (by omega))).trans e2) ?_
  obtain ⟨v2, zc1, hcq, hq⟩ := tw_cl1 hq
  refine lx_cls hM (va_runV (As := [.int x1, .int x2]) (rest := []) ⟨hx, hb, hml, hown, hts⟩ (kc_X11_alike l D q vl u hM.2.2.1.1 K 0 x1 x2 (by unfold cw_X11 ci_X11; exact List.mem_singleton.mpr rfl) zc zc1 v2 hcq) (cwV 2 hts (lx_gV (lx_all wC_good rfl) (lx_mem hC1 (hZ _ zq_72)) (hZ _ zq_73) (hZ _ zq_74) (hZ _ zq_75) (hZ _ zq_38) rfl rfl rfl rfl) rfl rfl rfl cdd_X11_alike ⟨(Nat.le_of_ble_eq_true rfl), (Nat.le_of_ble_eq_true rfl)⟩) (lx_preC hG hM) rfl rfl hl.1 rfl (lv_room (Nat.le_of_ble_eq_true rfl)) dz_564 ⟨(by show _ ≤ 601024; omega), (by show _ ≤ 7293033; omega)⟩) (fun H locs hM => ?_)
  refine lv_pop hx hb dz_567 rfl ?_
  refine lv_aload_n hx hb dz_568 rfl (lv_at hl 2 rfl) ?_
  refine lv_aload_n hx hb dz_569 rfl (lv_at hl 0 rfl) ?_
  refine lv_iload hx hb dz_570 (lv_at hl 4 rfl) ?_
  refine lv_iconst (v := 1) hx hb dz_572 (by decide) ?_
  refine lv_iadd hx hb dz_573 ?_
  refine ow_topi (y := nI (6 * n + 1)) (nI_add (6 * n) 1) ?_
  refine va_sld hx hb hX hbl hbA hM.2.2.2.2.2 (vp_in_nI (n := 6 * n + 1) (N := L) (by omega) (by omega)) dz_574 ?_
  refine ow_topi (y := x1) ((congrArg xs (nI_clamp (by omega))).trans e1) ?_
  refine lv_aload_n hx hb dz_575 rfl (lv_at hl 0 rfl) ?_
  refine lv_iload hx hb dz_576 (lv_at hl 4 rfl) ?_
  refine lv_iconst (v := 2) hx hb dz_578 (by decide) ?_
  refine lv_iadd hx hb dz_579 ?_
  refine ow_topi (y := nI (6 * n + 2)) (nI_add (6 * n) 2) ?_
  refine va_sld hx hb hX hbl hbA hM.2.2.2.2.2 (vp_in_nI (n := 6 * n + 2) (N := L) (by omega) (by omega)) dz_580 ?_
  refine ow_topi (y := x2) ((congrArg xs (nI_clamp (by omega))).trans e2) ?_
  obtain ⟨v4, zm3, hcq, hq⟩ := tw_cl1 hq
  refine lx_refi hM (va_runV (As := [.int x1, .int x2]) (rest := []) ⟨hx, hb, hml, hown, hts⟩ (km_X13_alike l D q5 w hM.2.2.2.1.1 K x1 x2 zm zm3 v4 hcq) (cwV 2 hts (lx_gV (lx_all wM_good rfl) (lx_mem hM1 (hZ _ zq_76)) (hZ _ zq_77) (hZ _ zq_78) (hZ _ zq_79) (hZ _ zq_8) rfl rfl rfl rfl) rfl rfl rfl cd_X13_alike ⟨(Nat.le_of_ble_eq_true rfl), (Nat.le_of_ble_eq_true rfl)⟩) (lx_preM hG hM) rfl rfl hl.1 rfl (lv_room (Nat.le_of_ble_eq_true rfl)) dz_581 ⟨(by show _ ≤ 601024; omega), (by show _ ≤ 7293033; omega)⟩) (fun H locs hM => ?_)
  refine lv_pop hx hb dz_584 rfl ?_
  refine lv_goto (tgt := 1682) hx hb dz_585 (by decide) ?_
  exact kk _ _ H locs ls hM (lv_sub hl [0, 1, 2, 3, 4] rfl) hq
theorem dz_588 : decode cL_law 588 = .ok (.aload_n 1, 1) := dw_at dwl_4 (p := 108) rfl (by decide +kernel)
theorem dz_589 : decode cL_law 589 = .ok (.aload_n 0, 1) := dw_at dwl_4 (p := 109) rfl (by decide +kernel)
theorem dz_590 : decode cL_law 590 = .ok (.iload 4, 2) := dw_at dwl_4 (p := 110) rfl (by decide +kernel)
theorem dz_592 : decode cL_law 592 = .ok (.iconst 1, 1) := dw_at dwl_4 (p := 112) rfl (by decide +kernel)
theorem dz_593 : decode cL_law 593 = .ok (.iadd, 1) := dw_at dwl_4 (p := 113) rfl (by decide +kernel)
theorem dz_594 : decode cL_law 594 = .ok (.iaload, 1) := dw_at dwl_4 (p := 114) rfl (by decide +kernel)
theorem dz_595 : decode cL_law 595 = .ok (.aload_n 3, 1) := dw_at dwl_4 (p := 115) rfl (by decide +kernel)
theorem dz_596 : decode cL_law 596 = .ok (.invokestatic 174, 3) := dw_at dwl_4 (p := 116) rfl (by decide +kernel)
theorem dz_599 : decode cL_law 599 = .ok (.istore 5, 2) := dw_at dwl_4 (p := 119) rfl (by decide +kernel)
theorem dz_601 : decode cL_law 601 = .ok (.aload_n 2, 1) := dw_at dwl_5 (p := 1) rfl (by decide +kernel)
theorem dz_602 : decode cL_law 602 = .ok (.aload_n 0, 1) := dw_at dwl_5 (p := 2) rfl (by decide +kernel)
theorem dz_603 : decode cL_law 603 = .ok (.iload 4, 2) := dw_at dwl_5 (p := 3) rfl (by decide +kernel)
theorem dz_605 : decode cL_law 605 = .ok (.iconst 1, 1) := dw_at dwl_5 (p := 5) rfl (by decide +kernel)
theorem dz_606 : decode cL_law 606 = .ok (.iadd, 1) := dw_at dwl_5 (p := 6) rfl (by decide +kernel)
theorem dz_607 : decode cL_law 607 = .ok (.iaload, 1) := dw_at dwl_5 (p := 7) rfl (by decide +kernel)
theorem dz_608 : decode cL_law 608 = .ok (.invokevirtual 176, 3) := dw_at dwl_5 (p := 8) rfl (by decide +kernel)
theorem dz_611 : decode cL_law 611 = .ok (.istore 6, 2) := dw_at dwl_5 (p := 11) rfl (by decide +kernel)
theorem dz_613 : decode cL_law 613 = .ok (.goto 1069, 3) := dw_at dwl_5 (p := 13) rfl (by decide +kernel)
def ltp_mirror (vl : Nat → Nat) (K : Nat) (x1 : Int32) (x2 : Int32) (x3 : Int32) (x4 : Int32) (x5 : Int32) (zc zm : ow_MS) : Option ow_LwS :=
 cs1 (le_L_mirror vl K 0 x1 zc) fun v2 zc1 => cs1 (qe_X13_mirror K x1 zm) fun v4 zm3 => some (vl, zc1, zm3)
set_option maxHeartbeats 4000000 in
set_option maxRecDepth 100000 in
theorem lxc_mirror {p : Program} {l : Launch} {e : Env} {s : State} {m : MethodId} {args : Array Value} {below : List Frame} {meth : Method} {c : Code} {b L K n : Nat} {xs : Nat → Int32} {D : va_G} {q : Nat → ClassId} {q5 : ow_Q5} {vl u w sa : Nat → Nat} {zc zm : ow_MS} {S1 : ow_LwS} {Ts : List Cond} {Q : State → Prop} {H : Heap} {locs : List Loc} {ls : Array Slot} {cells slots : Nat} (hx : p.tables.exec = Jvm.exec) (hb : c.code = cL_law) (hml : c.maxLocals = 8) (hown : s.vm.findClass RL = some m.cls) (hts : ∀ w ∈ Ts, w.before args s = true) (hX : va_X b L xs s s.heap) (hbl : b < s.heap.size) (hZ : ∀ w ∈ wZ, w ∈ Ts) (hL1 : ∀ w ∈ wLL, w ∈ Ts) (hC1 : ∀ w ∈ wC, w ∈ Ts) (hM1 : ∀ w ∈ wM, w ∈ Ts) (hG : lx_G l s D q q5 sa) (hLn : L ≤ 3072) (hn : 6 * n + 6 ≤ L) (hq : ltp_mirror vl K (xs (6 * n + 1)) (xs (6 * n + 2)) (xs (6 * n + 3)) (xs (6 * n + 4)) (xs (6 * n + 5)) zc zm = some S1) (hM : lx_M D q q5 s vl u w zc zm H locs) (hl : lv_has ls 8 [(0, .ref b), (1, .ref (u 0)), (2, .ref (w 0)), (3, .ref (u 52001)), (4, .int (nI (6 * n)))]) (hc : cells + 2 ≤ 601024) (hs : slots + 12 ≤ 7293033) (kk : ∀ (zc1 zm1 : ow_MS) (H1 : Heap) (locs1 : List Loc) (ls1 : Array Slot), lx_M D q q5 s vl u w zc1 zm1 H1 locs1 → lv_has ls1 8 [(0, .ref b), (1, .ref (u 0)), (2, .ref (w 0)), (3, .ref (u 52001)), (4, .int (nI (6 * n)))] → some (vl, zc1, zm1) = some S1 → W p l e room_1 s m args below meth c H1 locs1 (cells + 2) (slots + 12) Q (F0 m 1682 ls1 [])) : W p l e room_1 s m args below meth c H locs cells slots Q (F0 m 588 ls []) := by
  have hbA : ¬ lx_A s b := Nat.not_le.mpr hbl
  generalize e1 : xs (6 * n + 1) = x1 at hq
  generalize e2 : xs (6 * n + 2) = x2 at hq
  generalize e3 : xs (6 * n + 3) = x3 at hq
  generalize e4 : xs (6 * n + 4) = x4 at hq
  generalize e5 : xs (6 * n + 5) = x5 at hq
  unfold ltp_mirror at hq
  refine lv_aload_n hx hb dz_588 rfl (lv_at hl 1 rfl) ?_
  refine lv_aload_n hx hb dz_589 rfl (lv_at hl 0 rfl) ?_
  refine lv_iload hx hb dz_590 (lv_at hl 4 rfl) ?_
  refine lv_iconst (v := 1) hx hb dz_592 (by decide) ?_
  refine lv_iadd hx hb dz_593 ?_
  refine ow_topi (y := nI (6 * n + 1)) (nI_add (6 * n) 1) ?_
  refine va_sld hx hb hX hbl hbA hM.2.2.2.2.2 (vp_in_nI (n := 6 * n + 1) (N := L) (by omega) (by omega)) dz_594 ?_
  refine ow_topi (y := x1) ((congrArg xs (nI_clamp (by omega))).trans e1) ?_
  refine lv_aload_n hx hb dz_595 rfl (lv_at hl 3 rfl) ?_
  obtain ⟨v2, zc1, hcq, hq⟩ := tw_cl1 hq
  refine lx_wrap hM (vx_runSX (As := [.ref (u 0), .int x1, .ref (u 52001)]) (rest := []) ⟨hx, hb, hml, hown, hts⟩ (kl_L_mirror l D q vl u hM.2.2.1.1 hG.1 sa K 0 x1 (by unfold cw_X11 ci_X11; exact List.mem_singleton.mpr rfl) zc zc1 v2 hcq) (vx_cwSW 3 hts (lx_gS (lx_all wLL_good rfl) (lx_mem hL1 (hZ _ zq_80)) (hZ _ zq_81) (hZ _ zq_82) (hZ _ zq_3) rfl rfl rfl) rfl rfl rfl (by decide +kernel) ⟨(Nat.le_of_ble_eq_true rfl), (Nat.le_of_ble_eq_true rfl)⟩) (lx_preL hG hM) rfl rfl hl.1 rfl (lv_room (Nat.le_of_ble_eq_true rfl)) dz_596 ⟨(by show _ ≤ 601024; omega), (by show _ ≤ 7293033; omega)⟩) (fun H locs hM => ?_)
  refine lv_istore (lv' := [(5, .int v2), (0, .ref b), (1, .ref (u 0)), (2, .ref (w 0)), (3, .ref (u 52001)), (4, .int (nI (6 * n)))]) hx hb dz_599 hl (by decide) rfl (fun ls hl => ?_)
  refine lv_aload_n hx hb dz_601 rfl (lv_at hl 3 rfl) ?_
  refine lv_aload_n hx hb dz_602 rfl (lv_at hl 1 rfl) ?_
  refine lv_iload hx hb dz_603 (lv_at hl 5 rfl) ?_
  refine lv_iconst (v := 1) hx hb dz_605 (by decide) ?_
  refine lv_iadd hx hb dz_606 ?_
  refine ow_topi (y := nI (6 * n + 1)) (nI_add (6 * n) 1) ?_
  refine va_sld hx hb hX hbl hbA hM.2.2.2.2.2 (vp_in_nI (n := 6 * n + 1) (N := L) (by omega) (by omega)) dz_607 ?_
  refine ow_topi (y := x1) ((congrArg xs (nI_clamp (by omega))).trans e1) ?_
  obtain ⟨v4, zm3, hcq, hq⟩ := tw_cl1 hq
  refine lx_refi hM (va_runV (As := [.int x1]) (rest := []) ⟨hx, hb, hml, hown, hts⟩ (km_X13_mirror l D q5 w hM.2.2.2.1.1 K x1 zm zm3 v4 hcq) (cwV 1 hts (lx_gV (lx_all wM_good rfl) (lx_mem hM1 (hZ _ zq_83)) (hZ _ zq_84) (hZ _ zq_85) (hZ _ zq_86) (hZ _ zq_8) rfl rfl rfl rfl) rfl rfl rfl cd_X13_mirror ⟨(Nat.le_of_ble_eq_true rfl), (Nat.le_of_ble_eq_true rfl)⟩) (lx_preM hG hM) rfl rfl hl.1 rfl (lv_room (Nat.le_of_ble_eq_true rfl)) dz_608 ⟨(by show _ ≤ 601024; omega), (by show _ ≤ 7293033; omega)⟩) (fun H locs hM => ?_)
  refine lv_istore (lv' := [(6, .int v4), (5, .int v2), (0, .ref b), (1, .ref (u 0)), (2, .ref (w 0)), (3, .ref (u 52001)), (4, .int (nI (6 * n)))]) hx hb dz_611 hl (by decide) rfl (fun ls hl => ?_)
  refine lv_goto (tgt := 1682) hx hb dz_613 (by decide) ?_
  exact kk _ _ H locs ls hM (lv_sub hl [2, 3, 4, 5, 6] rfl) hq
theorem dz_616 : decode cL_law 616 = .ok (.aload_n 1, 1) := dw_at dwl_5 (p := 16) rfl (by decide +kernel)
theorem dz_617 : decode cL_law 617 = .ok (.aload_n 0, 1) := dw_at dwl_5 (p := 17) rfl (by decide +kernel)
theorem dz_618 : decode cL_law 618 = .ok (.iload 4, 2) := dw_at dwl_5 (p := 18) rfl (by decide +kernel)
theorem dz_620 : decode cL_law 620 = .ok (.iconst 1, 1) := dw_at dwl_5 (p := 20) rfl (by decide +kernel)
theorem dz_621 : decode cL_law 621 = .ok (.iadd, 1) := dw_at dwl_5 (p := 21) rfl (by decide +kernel)
theorem dz_622 : decode cL_law 622 = .ok (.iaload, 1) := dw_at dwl_5 (p := 22) rfl (by decide +kernel)
theorem dz_623 : decode cL_law 623 = .ok (.aload_n 0, 1) := dw_at dwl_5 (p := 23) rfl (by decide +kernel)
theorem dz_624 : decode cL_law 624 = .ok (.iload 4, 2) := dw_at dwl_5 (p := 24) rfl (by decide +kernel)
theorem dz_626 : decode cL_law 626 = .ok (.iconst 2, 1) := dw_at dwl_5 (p := 26) rfl (by decide +kernel)
theorem dz_627 : decode cL_law 627 = .ok (.iadd, 1) := dw_at dwl_5 (p := 27) rfl (by decide +kernel)
theorem dz_628 : decode cL_law 628 = .ok (.iaload, 1) := dw_at dwl_5 (p := 28) rfl (by decide +kernel)
theorem dz_629 : decode cL_law 629 = .ok (.aload_n 3, 1) := dw_at dwl_5 (p := 29) rfl (by decide +kernel)
theorem dz_630 : decode cL_law 630 = .ok (.invokestatic 177, 3) := dw_at dwl_5 (p := 30) rfl (by decide +kernel)
theorem dz_633 : decode cL_law 633 = .ok (.istore 5, 2) := dw_at dwl_5 (p := 33) rfl (by decide +kernel)
theorem dz_635 : decode cL_law 635 = .ok (.aload_n 2, 1) := dw_at dwl_5 (p := 35) rfl (by decide +kernel)
theorem dz_636 : decode cL_law 636 = .ok (.aload_n 0, 1) := dw_at dwl_5 (p := 36) rfl (by decide +kernel)
theorem dz_637 : decode cL_law 637 = .ok (.iload 4, 2) := dw_at dwl_5 (p := 37) rfl (by decide +kernel)
theorem dz_639 : decode cL_law 639 = .ok (.iconst 1, 1) := dw_at dwl_5 (p := 39) rfl (by decide +kernel)
theorem dz_640 : decode cL_law 640 = .ok (.iadd, 1) := dw_at dwl_5 (p := 40) rfl (by decide +kernel)
theorem dz_641 : decode cL_law 641 = .ok (.iaload, 1) := dw_at dwl_5 (p := 41) rfl (by decide +kernel)
theorem dz_642 : decode cL_law 642 = .ok (.aload_n 0, 1) := dw_at dwl_5 (p := 42) rfl (by decide +kernel)
theorem dz_643 : decode cL_law 643 = .ok (.iload 4, 2) := dw_at dwl_5 (p := 43) rfl (by decide +kernel)
theorem dz_645 : decode cL_law 645 = .ok (.iconst 2, 1) := dw_at dwl_5 (p := 45) rfl (by decide +kernel)
theorem dz_646 : decode cL_law 646 = .ok (.iadd, 1) := dw_at dwl_5 (p := 46) rfl (by decide +kernel)
theorem dz_647 : decode cL_law 647 = .ok (.iaload, 1) := dw_at dwl_5 (p := 47) rfl (by decide +kernel)
theorem dz_648 : decode cL_law 648 = .ok (.invokevirtual 179, 3) := dw_at dwl_5 (p := 48) rfl (by decide +kernel)
theorem dz_651 : decode cL_law 651 = .ok (.istore 6, 2) := dw_at dwl_5 (p := 51) rfl (by decide +kernel)
theorem dz_653 : decode cL_law 653 = .ok (.goto 1029, 3) := dw_at dwl_5 (p := 53) rfl (by decide +kernel)
def ltp_reverse (vl : Nat → Nat) (K : Nat) (x1 : Int32) (x2 : Int32) (x3 : Int32) (x4 : Int32) (x5 : Int32) (zc zm : ow_MS) : Option ow_LwS :=
 cs1 (le_L_reverse vl K 0 x1 x2 zc) fun v2 zc1 => cs1 (qe_X13_reverse K x1 x2 zm) fun v4 zm3 => some (vl, zc1, zm3)
set_option maxHeartbeats 4000000 in
set_option maxRecDepth 100000 in
theorem lxc_reverse {p : Program} {l : Launch} {e : Env} {s : State} {m : MethodId} {args : Array Value} {below : List Frame} {meth : Method} {c : Code} {b L K n : Nat} {xs : Nat → Int32} {D : va_G} {q : Nat → ClassId} {q5 : ow_Q5} {vl u w sa : Nat → Nat} {zc zm : ow_MS} {S1 : ow_LwS} {Ts : List Cond} {Q : State → Prop} {H : Heap} {locs : List Loc} {ls : Array Slot} {cells slots : Nat} (hx : p.tables.exec = Jvm.exec) (hb : c.code = cL_law) (hml : c.maxLocals = 8) (hown : s.vm.findClass RL = some m.cls) (hts : ∀ w ∈ Ts, w.before args s = true) (hX : va_X b L xs s s.heap) (hbl : b < s.heap.size) (hZ : ∀ w ∈ wZ, w ∈ Ts) (hL1 : ∀ w ∈ wLL, w ∈ Ts) (hC1 : ∀ w ∈ wC, w ∈ Ts) (hM1 : ∀ w ∈ wM, w ∈ Ts) (hG : lx_G l s D q q5 sa) (hLn : L ≤ 3072) (hn : 6 * n + 6 ≤ L) (hq : ltp_reverse vl K (xs (6 * n + 1)) (xs (6 * n + 2)) (xs (6 * n + 3)) (xs (6 * n + 4)) (xs (6 * n + 5)) zc zm = some S1) (hM : lx_M D q q5 s vl u w zc zm H locs) (hl : lv_has ls 8 [(0, .ref b), (1, .ref (u 0)), (2, .ref (w 0)), (3, .ref (u 52001)), (4, .int (nI (6 * n)))]) (hc : cells + 3 ≤ 601024) (hs : slots + 18 ≤ 7293033) (kk : ∀ (zc1 zm1 : ow_MS) (H1 : Heap) (locs1 : List Loc) (ls1 : Array Slot), lx_M D q q5 s vl u w zc1 zm1 H1 locs1 → lv_has ls1 8 [(0, .ref b), (1, .ref (u 0)), (2, .ref (w 0)), (3, .ref (u 52001)), (4, .int (nI (6 * n)))] → some (vl, zc1, zm1) = some S1 → W p l e room_1 s m args below meth c H1 locs1 (cells + 3) (slots + 18) Q (F0 m 1682 ls1 [])) : W p l e room_1 s m args below meth c H locs cells slots Q (F0 m 616 ls []) := by
  have hbA : ¬ lx_A s b := Nat.not_le.mpr hbl
  generalize e1 : xs (6 * n + 1) = x1 at hq
  generalize e2 : xs (6 * n + 2) = x2 at hq
  generalize e3 : xs (6 * n + 3) = x3 at hq
  generalize e4 : xs (6 * n + 4) = x4 at hq
  generalize e5 : xs (6 * n + 5) = x5 at hq
  unfold ltp_reverse at hq
  refine lv_aload_n hx hb dz_616 rfl (lv_at hl 1 rfl) ?_
  refine lv_aload_n hx hb dz_617 rfl (lv_at hl 0 rfl) ?_
  refine lv_iload hx hb dz_618 (lv_at hl 4 rfl) ?_
  refine lv_iconst (v := 1) hx hb dz_620 (by decide) ?_
  refine lv_iadd hx hb dz_621 ?_
  refine ow_topi (y := nI (6 * n + 1)) (nI_add (6 * n) 1) ?_
  refine va_sld hx hb hX hbl hbA hM.2.2.2.2.2 (vp_in_nI (n := 6 * n + 1) (N := L) (by omega) (by omega)) dz_622 ?_
  refine ow_topi (y := x1) ((congrArg xs (nI_clamp (by omega))).trans e1) ?_
  refine lv_aload_n hx hb dz_623 rfl (lv_at hl 0 rfl) ?_
  refine lv_iload hx hb dz_624 (lv_at hl 4 rfl) ?_
  refine lv_iconst (v := 2) hx hb dz_626 (by decide) ?_
  refine lv_iadd hx hb dz_627 ?_
  refine ow_topi (y := nI (6 * n + 2)) (nI_add (6 * n) 2) ?_
  refine va_sld hx hb hX hbl hbA hM.2.2.2.2.2 (vp_in_nI (n := 6 * n + 2) (N := L) (by omega) (by omega)) dz_628 ?_
  refine ow_topi (y := x2) ((congrArg xs (nI_clamp (by omega))).trans e2) ?_
  refine lv_aload_n hx hb dz_629 rfl (lv_at hl 3 rfl) ?_
  obtain ⟨v2, zc1, hcq, hq⟩ := tw_cl1 hq
  refine lx_wrap hM (vx_runSX (As := [.ref (u 0), .int x1, .int x2, .ref (u 52001)]) (rest := []) ⟨hx, hb, hml, hown, hts⟩ (kl_L_reverse l D q vl u hM.2.2.1.1 hG.1 sa K 0 x1 x2 (by unfold cw_X11 ci_X11; exact List.mem_singleton.mpr rfl) zc zc1 v2 hcq) (vx_cwSW 4 hts (lx_gS (lx_all wLL_good rfl) (lx_mem hL1 (hZ _ zq_87)) (hZ _ zq_88) (hZ _ zq_89) (hZ _ zq_3) rfl rfl rfl) rfl rfl rfl (by decide +kernel) ⟨(Nat.le_of_ble_eq_true rfl), (Nat.le_of_ble_eq_true rfl)⟩) (lx_preL hG hM) rfl rfl hl.1 rfl (lv_room (Nat.le_of_ble_eq_true rfl)) dz_630 ⟨(by show _ ≤ 601024; omega), (by show _ ≤ 7293033; omega)⟩) (fun H locs hM => ?_)
  refine lv_istore (lv' := [(5, .int v2), (0, .ref b), (1, .ref (u 0)), (2, .ref (w 0)), (3, .ref (u 52001)), (4, .int (nI (6 * n)))]) hx hb dz_633 hl (by decide) rfl (fun ls hl => ?_)
  refine lv_aload_n hx hb dz_635 rfl (lv_at hl 3 rfl) ?_
  refine lv_aload_n hx hb dz_636 rfl (lv_at hl 1 rfl) ?_
  refine lv_iload hx hb dz_637 (lv_at hl 5 rfl) ?_
  refine lv_iconst (v := 1) hx hb dz_639 (by decide) ?_
  refine lv_iadd hx hb dz_640 ?_
  refine ow_topi (y := nI (6 * n + 1)) (nI_add (6 * n) 1) ?_
  refine va_sld hx hb hX hbl hbA hM.2.2.2.2.2 (vp_in_nI (n := 6 * n + 1) (N := L) (by omega) (by omega)) dz_641 ?_
  refine ow_topi (y := x1) ((congrArg xs (nI_clamp (by omega))).trans e1) ?_
  refine lv_aload_n hx hb dz_642 rfl (lv_at hl 1 rfl) ?_
  refine lv_iload hx hb dz_643 (lv_at hl 5 rfl) ?_
  refine lv_iconst (v := 2) hx hb dz_645 (by decide) ?_
  refine lv_iadd hx hb dz_646 ?_
  refine ow_topi (y := nI (6 * n + 2)) (nI_add (6 * n) 2) ?_
  refine va_sld hx hb hX hbl hbA hM.2.2.2.2.2 (vp_in_nI (n := 6 * n + 2) (N := L) (by omega) (by omega)) dz_647 ?_
  refine ow_topi (y := x2) ((congrArg xs (nI_clamp (by omega))).trans e2) ?_
  obtain ⟨v4, zm3, hcq, hq⟩ := tw_cl1 hq
  refine lx_refi hM (va_runV (As := [.int x1, .int x2]) (rest := []) ⟨hx, hb, hml, hown, hts⟩ (km_X13_reverse l D q5 w hM.2.2.2.1.1 K x1 x2 zm zm3 v4 hcq) (cwV 2 hts (lx_gV (lx_all wM_good rfl) (lx_mem hM1 (hZ _ zq_90)) (hZ _ zq_91) (hZ _ zq_92) (hZ _ zq_93) (hZ _ zq_8) rfl rfl rfl rfl) rfl rfl rfl cd_X13_reverse ⟨(Nat.le_of_ble_eq_true rfl), (Nat.le_of_ble_eq_true rfl)⟩) (lx_preM hG hM) rfl rfl hl.1 rfl (lv_room (Nat.le_of_ble_eq_true rfl)) dz_648 ⟨(by show _ ≤ 601024; omega), (by show _ ≤ 7293033; omega)⟩) (fun H locs hM => ?_)
  refine lv_istore (lv' := [(6, .int v4), (5, .int v2), (0, .ref b), (1, .ref (u 0)), (2, .ref (w 0)), (3, .ref (u 52001)), (4, .int (nI (6 * n)))]) hx hb dz_651 hl (by decide) rfl (fun ls hl => ?_)
  refine lv_goto (tgt := 1682) hx hb dz_653 (by decide) ?_
  exact kk _ _ H locs ls hM (lv_sub hl [2, 3, 4, 5, 6] rfl) hq
theorem dz_656 : decode cL_law 656 = .ok (.aload_n 1, 1) := dw_at dwl_5 (p := 56) rfl (by decide +kernel)
theorem dz_657 : decode cL_law 657 = .ok (.aload_n 0, 1) := dw_at dwl_5 (p := 57) rfl (by decide +kernel)
theorem dz_658 : decode cL_law 658 = .ok (.iload 4, 2) := dw_at dwl_5 (p := 58) rfl (by decide +kernel)
theorem dz_660 : decode cL_law 660 = .ok (.iconst 1, 1) := dw_at dwl_5 (p := 60) rfl (by decide +kernel)
theorem dz_661 : decode cL_law 661 = .ok (.iadd, 1) := dw_at dwl_5 (p := 61) rfl (by decide +kernel)
theorem dz_662 : decode cL_law 662 = .ok (.iaload, 1) := dw_at dwl_5 (p := 62) rfl (by decide +kernel)
theorem dz_663 : decode cL_law 663 = .ok (.aload_n 0, 1) := dw_at dwl_5 (p := 63) rfl (by decide +kernel)
theorem dz_664 : decode cL_law 664 = .ok (.iload 4, 2) := dw_at dwl_5 (p := 64) rfl (by decide +kernel)
theorem dz_666 : decode cL_law 666 = .ok (.iconst 2, 1) := dw_at dwl_5 (p := 66) rfl (by decide +kernel)
theorem dz_667 : decode cL_law 667 = .ok (.iadd, 1) := dw_at dwl_5 (p := 67) rfl (by decide +kernel)
theorem dz_668 : decode cL_law 668 = .ok (.iaload, 1) := dw_at dwl_5 (p := 68) rfl (by decide +kernel)
theorem dz_669 : decode cL_law 669 = .ok (.aload_n 3, 1) := dw_at dwl_5 (p := 69) rfl (by decide +kernel)
theorem dz_670 : decode cL_law 670 = .ok (.invokestatic 180, 3) := dw_at dwl_5 (p := 70) rfl (by decide +kernel)
theorem dz_673 : decode cL_law 673 = .ok (.istore 5, 2) := dw_at dwl_5 (p := 73) rfl (by decide +kernel)
theorem dz_675 : decode cL_law 675 = .ok (.aload_n 2, 1) := dw_at dwl_5 (p := 75) rfl (by decide +kernel)
theorem dz_676 : decode cL_law 676 = .ok (.aload_n 0, 1) := dw_at dwl_5 (p := 76) rfl (by decide +kernel)
theorem dz_677 : decode cL_law 677 = .ok (.iload 4, 2) := dw_at dwl_5 (p := 77) rfl (by decide +kernel)
theorem dz_679 : decode cL_law 679 = .ok (.iconst 1, 1) := dw_at dwl_5 (p := 79) rfl (by decide +kernel)
theorem dz_680 : decode cL_law 680 = .ok (.iadd, 1) := dw_at dwl_5 (p := 80) rfl (by decide +kernel)
theorem dz_681 : decode cL_law 681 = .ok (.iaload, 1) := dw_at dwl_5 (p := 81) rfl (by decide +kernel)
theorem dz_682 : decode cL_law 682 = .ok (.aload_n 0, 1) := dw_at dwl_5 (p := 82) rfl (by decide +kernel)
theorem dz_683 : decode cL_law 683 = .ok (.iload 4, 2) := dw_at dwl_5 (p := 83) rfl (by decide +kernel)
theorem dz_685 : decode cL_law 685 = .ok (.iconst 2, 1) := dw_at dwl_5 (p := 85) rfl (by decide +kernel)
theorem dz_686 : decode cL_law 686 = .ok (.iadd, 1) := dw_at dwl_5 (p := 86) rfl (by decide +kernel)
theorem dz_687 : decode cL_law 687 = .ok (.iaload, 1) := dw_at dwl_5 (p := 87) rfl (by decide +kernel)
theorem dz_688 : decode cL_law 688 = .ok (.invokevirtual 182, 3) := dw_at dwl_5 (p := 88) rfl (by decide +kernel)
theorem dz_691 : decode cL_law 691 = .ok (.istore 6, 2) := dw_at dwl_5 (p := 91) rfl (by decide +kernel)
theorem dz_693 : decode cL_law 693 = .ok (.goto 989, 3) := dw_at dwl_5 (p := 93) rfl (by decide +kernel)
def ltp_change (vl : Nat → Nat) (K : Nat) (x1 : Int32) (x2 : Int32) (x3 : Int32) (x4 : Int32) (x5 : Int32) (zc zm : ow_MS) : Option ow_LwS :=
 cs1 (le_L_change vl K 0 x1 x2 zc) fun v2 zc1 => cs1 (qe_X13_change K x1 x2 zm) fun v4 zm3 => some (vl, zc1, zm3)
set_option maxHeartbeats 4000000 in
set_option maxRecDepth 100000 in
theorem lxc_change {p : Program} {l : Launch} {e : Env} {s : State} {m : MethodId} {args : Array Value} {below : List Frame} {meth : Method} {c : Code} {b L K n : Nat} {xs : Nat → Int32} {D : va_G} {q : Nat → ClassId} {q5 : ow_Q5} {vl u w sa : Nat → Nat} {zc zm : ow_MS} {S1 : ow_LwS} {Ts : List Cond} {Q : State → Prop} {H : Heap} {locs : List Loc} {ls : Array Slot} {cells slots : Nat} (hx : p.tables.exec = Jvm.exec) (hb : c.code = cL_law) (hml : c.maxLocals = 8) (hown : s.vm.findClass RL = some m.cls) (hts : ∀ w ∈ Ts, w.before args s = true) (hX : va_X b L xs s s.heap) (hbl : b < s.heap.size) (hZ : ∀ w ∈ wZ, w ∈ Ts) (hL1 : ∀ w ∈ wLL, w ∈ Ts) (hC1 : ∀ w ∈ wC, w ∈ Ts) (hM1 : ∀ w ∈ wM, w ∈ Ts) (hG : lx_G l s D q q5 sa) (hLn : L ≤ 3072) (hn : 6 * n + 6 ≤ L) (hq : ltp_change vl K (xs (6 * n + 1)) (xs (6 * n + 2)) (xs (6 * n + 3)) (xs (6 * n + 4)) (xs (6 * n + 5)) zc zm = some S1) (hM : lx_M D q q5 s vl u w zc zm H locs) (hl : lv_has ls 8 [(0, .ref b), (1, .ref (u 0)), (2, .ref (w 0)), (3, .ref (u 52001)), (4, .int (nI (6 * n)))]) (hc : cells + 3 ≤ 601024) (hs : slots + 18 ≤ 7293033) (kk : ∀ (zc1 zm1 : ow_MS) (H1 : Heap) (locs1 : List Loc) (ls1 : Array Slot), lx_M D q q5 s vl u w zc1 zm1 H1 locs1 → lv_has ls1 8 [(0, .ref b), (1, .ref (u 0)), (2, .ref (w 0)), (3, .ref (u 52001)), (4, .int (nI (6 * n)))] → some (vl, zc1, zm1) = some S1 → W p l e room_1 s m args below meth c H1 locs1 (cells + 3) (slots + 18) Q (F0 m 1682 ls1 [])) : W p l e room_1 s m args below meth c H locs cells slots Q (F0 m 656 ls []) := by
  have hbA : ¬ lx_A s b := Nat.not_le.mpr hbl
  generalize e1 : xs (6 * n + 1) = x1 at hq
  generalize e2 : xs (6 * n + 2) = x2 at hq
  generalize e3 : xs (6 * n + 3) = x3 at hq
  generalize e4 : xs (6 * n + 4) = x4 at hq
  generalize e5 : xs (6 * n + 5) = x5 at hq
  unfold ltp_change at hq
  refine lv_aload_n hx hb dz_656 rfl (lv_at hl 1 rfl) ?_
  refine lv_aload_n hx hb dz_657 rfl (lv_at hl 0 rfl) ?_
  refine lv_iload hx hb dz_658 (lv_at hl 4 rfl) ?_
  refine lv_iconst (v := 1) hx hb dz_660 (by decide) ?_
  refine lv_iadd hx hb dz_661 ?_
  refine ow_topi (y := nI (6 * n + 1)) (nI_add (6 * n) 1) ?_
  refine va_sld hx hb hX hbl hbA hM.2.2.2.2.2 (vp_in_nI (n := 6 * n + 1) (N := L) (by omega) (by omega)) dz_662 ?_
  refine ow_topi (y := x1) ((congrArg xs (nI_clamp (by omega))).trans e1) ?_
  refine lv_aload_n hx hb dz_663 rfl (lv_at hl 0 rfl) ?_
  refine lv_iload hx hb dz_664 (lv_at hl 4 rfl) ?_
  refine lv_iconst (v := 2) hx hb dz_666 (by decide) ?_
  refine lv_iadd hx hb dz_667 ?_
  refine ow_topi (y := nI (6 * n + 2)) (nI_add (6 * n) 2) ?_
  refine va_sld hx hb hX hbl hbA hM.2.2.2.2.2 (vp_in_nI (n := 6 * n + 2) (N := L) (by omega) (by omega)) dz_668 ?_
  refine ow_topi (y := x2) ((congrArg xs (nI_clamp (by omega))).trans e2) ?_
  refine lv_aload_n hx hb dz_669 rfl (lv_at hl 3 rfl) ?_
  obtain ⟨v2, zc1, hcq, hq⟩ := tw_cl1 hq
  refine lx_wrap hM (vx_runSX (As := [.ref (u 0), .int x1, .int x2, .ref (u 52001)]) (rest := []) ⟨hx, hb, hml, hown, hts⟩ (kl_L_change l D q vl u hM.2.2.1.1 hG.1 sa K 0 x1 x2 (by unfold cw_X11 ci_X11; exact List.mem_singleton.mpr rfl) zc zc1 v2 hcq) (vx_cwSW 4 hts (lx_gS (lx_all wLL_good rfl) (lx_mem hL1 (hZ _ zq_94)) (hZ _ zq_95) (hZ _ zq_96) (hZ _ zq_3) rfl rfl rfl) rfl rfl rfl (by decide +kernel) ⟨(Nat.le_of_ble_eq_true rfl), (Nat.le_of_ble_eq_true rfl)⟩) (lx_preL hG hM) rfl rfl hl.1 rfl (lv_room (Nat.le_of_ble_eq_true rfl)) dz_670 ⟨(by show _ ≤ 601024; omega), (by show _ ≤ 7293033; omega)⟩) (fun H locs hM => ?_)
  refine lv_istore (lv' := [(5, .int v2), (0, .ref b), (1, .ref (u 0)), (2, .ref (w 0)), (3, .ref (u 52001)), (4, .int (nI (6 * n)))]) hx hb dz_673 hl (by decide) rfl (fun ls hl => ?_)
  refine lv_aload_n hx hb dz_675 rfl (lv_at hl 3 rfl) ?_
  refine lv_aload_n hx hb dz_676 rfl (lv_at hl 1 rfl) ?_
  refine lv_iload hx hb dz_677 (lv_at hl 5 rfl) ?_
  refine lv_iconst (v := 1) hx hb dz_679 (by decide) ?_
  refine lv_iadd hx hb dz_680 ?_
  refine ow_topi (y := nI (6 * n + 1)) (nI_add (6 * n) 1) ?_
  refine va_sld hx hb hX hbl hbA hM.2.2.2.2.2 (vp_in_nI (n := 6 * n + 1) (N := L) (by omega) (by omega)) dz_681 ?_
  refine ow_topi (y := x1) ((congrArg xs (nI_clamp (by omega))).trans e1) ?_
  refine lv_aload_n hx hb dz_682 rfl (lv_at hl 1 rfl) ?_
  refine lv_iload hx hb dz_683 (lv_at hl 5 rfl) ?_
  refine lv_iconst (v := 2) hx hb dz_685 (by decide) ?_
  refine lv_iadd hx hb dz_686 ?_
  refine ow_topi (y := nI (6 * n + 2)) (nI_add (6 * n) 2) ?_
  refine va_sld hx hb hX hbl hbA hM.2.2.2.2.2 (vp_in_nI (n := 6 * n + 2) (N := L) (by omega) (by omega)) dz_687 ?_
  refine ow_topi (y := x2) ((congrArg xs (nI_clamp (by omega))).trans e2) ?_
  obtain ⟨v4, zm3, hcq, hq⟩ := tw_cl1 hq
  refine lx_refi hM (va_runV (As := [.int x1, .int x2]) (rest := []) ⟨hx, hb, hml, hown, hts⟩ (km_X13_change l D q5 w hM.2.2.2.1.1 K x1 x2 zm zm3 v4 hcq) (cwV 2 hts (lx_gV (lx_all wM_good rfl) (lx_mem hM1 (hZ _ zq_97)) (hZ _ zq_98) (hZ _ zq_99) (hZ _ zq_100) (hZ _ zq_8) rfl rfl rfl rfl) rfl rfl rfl cd_X13_change ⟨(Nat.le_of_ble_eq_true rfl), (Nat.le_of_ble_eq_true rfl)⟩) (lx_preM hG hM) rfl rfl hl.1 rfl (lv_room (Nat.le_of_ble_eq_true rfl)) dz_688 ⟨(by show _ ≤ 601024; omega), (by show _ ≤ 7293033; omega)⟩) (fun H locs hM => ?_)
  refine lv_istore (lv' := [(6, .int v4), (5, .int v2), (0, .ref b), (1, .ref (u 0)), (2, .ref (w 0)), (3, .ref (u 52001)), (4, .int (nI (6 * n)))]) hx hb dz_691 hl (by decide) rfl (fun ls hl => ?_)
  refine lv_goto (tgt := 1682) hx hb dz_693 (by decide) ?_
  exact kk _ _ H locs ls hM (lv_sub hl [2, 3, 4, 5, 6] rfl) hq
theorem dz_696 : decode cL_law 696 = .ok (.aload_n 1, 1) := dw_at dwl_5 (p := 96) rfl (by decide +kernel)
theorem dz_697 : decode cL_law 697 = .ok (.aload_n 0, 1) := dw_at dwl_5 (p := 97) rfl (by decide +kernel)
theorem dz_698 : decode cL_law 698 = .ok (.iload 4, 2) := dw_at dwl_5 (p := 98) rfl (by decide +kernel)
theorem dz_700 : decode cL_law 700 = .ok (.iconst 1, 1) := dw_at dwl_5 (p := 100) rfl (by decide +kernel)
theorem dz_701 : decode cL_law 701 = .ok (.iadd, 1) := dw_at dwl_5 (p := 101) rfl (by decide +kernel)
theorem dz_702 : decode cL_law 702 = .ok (.iaload, 1) := dw_at dwl_5 (p := 102) rfl (by decide +kernel)
theorem dz_703 : decode cL_law 703 = .ok (.aload_n 0, 1) := dw_at dwl_5 (p := 103) rfl (by decide +kernel)
theorem dz_704 : decode cL_law 704 = .ok (.iload 4, 2) := dw_at dwl_5 (p := 104) rfl (by decide +kernel)
theorem dz_706 : decode cL_law 706 = .ok (.iconst 2, 1) := dw_at dwl_5 (p := 106) rfl (by decide +kernel)
theorem dz_707 : decode cL_law 707 = .ok (.iadd, 1) := dw_at dwl_5 (p := 107) rfl (by decide +kernel)
theorem dz_708 : decode cL_law 708 = .ok (.iaload, 1) := dw_at dwl_5 (p := 108) rfl (by decide +kernel)
theorem dz_709 : decode cL_law 709 = .ok (.aload_n 3, 1) := dw_at dwl_5 (p := 109) rfl (by decide +kernel)
theorem dz_710 : decode cL_law 710 = .ok (.invokestatic 183, 3) := dw_at dwl_5 (p := 110) rfl (by decide +kernel)
theorem dz_713 : decode cL_law 713 = .ok (.istore 5, 2) := dw_at dwl_5 (p := 113) rfl (by decide +kernel)
theorem dz_715 : decode cL_law 715 = .ok (.aload_n 2, 1) := dw_at dwl_5 (p := 115) rfl (by decide +kernel)
theorem dz_716 : decode cL_law 716 = .ok (.aload_n 0, 1) := dw_at dwl_5 (p := 116) rfl (by decide +kernel)
theorem dz_717 : decode cL_law 717 = .ok (.iload 4, 2) := dw_at dwl_5 (p := 117) rfl (by decide +kernel)
theorem dz_719 : decode cL_law 719 = .ok (.iconst 1, 1) := dw_at dwl_5 (p := 119) rfl (by decide +kernel)
theorem dz_720 : decode cL_law 720 = .ok (.iadd, 1) := dw_at dwl_6 (p := 0) rfl (by decide +kernel)
theorem dz_721 : decode cL_law 721 = .ok (.iaload, 1) := dw_at dwl_6 (p := 1) rfl (by decide +kernel)
theorem dz_722 : decode cL_law 722 = .ok (.aload_n 0, 1) := dw_at dwl_6 (p := 2) rfl (by decide +kernel)
theorem dz_723 : decode cL_law 723 = .ok (.iload 4, 2) := dw_at dwl_6 (p := 3) rfl (by decide +kernel)
theorem dz_725 : decode cL_law 725 = .ok (.iconst 2, 1) := dw_at dwl_6 (p := 5) rfl (by decide +kernel)
theorem dz_726 : decode cL_law 726 = .ok (.iadd, 1) := dw_at dwl_6 (p := 6) rfl (by decide +kernel)
theorem dz_727 : decode cL_law 727 = .ok (.iaload, 1) := dw_at dwl_6 (p := 7) rfl (by decide +kernel)
theorem dz_728 : decode cL_law 728 = .ok (.invokevirtual 185, 3) := dw_at dwl_6 (p := 8) rfl (by decide +kernel)
theorem dz_731 : decode cL_law 731 = .ok (.istore 6, 2) := dw_at dwl_6 (p := 11) rfl (by decide +kernel)
theorem dz_733 : decode cL_law 733 = .ok (.goto 949, 3) := dw_at dwl_6 (p := 13) rfl (by decide +kernel)
def ltp_smooth (vl : Nat → Nat) (K : Nat) (x1 : Int32) (x2 : Int32) (x3 : Int32) (x4 : Int32) (x5 : Int32) (zc zm : ow_MS) : Option ow_LwS :=
 cs1 (le_L_smooth vl K 0 x1 x2 zc) fun v2 zc1 => cs1 (qe_X13_smooth K x1 x2 zm) fun v4 zm3 => some (vl, zc1, zm3)
set_option maxHeartbeats 4000000 in
set_option maxRecDepth 100000 in
theorem lxc_smooth {p : Program} {l : Launch} {e : Env} {s : State} {m : MethodId} {args : Array Value} {below : List Frame} {meth : Method} {c : Code} {b L K n : Nat} {xs : Nat → Int32} {D : va_G} {q : Nat → ClassId} {q5 : ow_Q5} {vl u w sa : Nat → Nat} {zc zm : ow_MS} {S1 : ow_LwS} {Ts : List Cond} {Q : State → Prop} {H : Heap} {locs : List Loc} {ls : Array Slot} {cells slots : Nat} (hx : p.tables.exec = Jvm.exec) (hb : c.code = cL_law) (hml : c.maxLocals = 8) (hown : s.vm.findClass RL = some m.cls) (hts : ∀ w ∈ Ts, w.before args s = true) (hX : va_X b L xs s s.heap) (hbl : b < s.heap.size) (hZ : ∀ w ∈ wZ, w ∈ Ts) (hL1 : ∀ w ∈ wLL, w ∈ Ts) (hC1 : ∀ w ∈ wC, w ∈ Ts) (hM1 : ∀ w ∈ wM, w ∈ Ts) (hG : lx_G l s D q q5 sa) (hLn : L ≤ 3072) (hn : 6 * n + 6 ≤ L) (hq : ltp_smooth vl K (xs (6 * n + 1)) (xs (6 * n + 2)) (xs (6 * n + 3)) (xs (6 * n + 4)) (xs (6 * n + 5)) zc zm = some S1) (hM : lx_M D q q5 s vl u w zc zm H locs) (hl : lv_has ls 8 [(0, .ref b), (1, .ref (u 0)), (2, .ref (w 0)), (3, .ref (u 52001)), (4, .int (nI (6 * n)))]) (hc : cells + 4 ≤ 601024) (hs : slots + 24 ≤ 7293033) (kk : ∀ (zc1 zm1 : ow_MS) (H1 : Heap) (locs1 : List Loc) (ls1 : Array Slot), lx_M D q q5 s vl u w zc1 zm1 H1 locs1 → lv_has ls1 8 [(0, .ref b), (1, .ref (u 0)), (2, .ref (w 0)), (3, .ref (u 52001)), (4, .int (nI (6 * n)))] → some (vl, zc1, zm1) = some S1 → W p l e room_1 s m args below meth c H1 locs1 (cells + 4) (slots + 24) Q (F0 m 1682 ls1 [])) : W p l e room_1 s m args below meth c H locs cells slots Q (F0 m 696 ls []) := by
  have hbA : ¬ lx_A s b := Nat.not_le.mpr hbl
  generalize e1 : xs (6 * n + 1) = x1 at hq
  generalize e2 : xs (6 * n + 2) = x2 at hq
  generalize e3 : xs (6 * n + 3) = x3 at hq
  generalize e4 : xs (6 * n + 4) = x4 at hq
  generalize e5 : xs (6 * n + 5) = x5 at hq
  unfold ltp_smooth at hq
  refine lv_aload_n hx hb dz_696 rfl (lv_at hl 1 rfl) ?_
  refine lv_aload_n hx hb dz_697 rfl (lv_at hl 0 rfl) ?_
  refine lv_iload hx hb dz_698 (lv_at hl 4 rfl) ?_
  refine lv_iconst (v := 1) hx hb dz_700 (by decide) ?_
  refine lv_iadd hx hb dz_701 ?_
  refine ow_topi (y := nI (6 * n + 1)) (nI_add (6 * n) 1) ?_
  refine va_sld hx hb hX hbl hbA hM.2.2.2.2.2 (vp_in_nI (n := 6 * n + 1) (N := L) (by omega) (by omega)) dz_702 ?_
  refine ow_topi (y := x1) ((congrArg xs (nI_clamp (by omega))).trans e1) ?_
  refine lv_aload_n hx hb dz_703 rfl (lv_at hl 0 rfl) ?_
  refine lv_iload hx hb dz_704 (lv_at hl 4 rfl) ?_
  refine lv_iconst (v := 2) hx hb dz_706 (by decide) ?_
  refine lv_iadd hx hb dz_707 ?_
  refine ow_topi (y := nI (6 * n + 2)) (nI_add (6 * n) 2) ?_
  refine va_sld hx hb hX hbl hbA hM.2.2.2.2.2 (vp_in_nI (n := 6 * n + 2) (N := L) (by omega) (by omega)) dz_708 ?_
  refine ow_topi (y := x2) ((congrArg xs (nI_clamp (by omega))).trans e2) ?_
  refine lv_aload_n hx hb dz_709 rfl (lv_at hl 3 rfl) ?_
  obtain ⟨v2, zc1, hcq, hq⟩ := tw_cl1 hq
  refine lx_wrap hM (vx_runSX (As := [.ref (u 0), .int x1, .int x2, .ref (u 52001)]) (rest := []) ⟨hx, hb, hml, hown, hts⟩ (kl_L_smooth l D q vl u hM.2.2.1.1 hG.1 sa K 0 x1 x2 (by unfold cw_X11 ci_X11; exact List.mem_singleton.mpr rfl) zc zc1 v2 hcq) (vx_cwSW 4 hts (lx_gS (lx_all wLL_good rfl) (lx_mem hL1 (hZ _ zq_101)) (hZ _ zq_102) (hZ _ zq_103) (hZ _ zq_3) rfl rfl rfl) rfl rfl rfl (by decide +kernel) ⟨(Nat.le_of_ble_eq_true rfl), (Nat.le_of_ble_eq_true rfl)⟩) (lx_preL hG hM) rfl rfl hl.1 rfl (lv_room (Nat.le_of_ble_eq_true rfl)) dz_710 ⟨(by show _ ≤ 601024; omega), (by show _ ≤ 7293033; omega)⟩) (fun H locs hM => ?_)
  refine lv_istore (lv' := [(5, .int v2), (0, .ref b), (1, .ref (u 0)), (2, .ref (w 0)), (3, .ref (u 52001)), (4, .int (nI (6 * n)))]) hx hb dz_713 hl (by decide) rfl (fun ls hl => ?_)
  refine lv_aload_n hx hb dz_715 rfl (lv_at hl 3 rfl) ?_
  refine lv_aload_n hx hb dz_716 rfl (lv_at hl 1 rfl) ?_
  refine lv_iload hx hb dz_717 (lv_at hl 5 rfl) ?_
  refine lv_iconst (v := 1) hx hb dz_719 (by decide) ?_
  refine lv_iadd hx hb dz_720 ?_
  refine ow_topi (y := nI (6 * n + 1)) (nI_add (6 * n) 1) ?_
  refine va_sld hx hb hX hbl hbA hM.2.2.2.2.2 (vp_in_nI (n := 6 * n + 1) (N := L) (by omega) (by omega)) dz_721 ?_
  refine ow_topi (y := x1) ((congrArg xs (nI_clamp (by omega))).trans e1) ?_
  refine lv_aload_n hx hb dz_722 rfl (lv_at hl 1 rfl) ?_
  refine lv_iload hx hb dz_723 (lv_at hl 5 rfl) ?_
  refine lv_iconst (v := 2) hx hb dz_725 (by decide) ?_
  refine lv_iadd hx hb dz_726 ?_
  refine ow_topi (y := nI (6 * n + 2)) (nI_add (6 * n) 2) ?_
  refine va_sld hx hb hX hbl hbA hM.2.2.2.2.2 (vp_in_nI (n := 6 * n + 2) (N := L) (by omega) (by omega)) dz_727 ?_
  refine ow_topi (y := x2) ((congrArg xs (nI_clamp (by omega))).trans e2) ?_
  obtain ⟨v4, zm3, hcq, hq⟩ := tw_cl1 hq
  refine lx_refi hM (va_runV (As := [.int x1, .int x2]) (rest := []) ⟨hx, hb, hml, hown, hts⟩ (km_X13_smooth l D q5 w hM.2.2.2.1.1 K x1 x2 zm zm3 v4 hcq) (cwV 2 hts (lx_gV (lx_all wM_good rfl) (lx_mem hM1 (hZ _ zq_104)) (hZ _ zq_105) (hZ _ zq_106) (hZ _ zq_107) (hZ _ zq_8) rfl rfl rfl rfl) rfl rfl rfl cd_X13_smooth ⟨(Nat.le_of_ble_eq_true rfl), (Nat.le_of_ble_eq_true rfl)⟩) (lx_preM hG hM) rfl rfl hl.1 rfl (lv_room (Nat.le_of_ble_eq_true rfl)) dz_728 ⟨(by show _ ≤ 601024; omega), (by show _ ≤ 7293033; omega)⟩) (fun H locs hM => ?_)
  refine lv_istore (lv' := [(6, .int v4), (5, .int v2), (0, .ref b), (1, .ref (u 0)), (2, .ref (w 0)), (3, .ref (u 52001)), (4, .int (nI (6 * n)))]) hx hb dz_731 hl (by decide) rfl (fun ls hl => ?_)
  refine lv_goto (tgt := 1682) hx hb dz_733 (by decide) ?_
  exact kk _ _ H locs ls hM (lv_sub hl [2, 3, 4, 5, 6] rfl) hq
theorem dz_736 : decode cL_law 736 = .ok (.aload_n 1, 1) := dw_at dwl_6 (p := 16) rfl (by decide +kernel)
theorem dz_737 : decode cL_law 737 = .ok (.aload_n 0, 1) := dw_at dwl_6 (p := 17) rfl (by decide +kernel)
theorem dz_738 : decode cL_law 738 = .ok (.iload 4, 2) := dw_at dwl_6 (p := 18) rfl (by decide +kernel)
theorem dz_740 : decode cL_law 740 = .ok (.iconst 1, 1) := dw_at dwl_6 (p := 20) rfl (by decide +kernel)
theorem dz_741 : decode cL_law 741 = .ok (.iadd, 1) := dw_at dwl_6 (p := 21) rfl (by decide +kernel)
theorem dz_742 : decode cL_law 742 = .ok (.iaload, 1) := dw_at dwl_6 (p := 22) rfl (by decide +kernel)
theorem dz_743 : decode cL_law 743 = .ok (.aload_n 0, 1) := dw_at dwl_6 (p := 23) rfl (by decide +kernel)
theorem dz_744 : decode cL_law 744 = .ok (.iload 4, 2) := dw_at dwl_6 (p := 24) rfl (by decide +kernel)
theorem dz_746 : decode cL_law 746 = .ok (.iconst 2, 1) := dw_at dwl_6 (p := 26) rfl (by decide +kernel)
theorem dz_747 : decode cL_law 747 = .ok (.iadd, 1) := dw_at dwl_6 (p := 27) rfl (by decide +kernel)
theorem dz_748 : decode cL_law 748 = .ok (.iaload, 1) := dw_at dwl_6 (p := 28) rfl (by decide +kernel)
theorem dz_749 : decode cL_law 749 = .ok (.aload_n 3, 1) := dw_at dwl_6 (p := 29) rfl (by decide +kernel)
theorem dz_750 : decode cL_law 750 = .ok (.invokestatic 186, 3) := dw_at dwl_6 (p := 30) rfl (by decide +kernel)
theorem dz_753 : decode cL_law 753 = .ok (.istore 5, 2) := dw_at dwl_6 (p := 33) rfl (by decide +kernel)
theorem dz_755 : decode cL_law 755 = .ok (.aload_n 2, 1) := dw_at dwl_6 (p := 35) rfl (by decide +kernel)
theorem dz_756 : decode cL_law 756 = .ok (.aload_n 0, 1) := dw_at dwl_6 (p := 36) rfl (by decide +kernel)
theorem dz_757 : decode cL_law 757 = .ok (.iload 4, 2) := dw_at dwl_6 (p := 37) rfl (by decide +kernel)
theorem dz_759 : decode cL_law 759 = .ok (.iconst 1, 1) := dw_at dwl_6 (p := 39) rfl (by decide +kernel)
theorem dz_760 : decode cL_law 760 = .ok (.iadd, 1) := dw_at dwl_6 (p := 40) rfl (by decide +kernel)
theorem dz_761 : decode cL_law 761 = .ok (.iaload, 1) := dw_at dwl_6 (p := 41) rfl (by decide +kernel)
theorem dz_762 : decode cL_law 762 = .ok (.aload_n 0, 1) := dw_at dwl_6 (p := 42) rfl (by decide +kernel)
theorem dz_763 : decode cL_law 763 = .ok (.iload 4, 2) := dw_at dwl_6 (p := 43) rfl (by decide +kernel)
theorem dz_765 : decode cL_law 765 = .ok (.iconst 2, 1) := dw_at dwl_6 (p := 45) rfl (by decide +kernel)
theorem dz_766 : decode cL_law 766 = .ok (.iadd, 1) := dw_at dwl_6 (p := 46) rfl (by decide +kernel)
theorem dz_767 : decode cL_law 767 = .ok (.iaload, 1) := dw_at dwl_6 (p := 47) rfl (by decide +kernel)
theorem dz_768 : decode cL_law 768 = .ok (.invokevirtual 188, 3) := dw_at dwl_6 (p := 48) rfl (by decide +kernel)
theorem dz_771 : decode cL_law 771 = .ok (.istore 6, 2) := dw_at dwl_6 (p := 51) rfl (by decide +kernel)
theorem dz_773 : decode cL_law 773 = .ok (.goto 909, 3) := dw_at dwl_6 (p := 53) rfl (by decide +kernel)
def ltp_apart (vl : Nat → Nat) (K : Nat) (x1 : Int32) (x2 : Int32) (x3 : Int32) (x4 : Int32) (x5 : Int32) (zc zm : ow_MS) : Option ow_LwS :=
 cs1 (le_L_apart vl K 0 x1 x2 zc) fun v2 zc1 => cs1 (qe_X13_apart K x1 x2 zm) fun v4 zm3 => some (vl, zc1, zm3)
set_option maxHeartbeats 4000000 in
set_option maxRecDepth 100000 in
theorem lxc_apart {p : Program} {l : Launch} {e : Env} {s : State} {m : MethodId} {args : Array Value} {below : List Frame} {meth : Method} {c : Code} {b L K n : Nat} {xs : Nat → Int32} {D : va_G} {q : Nat → ClassId} {q5 : ow_Q5} {vl u w sa : Nat → Nat} {zc zm : ow_MS} {S1 : ow_LwS} {Ts : List Cond} {Q : State → Prop} {H : Heap} {locs : List Loc} {ls : Array Slot} {cells slots : Nat} (hx : p.tables.exec = Jvm.exec) (hb : c.code = cL_law) (hml : c.maxLocals = 8) (hown : s.vm.findClass RL = some m.cls) (hts : ∀ w ∈ Ts, w.before args s = true) (hX : va_X b L xs s s.heap) (hbl : b < s.heap.size) (hZ : ∀ w ∈ wZ, w ∈ Ts) (hL1 : ∀ w ∈ wLL, w ∈ Ts) (hC1 : ∀ w ∈ wC, w ∈ Ts) (hM1 : ∀ w ∈ wM, w ∈ Ts) (hG : lx_G l s D q q5 sa) (hLn : L ≤ 3072) (hn : 6 * n + 6 ≤ L) (hq : ltp_apart vl K (xs (6 * n + 1)) (xs (6 * n + 2)) (xs (6 * n + 3)) (xs (6 * n + 4)) (xs (6 * n + 5)) zc zm = some S1) (hM : lx_M D q q5 s vl u w zc zm H locs) (hl : lv_has ls 8 [(0, .ref b), (1, .ref (u 0)), (2, .ref (w 0)), (3, .ref (u 52001)), (4, .int (nI (6 * n)))]) (hc : cells + 4 ≤ 601024) (hs : slots + 24 ≤ 7293033) (kk : ∀ (zc1 zm1 : ow_MS) (H1 : Heap) (locs1 : List Loc) (ls1 : Array Slot), lx_M D q q5 s vl u w zc1 zm1 H1 locs1 → lv_has ls1 8 [(0, .ref b), (1, .ref (u 0)), (2, .ref (w 0)), (3, .ref (u 52001)), (4, .int (nI (6 * n)))] → some (vl, zc1, zm1) = some S1 → W p l e room_1 s m args below meth c H1 locs1 (cells + 4) (slots + 24) Q (F0 m 1682 ls1 [])) : W p l e room_1 s m args below meth c H locs cells slots Q (F0 m 736 ls []) := by
  have hbA : ¬ lx_A s b := Nat.not_le.mpr hbl
  generalize e1 : xs (6 * n + 1) = x1 at hq
  generalize e2 : xs (6 * n + 2) = x2 at hq
  generalize e3 : xs (6 * n + 3) = x3 at hq
  generalize e4 : xs (6 * n + 4) = x4 at hq
  generalize e5 : xs (6 * n + 5) = x5 at hq
  unfold ltp_apart at hq
  refine lv_aload_n hx hb dz_736 rfl (lv_at hl 1 rfl) ?_
  refine lv_aload_n hx hb dz_737 rfl (lv_at hl 0 rfl) ?_
  refine lv_iload hx hb dz_738 (lv_at hl 4 rfl) ?_
  refine lv_iconst (v := 1) hx hb dz_740 (by decide) ?_
  refine lv_iadd hx hb dz_741 ?_
  refine ow_topi (y := nI (6 * n + 1)) (nI_add (6 * n) 1) ?_
  refine va_sld hx hb hX hbl hbA hM.2.2.2.2.2 (vp_in_nI (n := 6 * n + 1) (N := L) (by omega) (by omega)) dz_742 ?_
  refine ow_topi (y := x1) ((congrArg xs (nI_clamp (by omega))).trans e1) ?_
  refine lv_aload_n hx hb dz_743 rfl (lv_at hl 0 rfl) ?_
  refine lv_iload hx hb dz_744 (lv_at hl 4 rfl) ?_
  refine lv_iconst (v := 2) hx hb dz_746 (by decide) ?_
  refine lv_iadd hx hb dz_747 ?_
  refine ow_topi (y := nI (6 * n + 2)) (nI_add (6 * n) 2) ?_
  refine va_sld hx hb hX hbl hbA hM.2.2.2.2.2 (vp_in_nI (n := 6 * n + 2) (N := L) (by omega) (by omega)) dz_748 ?_
  refine ow_topi (y := x2) ((congrArg xs (nI_clamp (by omega))).trans e2) ?_
  refine lv_aload_n hx hb dz_749 rfl (lv_at hl 3 rfl) ?_
  obtain ⟨v2, zc1, hcq, hq⟩ := tw_cl1 hq
  refine lx_wrap hM (vx_runSX (As := [.ref (u 0), .int x1, .int x2, .ref (u 52001)]) (rest := []) ⟨hx, hb, hml, hown, hts⟩ (kl_L_apart l D q vl u hM.2.2.1.1 hG.1 sa K 0 x1 x2 (by unfold cw_X11 ci_X11; exact List.mem_singleton.mpr rfl) zc zc1 v2 hcq) (vx_cwSW 4 hts (lx_gS (lx_all wLL_good rfl) (lx_mem hL1 (hZ _ zq_108)) (hZ _ zq_109) (hZ _ zq_110) (hZ _ zq_3) rfl rfl rfl) rfl rfl rfl (by decide +kernel) ⟨(Nat.le_of_ble_eq_true rfl), (Nat.le_of_ble_eq_true rfl)⟩) (lx_preL hG hM) rfl rfl hl.1 rfl (lv_room (Nat.le_of_ble_eq_true rfl)) dz_750 ⟨(by show _ ≤ 601024; omega), (by show _ ≤ 7293033; omega)⟩) (fun H locs hM => ?_)
  refine lv_istore (lv' := [(5, .int v2), (0, .ref b), (1, .ref (u 0)), (2, .ref (w 0)), (3, .ref (u 52001)), (4, .int (nI (6 * n)))]) hx hb dz_753 hl (by decide) rfl (fun ls hl => ?_)
  refine lv_aload_n hx hb dz_755 rfl (lv_at hl 3 rfl) ?_
  refine lv_aload_n hx hb dz_756 rfl (lv_at hl 1 rfl) ?_
  refine lv_iload hx hb dz_757 (lv_at hl 5 rfl) ?_
  refine lv_iconst (v := 1) hx hb dz_759 (by decide) ?_
  refine lv_iadd hx hb dz_760 ?_
  refine ow_topi (y := nI (6 * n + 1)) (nI_add (6 * n) 1) ?_
  refine va_sld hx hb hX hbl hbA hM.2.2.2.2.2 (vp_in_nI (n := 6 * n + 1) (N := L) (by omega) (by omega)) dz_761 ?_
  refine ow_topi (y := x1) ((congrArg xs (nI_clamp (by omega))).trans e1) ?_
  refine lv_aload_n hx hb dz_762 rfl (lv_at hl 1 rfl) ?_
  refine lv_iload hx hb dz_763 (lv_at hl 5 rfl) ?_
  refine lv_iconst (v := 2) hx hb dz_765 (by decide) ?_
  refine lv_iadd hx hb dz_766 ?_
  refine ow_topi (y := nI (6 * n + 2)) (nI_add (6 * n) 2) ?_
  refine va_sld hx hb hX hbl hbA hM.2.2.2.2.2 (vp_in_nI (n := 6 * n + 2) (N := L) (by omega) (by omega)) dz_767 ?_
  refine ow_topi (y := x2) ((congrArg xs (nI_clamp (by omega))).trans e2) ?_
  obtain ⟨v4, zm3, hcq, hq⟩ := tw_cl1 hq
  refine lx_refi hM (va_runV (As := [.int x1, .int x2]) (rest := []) ⟨hx, hb, hml, hown, hts⟩ (km_X13_apart l D q5 w hM.2.2.2.1.1 K x1 x2 zm zm3 v4 hcq) (cwV 2 hts (lx_gV (lx_all wM_good rfl) (lx_mem hM1 (hZ _ zq_111)) (hZ _ zq_112) (hZ _ zq_113) (hZ _ zq_114) (hZ _ zq_8) rfl rfl rfl rfl) rfl rfl rfl cd_X13_apart ⟨(Nat.le_of_ble_eq_true rfl), (Nat.le_of_ble_eq_true rfl)⟩) (lx_preM hG hM) rfl rfl hl.1 rfl (lv_room (Nat.le_of_ble_eq_true rfl)) dz_768 ⟨(by show _ ≤ 601024; omega), (by show _ ≤ 7293033; omega)⟩) (fun H locs hM => ?_)
  refine lv_istore (lv' := [(6, .int v4), (5, .int v2), (0, .ref b), (1, .ref (u 0)), (2, .ref (w 0)), (3, .ref (u 52001)), (4, .int (nI (6 * n)))]) hx hb dz_771 hl (by decide) rfl (fun ls hl => ?_)
  refine lv_goto (tgt := 1682) hx hb dz_773 (by decide) ?_
  exact kk _ _ H locs ls hM (lv_sub hl [2, 3, 4, 5, 6] rfl) hq
theorem dz_776 : decode cL_law 776 = .ok (.aload_n 1, 1) := dw_at dwl_6 (p := 56) rfl (by decide +kernel)
theorem dz_777 : decode cL_law 777 = .ok (.aload_n 0, 1) := dw_at dwl_6 (p := 57) rfl (by decide +kernel)
theorem dz_778 : decode cL_law 778 = .ok (.iload 4, 2) := dw_at dwl_6 (p := 58) rfl (by decide +kernel)
theorem dz_780 : decode cL_law 780 = .ok (.iconst 1, 1) := dw_at dwl_6 (p := 60) rfl (by decide +kernel)
theorem dz_781 : decode cL_law 781 = .ok (.iadd, 1) := dw_at dwl_6 (p := 61) rfl (by decide +kernel)
theorem dz_782 : decode cL_law 782 = .ok (.iaload, 1) := dw_at dwl_6 (p := 62) rfl (by decide +kernel)
theorem dz_783 : decode cL_law 783 = .ok (.aload_n 0, 1) := dw_at dwl_6 (p := 63) rfl (by decide +kernel)
theorem dz_784 : decode cL_law 784 = .ok (.iload 4, 2) := dw_at dwl_6 (p := 64) rfl (by decide +kernel)
theorem dz_786 : decode cL_law 786 = .ok (.iconst 2, 1) := dw_at dwl_6 (p := 66) rfl (by decide +kernel)
theorem dz_787 : decode cL_law 787 = .ok (.iadd, 1) := dw_at dwl_6 (p := 67) rfl (by decide +kernel)
theorem dz_788 : decode cL_law 788 = .ok (.iaload, 1) := dw_at dwl_6 (p := 68) rfl (by decide +kernel)
theorem dz_789 : decode cL_law 789 = .ok (.aload_n 0, 1) := dw_at dwl_6 (p := 69) rfl (by decide +kernel)
theorem dz_790 : decode cL_law 790 = .ok (.iload 4, 2) := dw_at dwl_6 (p := 70) rfl (by decide +kernel)
theorem dz_792 : decode cL_law 792 = .ok (.iconst 3, 1) := dw_at dwl_6 (p := 72) rfl (by decide +kernel)
theorem dz_793 : decode cL_law 793 = .ok (.iadd, 1) := dw_at dwl_6 (p := 73) rfl (by decide +kernel)
theorem dz_794 : decode cL_law 794 = .ok (.iaload, 1) := dw_at dwl_6 (p := 74) rfl (by decide +kernel)
theorem dz_795 : decode cL_law 795 = .ok (.aload_n 0, 1) := dw_at dwl_6 (p := 75) rfl (by decide +kernel)
theorem dz_796 : decode cL_law 796 = .ok (.iload 4, 2) := dw_at dwl_6 (p := 76) rfl (by decide +kernel)
theorem dz_798 : decode cL_law 798 = .ok (.iconst 4, 1) := dw_at dwl_6 (p := 78) rfl (by decide +kernel)
theorem dz_799 : decode cL_law 799 = .ok (.iadd, 1) := dw_at dwl_6 (p := 79) rfl (by decide +kernel)
theorem dz_800 : decode cL_law 800 = .ok (.iaload, 1) := dw_at dwl_6 (p := 80) rfl (by decide +kernel)
theorem dz_801 : decode cL_law 801 = .ok (.aload_n 3, 1) := dw_at dwl_6 (p := 81) rfl (by decide +kernel)
theorem dz_802 : decode cL_law 802 = .ok (.invokestatic 189, 3) := dw_at dwl_6 (p := 82) rfl (by decide +kernel)
theorem dz_805 : decode cL_law 805 = .ok (.istore 5, 2) := dw_at dwl_6 (p := 85) rfl (by decide +kernel)
theorem dz_807 : decode cL_law 807 = .ok (.aload_n 2, 1) := dw_at dwl_6 (p := 87) rfl (by decide +kernel)
theorem dz_808 : decode cL_law 808 = .ok (.aload_n 0, 1) := dw_at dwl_6 (p := 88) rfl (by decide +kernel)
theorem dz_809 : decode cL_law 809 = .ok (.iload 4, 2) := dw_at dwl_6 (p := 89) rfl (by decide +kernel)
theorem dz_811 : decode cL_law 811 = .ok (.iconst 1, 1) := dw_at dwl_6 (p := 91) rfl (by decide +kernel)
theorem dz_812 : decode cL_law 812 = .ok (.iadd, 1) := dw_at dwl_6 (p := 92) rfl (by decide +kernel)
theorem dz_813 : decode cL_law 813 = .ok (.iaload, 1) := dw_at dwl_6 (p := 93) rfl (by decide +kernel)
theorem dz_814 : decode cL_law 814 = .ok (.aload_n 0, 1) := dw_at dwl_6 (p := 94) rfl (by decide +kernel)
theorem dz_815 : decode cL_law 815 = .ok (.iload 4, 2) := dw_at dwl_6 (p := 95) rfl (by decide +kernel)
theorem dz_817 : decode cL_law 817 = .ok (.iconst 2, 1) := dw_at dwl_6 (p := 97) rfl (by decide +kernel)
theorem dz_818 : decode cL_law 818 = .ok (.iadd, 1) := dw_at dwl_6 (p := 98) rfl (by decide +kernel)
theorem dz_819 : decode cL_law 819 = .ok (.iaload, 1) := dw_at dwl_6 (p := 99) rfl (by decide +kernel)
theorem dz_820 : decode cL_law 820 = .ok (.aload_n 0, 1) := dw_at dwl_6 (p := 100) rfl (by decide +kernel)
theorem dz_821 : decode cL_law 821 = .ok (.iload 4, 2) := dw_at dwl_6 (p := 101) rfl (by decide +kernel)
theorem dz_823 : decode cL_law 823 = .ok (.iconst 3, 1) := dw_at dwl_6 (p := 103) rfl (by decide +kernel)
theorem dz_824 : decode cL_law 824 = .ok (.iadd, 1) := dw_at dwl_6 (p := 104) rfl (by decide +kernel)
theorem dz_825 : decode cL_law 825 = .ok (.iaload, 1) := dw_at dwl_6 (p := 105) rfl (by decide +kernel)
theorem dz_826 : decode cL_law 826 = .ok (.aload_n 0, 1) := dw_at dwl_6 (p := 106) rfl (by decide +kernel)
theorem dz_827 : decode cL_law 827 = .ok (.iload 4, 2) := dw_at dwl_6 (p := 107) rfl (by decide +kernel)
theorem dz_829 : decode cL_law 829 = .ok (.iconst 4, 1) := dw_at dwl_6 (p := 109) rfl (by decide +kernel)
theorem dz_830 : decode cL_law 830 = .ok (.iadd, 1) := dw_at dwl_6 (p := 110) rfl (by decide +kernel)
theorem dz_831 : decode cL_law 831 = .ok (.iaload, 1) := dw_at dwl_6 (p := 111) rfl (by decide +kernel)
theorem dz_832 : decode cL_law 832 = .ok (.invokevirtual 192, 3) := dw_at dwl_6 (p := 112) rfl (by decide +kernel)
theorem dz_835 : decode cL_law 835 = .ok (.istore 6, 2) := dw_at dwl_6 (p := 115) rfl (by decide +kernel)
theorem dz_837 : decode cL_law 837 = .ok (.goto 845, 3) := dw_at dwl_6 (p := 117) rfl (by decide +kernel)
def ltp_join (vl : Nat → Nat) (K : Nat) (x1 : Int32) (x2 : Int32) (x3 : Int32) (x4 : Int32) (x5 : Int32) (zc zm : ow_MS) : Option ow_LwS :=
 cs1 (le_L_join vl K 0 x1 x2 x3 x4 zc) fun v2 zc1 => cs1 (qe_X13_join K x1 x2 x3 x4 zm) fun v4 zm3 => some (vl, zc1, zm3)
set_option maxHeartbeats 4000000 in
set_option maxRecDepth 100000 in
theorem lxc_join {p : Program} {l : Launch} {e : Env} {s : State} {m : MethodId} {args : Array Value} {below : List Frame} {meth : Method} {c : Code} {b L K n : Nat} {xs : Nat → Int32} {D : va_G} {q : Nat → ClassId} {q5 : ow_Q5} {vl u w sa : Nat → Nat} {zc zm : ow_MS} {S1 : ow_LwS} {Ts : List Cond} {Q : State → Prop} {H : Heap} {locs : List Loc} {ls : Array Slot} {cells slots : Nat} (hx : p.tables.exec = Jvm.exec) (hb : c.code = cL_law) (hml : c.maxLocals = 8) (hown : s.vm.findClass RL = some m.cls) (hts : ∀ w ∈ Ts, w.before args s = true) (hX : va_X b L xs s s.heap) (hbl : b < s.heap.size) (hZ : ∀ w ∈ wZ, w ∈ Ts) (hL1 : ∀ w ∈ wLL, w ∈ Ts) (hC1 : ∀ w ∈ wC, w ∈ Ts) (hM1 : ∀ w ∈ wM, w ∈ Ts) (hG : lx_G l s D q q5 sa) (hLn : L ≤ 3072) (hn : 6 * n + 6 ≤ L) (hq : ltp_join vl K (xs (6 * n + 1)) (xs (6 * n + 2)) (xs (6 * n + 3)) (xs (6 * n + 4)) (xs (6 * n + 5)) zc zm = some S1) (hM : lx_M D q q5 s vl u w zc zm H locs) (hl : lv_has ls 8 [(0, .ref b), (1, .ref (u 0)), (2, .ref (w 0)), (3, .ref (u 52001)), (4, .int (nI (6 * n)))]) (hc : cells + 5 ≤ 601024) (hs : slots + 30 ≤ 7293033) (kk : ∀ (zc1 zm1 : ow_MS) (H1 : Heap) (locs1 : List Loc) (ls1 : Array Slot), lx_M D q q5 s vl u w zc1 zm1 H1 locs1 → lv_has ls1 8 [(0, .ref b), (1, .ref (u 0)), (2, .ref (w 0)), (3, .ref (u 52001)), (4, .int (nI (6 * n)))] → some (vl, zc1, zm1) = some S1 → W p l e room_1 s m args below meth c H1 locs1 (cells + 5) (slots + 30) Q (F0 m 1682 ls1 [])) : W p l e room_1 s m args below meth c H locs cells slots Q (F0 m 776 ls []) := by
  have hbA : ¬ lx_A s b := Nat.not_le.mpr hbl
  generalize e1 : xs (6 * n + 1) = x1 at hq
  generalize e2 : xs (6 * n + 2) = x2 at hq
  generalize e3 : xs (6 * n + 3) = x3 at hq
  generalize e4 : xs (6 * n + 4) = x4 at hq
  generalize e5 : xs (6 * n + 5) = x5 at hq
  unfold ltp_join at hq
  refine lv_aload_n hx hb dz_776 rfl (lv_at hl 1 rfl) ?_
  refine lv_aload_n hx hb dz_777 rfl (lv_at hl 0 rfl) ?_
  refine lv_iload hx hb dz_778 (lv_at hl 4 rfl) ?_
  refine lv_iconst (v := 1) hx hb dz_780 (by decide) ?_
  refine lv_iadd hx hb dz_781 ?_
  refine ow_topi (y := nI (6 * n + 1)) (nI_add (6 * n) 1) ?_
  refine va_sld hx hb hX hbl hbA hM.2.2.2.2.2 (vp_in_nI (n := 6 * n + 1) (N := L) (by omega) (by omega)) dz_782 ?_
  refine ow_topi (y := x1) ((congrArg xs (nI_clamp (by omega))).trans e1) ?_
  refine lv_aload_n hx hb dz_783 rfl (lv_at hl 0 rfl) ?_
  refine lv_iload hx hb dz_784 (lv_at hl 4 rfl) ?_
  refine lv_iconst (v := 2) hx hb dz_786 (by decide) ?_
  refine lv_iadd hx hb dz_787 ?_
  refine ow_topi (y := nI (6 * n + 2)) (nI_add (6 * n) 2) ?_
  refine va_sld hx hb hX hbl hbA hM.2.2.2.2.2 (vp_in_nI (n := 6 * n + 2) (N := L) (by omega) (by omega)) dz_788 ?_
  refine ow_topi (y := x2) ((congrArg xs (nI_clamp (by omega))).trans e2) ?_
  refine lv_aload_n hx hb dz_789 rfl (lv_at hl 0 rfl) ?_
  refine lv_iload hx hb dz_790 (lv_at hl 4 rfl) ?_
  refine lv_iconst (v := 3) hx hb dz_792 (by decide) ?_
  refine lv_iadd hx hb dz_793 ?_
  refine ow_topi (y := nI (6 * n + 3)) (nI_add (6 * n) 3) ?_
  refine va_sld hx hb hX hbl hbA hM.2.2.2.2.2 (vp_in_nI (n := 6 * n + 3) (N := L) (by omega) (by omega)) dz_794 ?_
  refine ow_topi (y := x3) ((congrArg xs (nI_clamp (by omega))).trans e3) ?_
  refine lv_aload_n hx hb dz_795 rfl (lv_at hl 0 rfl) ?_
  refine lv_iload hx hb dz_796 (lv_at hl 4 rfl) ?_
  refine lv_iconst (v := 4) hx hb dz_798 (by decide) ?_
  refine lv_iadd hx hb dz_799 ?_
  refine ow_topi (y := nI (6 * n + 4)) (nI_add (6 * n) 4) ?_
  refine va_sld hx hb hX hbl hbA hM.2.2.2.2.2 (vp_in_nI (n := 6 * n + 4) (N := L) (by omega) (by omega)) dz_800 ?_
  refine ow_topi (y := x4) ((congrArg xs (nI_clamp (by omega))).trans e4) ?_
  refine lv_aload_n hx hb dz_801 rfl (lv_at hl 3 rfl) ?_
  obtain ⟨v2, zc1, hcq, hq⟩ := tw_cl1 hq
  refine lx_wrap hM (vx_runSX (As := [.ref (u 0), .int x1, .int x2, .int x3, .int x4, .ref (u 52001)]) (rest := []) ⟨hx, hb, hml, hown, hts⟩ (kl_L_join l D q vl u hM.2.2.1.1 hG.1 sa K 0 x1 x2 x3 x4 (by unfold cw_X11 ci_X11; exact List.mem_singleton.mpr rfl) zc zc1 v2 hcq) (vx_cwSW 6 hts (lx_gS (lx_all wLL_good rfl) (lx_mem hL1 (hZ _ zq_115)) (hZ _ zq_116) (hZ _ zq_117) (hZ _ zq_3) rfl rfl rfl) rfl rfl rfl (by decide +kernel) ⟨(Nat.le_of_ble_eq_true rfl), (Nat.le_of_ble_eq_true rfl)⟩) (lx_preL hG hM) rfl rfl hl.1 rfl (lv_room (Nat.le_of_ble_eq_true rfl)) dz_802 ⟨(by show _ ≤ 601024; omega), (by show _ ≤ 7293033; omega)⟩) (fun H locs hM => ?_)
  refine lv_istore (lv' := [(5, .int v2), (0, .ref b), (1, .ref (u 0)), (2, .ref (w 0)), (3, .ref (u 52001)), (4, .int (nI (6 * n)))]) hx hb dz_805 hl (by decide) rfl (fun ls hl => ?_)
  refine lv_aload_n hx hb dz_807 rfl (lv_at hl 3 rfl) ?_
  refine lv_aload_n hx hb dz_808 rfl (lv_at hl 1 rfl) ?_
  refine lv_iload hx hb dz_809 (lv_at hl 5 rfl) ?_
  refine lv_iconst (v := 1) hx hb dz_811 (by decide) ?_
  refine lv_iadd hx hb dz_812 ?_
  refine ow_topi (y := nI (6 * n + 1)) (nI_add (6 * n) 1) ?_
  refine va_sld hx hb hX hbl hbA hM.2.2.2.2.2 (vp_in_nI (n := 6 * n + 1) (N := L) (by omega) (by omega)) dz_813 ?_
  refine ow_topi (y := x1) ((congrArg xs (nI_clamp (by omega))).trans e1) ?_
  refine lv_aload_n hx hb dz_814 rfl (lv_at hl 1 rfl) ?_
  refine lv_iload hx hb dz_815 (lv_at hl 5 rfl) ?_
  refine lv_iconst (v := 2) hx hb dz_817 (by decide) ?_
  refine lv_iadd hx hb dz_818 ?_
  refine ow_topi (y := nI (6 * n + 2)) (nI_add (6 * n) 2) ?_
  refine va_sld hx hb hX hbl hbA hM.2.2.2.2.2 (vp_in_nI (n := 6 * n + 2) (N := L) (by omega) (by omega)) dz_819 ?_
  refine ow_topi (y := x2) ((congrArg xs (nI_clamp (by omega))).trans e2) ?_
  refine lv_aload_n hx hb dz_820 rfl (lv_at hl 1 rfl) ?_
  refine lv_iload hx hb dz_821 (lv_at hl 5 rfl) ?_
  refine lv_iconst (v := 3) hx hb dz_823 (by decide) ?_
  refine lv_iadd hx hb dz_824 ?_
  refine ow_topi (y := nI (6 * n + 3)) (nI_add (6 * n) 3) ?_
  refine va_sld hx hb hX hbl hbA hM.2.2.2.2.2 (vp_in_nI (n := 6 * n + 3) (N := L) (by omega) (by omega)) dz_825 ?_
  refine ow_topi (y := x3) ((congrArg xs (nI_clamp (by omega))).trans e3) ?_
  refine lv_aload_n hx hb dz_826 rfl (lv_at hl 1 rfl) ?_
  refine lv_iload hx hb dz_827 (lv_at hl 5 rfl) ?_
  refine lv_iconst (v := 4) hx hb dz_829 (by decide) ?_
  refine lv_iadd hx hb dz_830 ?_
  refine ow_topi (y := nI (6 * n + 4)) (nI_add (6 * n) 4) ?_
  refine va_sld hx hb hX hbl hbA hM.2.2.2.2.2 (vp_in_nI (n := 6 * n + 4) (N := L) (by omega) (by omega)) dz_831 ?_
  refine ow_topi (y := x4) ((congrArg xs (nI_clamp (by omega))).trans e4) ?_
  obtain ⟨v4, zm3, hcq, hq⟩ := tw_cl1 hq
  refine lx_refi hM (va_runV (As := [.int x1, .int x2, .int x3, .int x4]) (rest := []) ⟨hx, hb, hml, hown, hts⟩ (km_X13_join l D q5 w hM.2.2.2.1.1 K x1 x2 x3 x4 zm zm3 v4 hcq) (cwV 4 hts (lx_gV (lx_all wM_good rfl) (lx_mem hM1 (hZ _ zq_118)) (hZ _ zq_119) (hZ _ zq_120) (hZ _ zq_121) (hZ _ zq_8) rfl rfl rfl rfl) rfl rfl rfl cd_X13_join ⟨(Nat.le_of_ble_eq_true rfl), (Nat.le_of_ble_eq_true rfl)⟩) (lx_preM hG hM) rfl rfl hl.1 rfl (lv_room (Nat.le_of_ble_eq_true rfl)) dz_832 ⟨(by show _ ≤ 601024; omega), (by show _ ≤ 7293033; omega)⟩) (fun H locs hM => ?_)
  refine lv_istore (lv' := [(6, .int v4), (5, .int v2), (0, .ref b), (1, .ref (u 0)), (2, .ref (w 0)), (3, .ref (u 52001)), (4, .int (nI (6 * n)))]) hx hb dz_835 hl (by decide) rfl (fun ls hl => ?_)
  refine lv_goto (tgt := 1682) hx hb dz_837 (by decide) ?_
  exact kk _ _ H locs ls hM (lv_sub hl [2, 3, 4, 5, 6] rfl) hq
theorem dz_840 : decode cL_law 840 = .ok (.aload_n 1, 1) := dw_at dwl_7 (p := 0) rfl (by decide +kernel)
theorem dz_841 : decode cL_law 841 = .ok (.aload_n 0, 1) := dw_at dwl_7 (p := 1) rfl (by decide +kernel)
theorem dz_842 : decode cL_law 842 = .ok (.iload 4, 2) := dw_at dwl_7 (p := 2) rfl (by decide +kernel)
theorem dz_844 : decode cL_law 844 = .ok (.iconst 1, 1) := dw_at dwl_7 (p := 4) rfl (by decide +kernel)
theorem dz_845 : decode cL_law 845 = .ok (.iadd, 1) := dw_at dwl_7 (p := 5) rfl (by decide +kernel)
theorem dz_846 : decode cL_law 846 = .ok (.iaload, 1) := dw_at dwl_7 (p := 6) rfl (by decide +kernel)
theorem dz_847 : decode cL_law 847 = .ok (.aload_n 0, 1) := dw_at dwl_7 (p := 7) rfl (by decide +kernel)
theorem dz_848 : decode cL_law 848 = .ok (.iload 4, 2) := dw_at dwl_7 (p := 8) rfl (by decide +kernel)
theorem dz_850 : decode cL_law 850 = .ok (.iconst 2, 1) := dw_at dwl_7 (p := 10) rfl (by decide +kernel)
theorem dz_851 : decode cL_law 851 = .ok (.iadd, 1) := dw_at dwl_7 (p := 11) rfl (by decide +kernel)
theorem dz_852 : decode cL_law 852 = .ok (.iaload, 1) := dw_at dwl_7 (p := 12) rfl (by decide +kernel)
theorem dz_853 : decode cL_law 853 = .ok (.aload_n 3, 1) := dw_at dwl_7 (p := 13) rfl (by decide +kernel)
theorem dz_854 : decode cL_law 854 = .ok (.invokestatic 193, 3) := dw_at dwl_7 (p := 14) rfl (by decide +kernel)
theorem dz_857 : decode cL_law 857 = .ok (.istore 5, 2) := dw_at dwl_7 (p := 17) rfl (by decide +kernel)
theorem dz_859 : decode cL_law 859 = .ok (.aload_n 2, 1) := dw_at dwl_7 (p := 19) rfl (by decide +kernel)
theorem dz_860 : decode cL_law 860 = .ok (.aload_n 0, 1) := dw_at dwl_7 (p := 20) rfl (by decide +kernel)
theorem dz_861 : decode cL_law 861 = .ok (.iload 4, 2) := dw_at dwl_7 (p := 21) rfl (by decide +kernel)
theorem dz_863 : decode cL_law 863 = .ok (.iconst 1, 1) := dw_at dwl_7 (p := 23) rfl (by decide +kernel)
theorem dz_864 : decode cL_law 864 = .ok (.iadd, 1) := dw_at dwl_7 (p := 24) rfl (by decide +kernel)
theorem dz_865 : decode cL_law 865 = .ok (.iaload, 1) := dw_at dwl_7 (p := 25) rfl (by decide +kernel)
theorem dz_866 : decode cL_law 866 = .ok (.aload_n 0, 1) := dw_at dwl_7 (p := 26) rfl (by decide +kernel)
theorem dz_867 : decode cL_law 867 = .ok (.iload 4, 2) := dw_at dwl_7 (p := 27) rfl (by decide +kernel)
theorem dz_869 : decode cL_law 869 = .ok (.iconst 2, 1) := dw_at dwl_7 (p := 29) rfl (by decide +kernel)
theorem dz_870 : decode cL_law 870 = .ok (.iadd, 1) := dw_at dwl_7 (p := 30) rfl (by decide +kernel)
theorem dz_871 : decode cL_law 871 = .ok (.iaload, 1) := dw_at dwl_7 (p := 31) rfl (by decide +kernel)
theorem dz_872 : decode cL_law 872 = .ok (.invokevirtual 195, 3) := dw_at dwl_7 (p := 32) rfl (by decide +kernel)
theorem dz_875 : decode cL_law 875 = .ok (.istore 6, 2) := dw_at dwl_7 (p := 35) rfl (by decide +kernel)
theorem dz_877 : decode cL_law 877 = .ok (.goto 805, 3) := dw_at dwl_7 (p := 37) rfl (by decide +kernel)
def ltp_moves (vl : Nat → Nat) (K : Nat) (x1 : Int32) (x2 : Int32) (x3 : Int32) (x4 : Int32) (x5 : Int32) (zc zm : ow_MS) : Option ow_LwS :=
 cs1 (le_L_moves vl K 0 x1 x2 zc) fun v2 zc1 => cs1 (qe_X13_moves K x1 x2 zm) fun v4 zm3 => some (vl, zc1, zm3)
set_option maxHeartbeats 4000000 in
set_option maxRecDepth 100000 in
theorem lxc_moves {p : Program} {l : Launch} {e : Env} {s : State} {m : MethodId} {args : Array Value} {below : List Frame} {meth : Method} {c : Code} {b L K n : Nat} {xs : Nat → Int32} {D : va_G} {q : Nat → ClassId} {q5 : ow_Q5} {vl u w sa : Nat → Nat} {zc zm : ow_MS} {S1 : ow_LwS} {Ts : List Cond} {Q : State → Prop} {H : Heap} {locs : List Loc} {ls : Array Slot} {cells slots : Nat} (hx : p.tables.exec = Jvm.exec) (hb : c.code = cL_law) (hml : c.maxLocals = 8) (hown : s.vm.findClass RL = some m.cls) (hts : ∀ w ∈ Ts, w.before args s = true) (hX : va_X b L xs s s.heap) (hbl : b < s.heap.size) (hZ : ∀ w ∈ wZ, w ∈ Ts) (hL1 : ∀ w ∈ wLL, w ∈ Ts) (hC1 : ∀ w ∈ wC, w ∈ Ts) (hM1 : ∀ w ∈ wM, w ∈ Ts) (hG : lx_G l s D q q5 sa) (hLn : L ≤ 3072) (hn : 6 * n + 6 ≤ L) (hq : ltp_moves vl K (xs (6 * n + 1)) (xs (6 * n + 2)) (xs (6 * n + 3)) (xs (6 * n + 4)) (xs (6 * n + 5)) zc zm = some S1) (hM : lx_M D q q5 s vl u w zc zm H locs) (hl : lv_has ls 8 [(0, .ref b), (1, .ref (u 0)), (2, .ref (w 0)), (3, .ref (u 52001)), (4, .int (nI (6 * n)))]) (hc : cells + 2 ≤ 601024) (hs : slots + 12 ≤ 7293033) (kk : ∀ (zc1 zm1 : ow_MS) (H1 : Heap) (locs1 : List Loc) (ls1 : Array Slot), lx_M D q q5 s vl u w zc1 zm1 H1 locs1 → lv_has ls1 8 [(0, .ref b), (1, .ref (u 0)), (2, .ref (w 0)), (3, .ref (u 52001)), (4, .int (nI (6 * n)))] → some (vl, zc1, zm1) = some S1 → W p l e room_1 s m args below meth c H1 locs1 (cells + 2) (slots + 12) Q (F0 m 1682 ls1 [])) : W p l e room_1 s m args below meth c H locs cells slots Q (F0 m 840 ls []) := by
  have hbA : ¬ lx_A s b := Nat.not_le.mpr hbl
  generalize e1 : xs (6 * n + 1) = x1 at hq
  generalize e2 : xs (6 * n + 2) = x2 at hq
  generalize e3 : xs (6 * n + 3) = x3 at hq
  generalize e4 : xs (6 * n + 4) = x4 at hq
  generalize e5 : xs (6 * n + 5) = x5 at hq
  unfold ltp_moves at hq
  refine lv_aload_n hx hb dz_840 rfl (lv_at hl 1 rfl) ?_
  refine lv_aload_n hx hb dz_841 rfl (lv_at hl 0 rfl) ?_
  refine lv_iload hx hb dz_842 (lv_at hl 4 rfl) ?_
  refine lv_iconst (v := 1) hx hb dz_844 (by decide) ?_
  refine lv_iadd hx hb dz_845 ?_
  refine ow_topi (y := nI (6 * n + 1)) (nI_add (6 * n) 1) ?_
  refine va_sld hx hb hX hbl hbA hM.2.2.2.2.2 (vp_in_nI (n := 6 * n + 1) (N := L) (by omega) (by omega)) dz_846 ?_
  refine ow_topi (y := x1) ((congrArg xs (nI_clamp (by omega))).trans e1) ?_
  refine lv_aload_n hx hb dz_847 rfl (lv_at hl 0 rfl) ?_
  refine lv_iload hx hb dz_848 (lv_at hl 4 rfl) ?_
  refine lv_iconst (v := 2) hx hb dz_850 (by decide) ?_
  refine lv_iadd hx hb dz_851 ?_
  refine ow_topi (y := nI (6 * n + 2)) (nI_add (6 * n) 2) ?_
  refine va_sld hx hb hX hbl hbA hM.2.2.2.2.2 (vp_in_nI (n := 6 * n + 2) (N := L) (by omega) (by omega)) dz_852 ?_
  refine ow_topi (y := x2) ((congrArg xs (nI_clamp (by omega))).trans e2) ?_
  refine lv_aload_n hx hb dz_853 rfl (lv_at hl 3 rfl) ?_
  obtain ⟨v2, zc1, hcq, hq⟩ := tw_cl1 hq
  refine lx_wrap hM (vx_runSX (As := [.ref (u 0), .int x1, .int x2, .ref (u 52001)]) (rest := []) ⟨hx, hb, hml, hown, hts⟩ (kl_L_moves l D q vl u hM.2.2.1.1 hG.1 sa K 0 x1 x2 (by unfold cw_X11 ci_X11; exact List.mem_singleton.mpr rfl) zc zc1 v2 hcq) (vx_cwSW 4 hts (lx_gS (lx_all wLL_good rfl) (lx_mem hL1 (hZ _ zq_122)) (hZ _ zq_123) (hZ _ zq_124) (hZ _ zq_3) rfl rfl rfl) rfl rfl rfl (by decide +kernel) ⟨(Nat.le_of_ble_eq_true rfl), (Nat.le_of_ble_eq_true rfl)⟩) (lx_preL hG hM) rfl rfl hl.1 rfl (lv_room (Nat.le_of_ble_eq_true rfl)) dz_854 ⟨(by show _ ≤ 601024; omega), (by show _ ≤ 7293033; omega)⟩) (fun H locs hM => ?_)
  refine lv_istore (lv' := [(5, .int v2), (0, .ref b), (1, .ref (u 0)), (2, .ref (w 0)), (3, .ref (u 52001)), (4, .int (nI (6 * n)))]) hx hb dz_857 hl (by decide) rfl (fun ls hl => ?_)
  refine lv_aload_n hx hb dz_859 rfl (lv_at hl 3 rfl) ?_
  refine lv_aload_n hx hb dz_860 rfl (lv_at hl 1 rfl) ?_
  refine lv_iload hx hb dz_861 (lv_at hl 5 rfl) ?_
  refine lv_iconst (v := 1) hx hb dz_863 (by decide) ?_
  refine lv_iadd hx hb dz_864 ?_
  refine ow_topi (y := nI (6 * n + 1)) (nI_add (6 * n) 1) ?_
  refine va_sld hx hb hX hbl hbA hM.2.2.2.2.2 (vp_in_nI (n := 6 * n + 1) (N := L) (by omega) (by omega)) dz_865 ?_
  refine ow_topi (y := x1) ((congrArg xs (nI_clamp (by omega))).trans e1) ?_
  refine lv_aload_n hx hb dz_866 rfl (lv_at hl 1 rfl) ?_
  refine lv_iload hx hb dz_867 (lv_at hl 5 rfl) ?_
  refine lv_iconst (v := 2) hx hb dz_869 (by decide) ?_
  refine lv_iadd hx hb dz_870 ?_
  refine ow_topi (y := nI (6 * n + 2)) (nI_add (6 * n) 2) ?_
  refine va_sld hx hb hX hbl hbA hM.2.2.2.2.2 (vp_in_nI (n := 6 * n + 2) (N := L) (by omega) (by omega)) dz_871 ?_
  refine ow_topi (y := x2) ((congrArg xs (nI_clamp (by omega))).trans e2) ?_
  obtain ⟨v4, zm3, hcq, hq⟩ := tw_cl1 hq
  refine lx_refi hM (va_runV (As := [.int x1, .int x2]) (rest := []) ⟨hx, hb, hml, hown, hts⟩ (km_X13_moves l D q5 w hM.2.2.2.1.1 K x1 x2 zm zm3 v4 hcq) (cwV 2 hts (lx_gV (lx_all wM_good rfl) (lx_mem hM1 (hZ _ zq_125)) (hZ _ zq_126) (hZ _ zq_127) (hZ _ zq_128) (hZ _ zq_8) rfl rfl rfl rfl) rfl rfl rfl cd_X13_moves ⟨(Nat.le_of_ble_eq_true rfl), (Nat.le_of_ble_eq_true rfl)⟩) (lx_preM hG hM) rfl rfl hl.1 rfl (lv_room (Nat.le_of_ble_eq_true rfl)) dz_872 ⟨(by show _ ≤ 601024; omega), (by show _ ≤ 7293033; omega)⟩) (fun H locs hM => ?_)
  refine lv_istore (lv' := [(6, .int v4), (5, .int v2), (0, .ref b), (1, .ref (u 0)), (2, .ref (w 0)), (3, .ref (u 52001)), (4, .int (nI (6 * n)))]) hx hb dz_875 hl (by decide) rfl (fun ls hl => ?_)
  refine lv_goto (tgt := 1682) hx hb dz_877 (by decide) ?_
  exact kk _ _ H locs ls hM (lv_sub hl [2, 3, 4, 5, 6] rfl) hq
theorem dz_880 : decode cL_law 880 = .ok (.aload_n 1, 1) := dw_at dwl_7 (p := 40) rfl (by decide +kernel)
theorem dz_881 : decode cL_law 881 = .ok (.aload_n 0, 1) := dw_at dwl_7 (p := 41) rfl (by decide +kernel)
theorem dz_882 : decode cL_law 882 = .ok (.iload 4, 2) := dw_at dwl_7 (p := 42) rfl (by decide +kernel)
theorem dz_884 : decode cL_law 884 = .ok (.iconst 1, 1) := dw_at dwl_7 (p := 44) rfl (by decide +kernel)
theorem dz_885 : decode cL_law 885 = .ok (.iadd, 1) := dw_at dwl_7 (p := 45) rfl (by decide +kernel)
theorem dz_886 : decode cL_law 886 = .ok (.iaload, 1) := dw_at dwl_7 (p := 46) rfl (by decide +kernel)
theorem dz_887 : decode cL_law 887 = .ok (.aload_n 3, 1) := dw_at dwl_7 (p := 47) rfl (by decide +kernel)
theorem dz_888 : decode cL_law 888 = .ok (.invokestatic 196, 3) := dw_at dwl_7 (p := 48) rfl (by decide +kernel)
theorem dz_891 : decode cL_law 891 = .ok (.istore 5, 2) := dw_at dwl_7 (p := 51) rfl (by decide +kernel)
theorem dz_893 : decode cL_law 893 = .ok (.aload_n 2, 1) := dw_at dwl_7 (p := 53) rfl (by decide +kernel)
theorem dz_894 : decode cL_law 894 = .ok (.aload_n 0, 1) := dw_at dwl_7 (p := 54) rfl (by decide +kernel)
theorem dz_895 : decode cL_law 895 = .ok (.iload 4, 2) := dw_at dwl_7 (p := 55) rfl (by decide +kernel)
theorem dz_897 : decode cL_law 897 = .ok (.iconst 1, 1) := dw_at dwl_7 (p := 57) rfl (by decide +kernel)
theorem dz_898 : decode cL_law 898 = .ok (.iadd, 1) := dw_at dwl_7 (p := 58) rfl (by decide +kernel)
theorem dz_899 : decode cL_law 899 = .ok (.iaload, 1) := dw_at dwl_7 (p := 59) rfl (by decide +kernel)
theorem dz_900 : decode cL_law 900 = .ok (.invokevirtual 198, 3) := dw_at dwl_7 (p := 60) rfl (by decide +kernel)
theorem dz_903 : decode cL_law 903 = .ok (.istore 6, 2) := dw_at dwl_7 (p := 63) rfl (by decide +kernel)
theorem dz_905 : decode cL_law 905 = .ok (.goto 777, 3) := dw_at dwl_7 (p := 65) rfl (by decide +kernel)
def ltp_moved (vl : Nat → Nat) (K : Nat) (x1 : Int32) (x2 : Int32) (x3 : Int32) (x4 : Int32) (x5 : Int32) (zc zm : ow_MS) : Option ow_LwS :=
 cs1 (le_L_moved vl K 0 x1 zc) fun v2 zc1 => cs1 (qe_X13_moved K x1 zm) fun v4 zm3 => some (vl, zc1, zm3)
set_option maxHeartbeats 4000000 in
set_option maxRecDepth 100000 in
theorem lxc_moved {p : Program} {l : Launch} {e : Env} {s : State} {m : MethodId} {args : Array Value} {below : List Frame} {meth : Method} {c : Code} {b L K n : Nat} {xs : Nat → Int32} {D : va_G} {q : Nat → ClassId} {q5 : ow_Q5} {vl u w sa : Nat → Nat} {zc zm : ow_MS} {S1 : ow_LwS} {Ts : List Cond} {Q : State → Prop} {H : Heap} {locs : List Loc} {ls : Array Slot} {cells slots : Nat} (hx : p.tables.exec = Jvm.exec) (hb : c.code = cL_law) (hml : c.maxLocals = 8) (hown : s.vm.findClass RL = some m.cls) (hts : ∀ w ∈ Ts, w.before args s = true) (hX : va_X b L xs s s.heap) (hbl : b < s.heap.size) (hZ : ∀ w ∈ wZ, w ∈ Ts) (hL1 : ∀ w ∈ wLL, w ∈ Ts) (hC1 : ∀ w ∈ wC, w ∈ Ts) (hM1 : ∀ w ∈ wM, w ∈ Ts) (hG : lx_G l s D q q5 sa) (hLn : L ≤ 3072) (hn : 6 * n + 6 ≤ L) (hq : ltp_moved vl K (xs (6 * n + 1)) (xs (6 * n + 2)) (xs (6 * n + 3)) (xs (6 * n + 4)) (xs (6 * n + 5)) zc zm = some S1) (hM : lx_M D q q5 s vl u w zc zm H locs) (hl : lv_has ls 8 [(0, .ref b), (1, .ref (u 0)), (2, .ref (w 0)), (3, .ref (u 52001)), (4, .int (nI (6 * n)))]) (hc : cells + 2 ≤ 601024) (hs : slots + 12 ≤ 7293033) (kk : ∀ (zc1 zm1 : ow_MS) (H1 : Heap) (locs1 : List Loc) (ls1 : Array Slot), lx_M D q q5 s vl u w zc1 zm1 H1 locs1 → lv_has ls1 8 [(0, .ref b), (1, .ref (u 0)), (2, .ref (w 0)), (3, .ref (u 52001)), (4, .int (nI (6 * n)))] → some (vl, zc1, zm1) = some S1 → W p l e room_1 s m args below meth c H1 locs1 (cells + 2) (slots + 12) Q (F0 m 1682 ls1 [])) : W p l e room_1 s m args below meth c H locs cells slots Q (F0 m 880 ls []) := by
  have hbA : ¬ lx_A s b := Nat.not_le.mpr hbl
  generalize e1 : xs (6 * n + 1) = x1 at hq
  generalize e2 : xs (6 * n + 2) = x2 at hq
  generalize e3 : xs (6 * n + 3) = x3 at hq
  generalize e4 : xs (6 * n + 4) = x4 at hq
  generalize e5 : xs (6 * n + 5) = x5 at hq
  unfold ltp_moved at hq
  refine lv_aload_n hx hb dz_880 rfl (lv_at hl 1 rfl) ?_
  refine lv_aload_n hx hb dz_881 rfl (lv_at hl 0 rfl) ?_
  refine lv_iload hx hb dz_882 (lv_at hl 4 rfl) ?_
  refine lv_iconst (v := 1) hx hb dz_884 (by decide) ?_
  refine lv_iadd hx hb dz_885 ?_
  refine ow_topi (y := nI (6 * n + 1)) (nI_add (6 * n) 1) ?_
  refine va_sld hx hb hX hbl hbA hM.2.2.2.2.2 (vp_in_nI (n := 6 * n + 1) (N := L) (by omega) (by omega)) dz_886 ?_
  refine ow_topi (y := x1) ((congrArg xs (nI_clamp (by omega))).trans e1) ?_
  refine lv_aload_n hx hb dz_887 rfl (lv_at hl 3 rfl) ?_
  obtain ⟨v2, zc1, hcq, hq⟩ := tw_cl1 hq
  refine lx_wrap hM (vx_runSX (As := [.ref (u 0), .int x1, .ref (u 52001)]) (rest := []) ⟨hx, hb, hml, hown, hts⟩ (kl_L_moved l D q vl u hM.2.2.1.1 hG.1 sa K 0 x1 (by unfold cw_X11 ci_X11; exact List.mem_singleton.mpr rfl) zc zc1 v2 hcq) (vx_cwSW 3 hts (lx_gS (lx_all wLL_good rfl) (lx_mem hL1 (hZ _ zq_129)) (hZ _ zq_130) (hZ _ zq_131) (hZ _ zq_3) rfl rfl rfl) rfl rfl rfl (by decide +kernel) ⟨(Nat.le_of_ble_eq_true rfl), (Nat.le_of_ble_eq_true rfl)⟩) (lx_preL hG hM) rfl rfl hl.1 rfl (lv_room (Nat.le_of_ble_eq_true rfl)) dz_888 ⟨(by show _ ≤ 601024; omega), (by show _ ≤ 7293033; omega)⟩) (fun H locs hM => ?_)
  refine lv_istore (lv' := [(5, .int v2), (0, .ref b), (1, .ref (u 0)), (2, .ref (w 0)), (3, .ref (u 52001)), (4, .int (nI (6 * n)))]) hx hb dz_891 hl (by decide) rfl (fun ls hl => ?_)
  refine lv_aload_n hx hb dz_893 rfl (lv_at hl 3 rfl) ?_
  refine lv_aload_n hx hb dz_894 rfl (lv_at hl 1 rfl) ?_
  refine lv_iload hx hb dz_895 (lv_at hl 5 rfl) ?_
  refine lv_iconst (v := 1) hx hb dz_897 (by decide) ?_
  refine lv_iadd hx hb dz_898 ?_
  refine ow_topi (y := nI (6 * n + 1)) (nI_add (6 * n) 1) ?_
  refine va_sld hx hb hX hbl hbA hM.2.2.2.2.2 (vp_in_nI (n := 6 * n + 1) (N := L) (by omega) (by omega)) dz_899 ?_
  refine ow_topi (y := x1) ((congrArg xs (nI_clamp (by omega))).trans e1) ?_
  obtain ⟨v4, zm3, hcq, hq⟩ := tw_cl1 hq
  refine lx_refi hM (va_runV (As := [.int x1]) (rest := []) ⟨hx, hb, hml, hown, hts⟩ (km_X13_moved l D q5 w hM.2.2.2.1.1 K x1 zm zm3 v4 hcq) (cwV 1 hts (lx_gV (lx_all wM_good rfl) (lx_mem hM1 (hZ _ zq_132)) (hZ _ zq_133) (hZ _ zq_134) (hZ _ zq_135) (hZ _ zq_8) rfl rfl rfl rfl) rfl rfl rfl cd_X13_moved ⟨(Nat.le_of_ble_eq_true rfl), (Nat.le_of_ble_eq_true rfl)⟩) (lx_preM hG hM) rfl rfl hl.1 rfl (lv_room (Nat.le_of_ble_eq_true rfl)) dz_900 ⟨(by show _ ≤ 601024; omega), (by show _ ≤ 7293033; omega)⟩) (fun H locs hM => ?_)
  refine lv_istore (lv' := [(6, .int v4), (5, .int v2), (0, .ref b), (1, .ref (u 0)), (2, .ref (w 0)), (3, .ref (u 52001)), (4, .int (nI (6 * n)))]) hx hb dz_903 hl (by decide) rfl (fun ls hl => ?_)
  refine lv_goto (tgt := 1682) hx hb dz_905 (by decide) ?_
  exact kk _ _ H locs ls hM (lv_sub hl [2, 3, 4, 5, 6] rfl) hq
theorem dz_908 : decode cL_law 908 = .ok (.aload_n 1, 1) := dw_at dwl_7 (p := 68) rfl (by decide +kernel)
theorem dz_909 : decode cL_law 909 = .ok (.aload_n 0, 1) := dw_at dwl_7 (p := 69) rfl (by decide +kernel)
theorem dz_910 : decode cL_law 910 = .ok (.iload 4, 2) := dw_at dwl_7 (p := 70) rfl (by decide +kernel)
theorem dz_912 : decode cL_law 912 = .ok (.iconst 1, 1) := dw_at dwl_7 (p := 72) rfl (by decide +kernel)
theorem dz_913 : decode cL_law 913 = .ok (.iadd, 1) := dw_at dwl_7 (p := 73) rfl (by decide +kernel)
theorem dz_914 : decode cL_law 914 = .ok (.iaload, 1) := dw_at dwl_7 (p := 74) rfl (by decide +kernel)
theorem dz_915 : decode cL_law 915 = .ok (.aload_n 3, 1) := dw_at dwl_7 (p := 75) rfl (by decide +kernel)
theorem dz_916 : decode cL_law 916 = .ok (.invokestatic 199, 3) := dw_at dwl_7 (p := 76) rfl (by decide +kernel)
theorem dz_919 : decode cL_law 919 = .ok (.istore 5, 2) := dw_at dwl_7 (p := 79) rfl (by decide +kernel)
theorem dz_921 : decode cL_law 921 = .ok (.aload_n 2, 1) := dw_at dwl_7 (p := 81) rfl (by decide +kernel)
theorem dz_922 : decode cL_law 922 = .ok (.aload_n 0, 1) := dw_at dwl_7 (p := 82) rfl (by decide +kernel)
theorem dz_923 : decode cL_law 923 = .ok (.iload 4, 2) := dw_at dwl_7 (p := 83) rfl (by decide +kernel)
theorem dz_925 : decode cL_law 925 = .ok (.iconst 1, 1) := dw_at dwl_7 (p := 85) rfl (by decide +kernel)
theorem dz_926 : decode cL_law 926 = .ok (.iadd, 1) := dw_at dwl_7 (p := 86) rfl (by decide +kernel)
theorem dz_927 : decode cL_law 927 = .ok (.iaload, 1) := dw_at dwl_7 (p := 87) rfl (by decide +kernel)
theorem dz_928 : decode cL_law 928 = .ok (.invokevirtual 201, 3) := dw_at dwl_7 (p := 88) rfl (by decide +kernel)
theorem dz_931 : decode cL_law 931 = .ok (.istore 6, 2) := dw_at dwl_7 (p := 91) rfl (by decide +kernel)
theorem dz_933 : decode cL_law 933 = .ok (.goto 749, 3) := dw_at dwl_7 (p := 93) rfl (by decide +kernel)
def ltp_simplify (vl : Nat → Nat) (K : Nat) (x1 : Int32) (x2 : Int32) (x3 : Int32) (x4 : Int32) (x5 : Int32) (zc zm : ow_MS) : Option ow_LwS :=
 cs1 (le_L_simplify vl K 0 x1 zc) fun v2 zc1 => cs1 (qe_X13_simplify K x1 zm) fun v4 zm3 => some (vl, zc1, zm3)
set_option maxHeartbeats 4000000 in
set_option maxRecDepth 100000 in
theorem lxc_simplify {p : Program} {l : Launch} {e : Env} {s : State} {m : MethodId} {args : Array Value} {below : List Frame} {meth : Method} {c : Code} {b L K n : Nat} {xs : Nat → Int32} {D : va_G} {q : Nat → ClassId} {q5 : ow_Q5} {vl u w sa : Nat → Nat} {zc zm : ow_MS} {S1 : ow_LwS} {Ts : List Cond} {Q : State → Prop} {H : Heap} {locs : List Loc} {ls : Array Slot} {cells slots : Nat} (hx : p.tables.exec = Jvm.exec) (hb : c.code = cL_law) (hml : c.maxLocals = 8) (hown : s.vm.findClass RL = some m.cls) (hts : ∀ w ∈ Ts, w.before args s = true) (hX : va_X b L xs s s.heap) (hbl : b < s.heap.size) (hZ : ∀ w ∈ wZ, w ∈ Ts) (hL1 : ∀ w ∈ wLL, w ∈ Ts) (hC1 : ∀ w ∈ wC, w ∈ Ts) (hM1 : ∀ w ∈ wM, w ∈ Ts) (hG : lx_G l s D q q5 sa) (hLn : L ≤ 3072) (hn : 6 * n + 6 ≤ L) (hq : ltp_simplify vl K (xs (6 * n + 1)) (xs (6 * n + 2)) (xs (6 * n + 3)) (xs (6 * n + 4)) (xs (6 * n + 5)) zc zm = some S1) (hM : lx_M D q q5 s vl u w zc zm H locs) (hl : lv_has ls 8 [(0, .ref b), (1, .ref (u 0)), (2, .ref (w 0)), (3, .ref (u 52001)), (4, .int (nI (6 * n)))]) (hc : cells + 2 ≤ 601024) (hs : slots + 12 ≤ 7293033) (kk : ∀ (zc1 zm1 : ow_MS) (H1 : Heap) (locs1 : List Loc) (ls1 : Array Slot), lx_M D q q5 s vl u w zc1 zm1 H1 locs1 → lv_has ls1 8 [(0, .ref b), (1, .ref (u 0)), (2, .ref (w 0)), (3, .ref (u 52001)), (4, .int (nI (6 * n)))] → some (vl, zc1, zm1) = some S1 → W p l e room_1 s m args below meth c H1 locs1 (cells + 2) (slots + 12) Q (F0 m 1682 ls1 [])) : W p l e room_1 s m args below meth c H locs cells slots Q (F0 m 908 ls []) := by
  have hbA : ¬ lx_A s b := Nat.not_le.mpr hbl
  generalize e1 : xs (6 * n + 1) = x1 at hq
  generalize e2 : xs (6 * n + 2) = x2 at hq
  generalize e3 : xs (6 * n + 3) = x3 at hq
  generalize e4 : xs (6 * n + 4) = x4 at hq
  generalize e5 : xs (6 * n + 5) = x5 at hq
  unfold ltp_simplify at hq
  refine lv_aload_n hx hb dz_908 rfl (lv_at hl 1 rfl) ?_
  refine lv_aload_n hx hb dz_909 rfl (lv_at hl 0 rfl) ?_
  refine lv_iload hx hb dz_910 (lv_at hl 4 rfl) ?_
  refine lv_iconst (v := 1) hx hb dz_912 (by decide) ?_
  refine lv_iadd hx hb dz_913 ?_
  refine ow_topi (y := nI (6 * n + 1)) (nI_add (6 * n) 1) ?_
  refine va_sld hx hb hX hbl hbA hM.2.2.2.2.2 (vp_in_nI (n := 6 * n + 1) (N := L) (by omega) (by omega)) dz_914 ?_
  refine ow_topi (y := x1) ((congrArg xs (nI_clamp (by omega))).trans e1) ?_
  refine lv_aload_n hx hb dz_915 rfl (lv_at hl 3 rfl) ?_
  obtain ⟨v2, zc1, hcq, hq⟩ := tw_cl1 hq
  refine lx_wrap hM (vx_runSX (As := [.ref (u 0), .int x1, .ref (u 52001)]) (rest := []) ⟨hx, hb, hml, hown, hts⟩ (kl_L_simplify l D q vl u hM.2.2.1.1 hG.1 sa K 0 x1 (by unfold cw_X11 ci_X11; exact List.mem_singleton.mpr rfl) zc zc1 v2 hcq) (vx_cwSW 3 hts (lx_gS (lx_all wLL_good rfl) (lx_mem hL1 (hZ _ zq_136)) (hZ _ zq_137) (hZ _ zq_138) (hZ _ zq_3) rfl rfl rfl) rfl rfl rfl (by decide +kernel) ⟨(Nat.le_of_ble_eq_true rfl), (Nat.le_of_ble_eq_true rfl)⟩) (lx_preL hG hM) rfl rfl hl.1 rfl (lv_room (Nat.le_of_ble_eq_true rfl)) dz_916 ⟨(by show _ ≤ 601024; omega), (by show _ ≤ 7293033; omega)⟩) (fun H locs hM => ?_)
  refine lv_istore (lv' := [(5, .int v2), (0, .ref b), (1, .ref (u 0)), (2, .ref (w 0)), (3, .ref (u 52001)), (4, .int (nI (6 * n)))]) hx hb dz_919 hl (by decide) rfl (fun ls hl => ?_)
  refine lv_aload_n hx hb dz_921 rfl (lv_at hl 3 rfl) ?_
  refine lv_aload_n hx hb dz_922 rfl (lv_at hl 1 rfl) ?_
  refine lv_iload hx hb dz_923 (lv_at hl 5 rfl) ?_
  refine lv_iconst (v := 1) hx hb dz_925 (by decide) ?_
  refine lv_iadd hx hb dz_926 ?_
  refine ow_topi (y := nI (6 * n + 1)) (nI_add (6 * n) 1) ?_
  refine va_sld hx hb hX hbl hbA hM.2.2.2.2.2 (vp_in_nI (n := 6 * n + 1) (N := L) (by omega) (by omega)) dz_927 ?_
  refine ow_topi (y := x1) ((congrArg xs (nI_clamp (by omega))).trans e1) ?_
  obtain ⟨v4, zm3, hcq, hq⟩ := tw_cl1 hq
  refine lx_refi hM (va_runV (As := [.int x1]) (rest := []) ⟨hx, hb, hml, hown, hts⟩ (km_X13_simplify l D q5 w hM.2.2.2.1.1 K x1 zm zm3 v4 hcq) (cwV 1 hts (lx_gV (lx_all wM_good rfl) (lx_mem hM1 (hZ _ zq_139)) (hZ _ zq_140) (hZ _ zq_141) (hZ _ zq_142) (hZ _ zq_8) rfl rfl rfl rfl) rfl rfl rfl cd_X13_simplify ⟨(Nat.le_of_ble_eq_true rfl), (Nat.le_of_ble_eq_true rfl)⟩) (lx_preM hG hM) rfl rfl hl.1 rfl (lv_room (Nat.le_of_ble_eq_true rfl)) dz_928 ⟨(by show _ ≤ 601024; omega), (by show _ ≤ 7293033; omega)⟩) (fun H locs hM => ?_)
  refine lv_istore (lv' := [(6, .int v4), (5, .int v2), (0, .ref b), (1, .ref (u 0)), (2, .ref (w 0)), (3, .ref (u 52001)), (4, .int (nI (6 * n)))]) hx hb dz_931 hl (by decide) rfl (fun ls hl => ?_)
  refine lv_goto (tgt := 1682) hx hb dz_933 (by decide) ?_
  exact kk _ _ H locs ls hM (lv_sub hl [2, 3, 4, 5, 6] rfl) hq
theorem dz_936 : decode cL_law 936 = .ok (.aload_n 1, 1) := dw_at dwl_7 (p := 96) rfl (by decide +kernel)
theorem dz_937 : decode cL_law 937 = .ok (.aload_n 0, 1) := dw_at dwl_7 (p := 97) rfl (by decide +kernel)
theorem dz_938 : decode cL_law 938 = .ok (.iload 4, 2) := dw_at dwl_7 (p := 98) rfl (by decide +kernel)
theorem dz_940 : decode cL_law 940 = .ok (.iconst 1, 1) := dw_at dwl_7 (p := 100) rfl (by decide +kernel)
theorem dz_941 : decode cL_law 941 = .ok (.iadd, 1) := dw_at dwl_7 (p := 101) rfl (by decide +kernel)
theorem dz_942 : decode cL_law 942 = .ok (.iaload, 1) := dw_at dwl_7 (p := 102) rfl (by decide +kernel)
theorem dz_943 : decode cL_law 943 = .ok (.aload_n 0, 1) := dw_at dwl_7 (p := 103) rfl (by decide +kernel)
theorem dz_944 : decode cL_law 944 = .ok (.iload 4, 2) := dw_at dwl_7 (p := 104) rfl (by decide +kernel)
theorem dz_946 : decode cL_law 946 = .ok (.iconst 2, 1) := dw_at dwl_7 (p := 106) rfl (by decide +kernel)
theorem dz_947 : decode cL_law 947 = .ok (.iadd, 1) := dw_at dwl_7 (p := 107) rfl (by decide +kernel)
theorem dz_948 : decode cL_law 948 = .ok (.iaload, 1) := dw_at dwl_7 (p := 108) rfl (by decide +kernel)
theorem dz_949 : decode cL_law 949 = .ok (.aload_n 3, 1) := dw_at dwl_7 (p := 109) rfl (by decide +kernel)
theorem dz_950 : decode cL_law 950 = .ok (.invokestatic 202, 3) := dw_at dwl_7 (p := 110) rfl (by decide +kernel)
theorem dz_953 : decode cL_law 953 = .ok (.istore 5, 2) := dw_at dwl_7 (p := 113) rfl (by decide +kernel)
theorem dz_955 : decode cL_law 955 = .ok (.aload_n 2, 1) := dw_at dwl_7 (p := 115) rfl (by decide +kernel)
theorem dz_956 : decode cL_law 956 = .ok (.aload_n 0, 1) := dw_at dwl_7 (p := 116) rfl (by decide +kernel)
theorem dz_957 : decode cL_law 957 = .ok (.iload 4, 2) := dw_at dwl_7 (p := 117) rfl (by decide +kernel)
theorem dz_959 : decode cL_law 959 = .ok (.iconst 1, 1) := dw_at dwl_7 (p := 119) rfl (by decide +kernel)
theorem dz_960 : decode cL_law 960 = .ok (.iadd, 1) := dw_at dwl_8 (p := 0) rfl (by decide +kernel)
theorem dz_961 : decode cL_law 961 = .ok (.iaload, 1) := dw_at dwl_8 (p := 1) rfl (by decide +kernel)
theorem dz_962 : decode cL_law 962 = .ok (.aload_n 0, 1) := dw_at dwl_8 (p := 2) rfl (by decide +kernel)
theorem dz_963 : decode cL_law 963 = .ok (.iload 4, 2) := dw_at dwl_8 (p := 3) rfl (by decide +kernel)
theorem dz_965 : decode cL_law 965 = .ok (.iconst 2, 1) := dw_at dwl_8 (p := 5) rfl (by decide +kernel)
theorem dz_966 : decode cL_law 966 = .ok (.iadd, 1) := dw_at dwl_8 (p := 6) rfl (by decide +kernel)
theorem dz_967 : decode cL_law 967 = .ok (.iaload, 1) := dw_at dwl_8 (p := 7) rfl (by decide +kernel)
theorem dz_968 : decode cL_law 968 = .ok (.invokevirtual 204, 3) := dw_at dwl_8 (p := 8) rfl (by decide +kernel)
theorem dz_971 : decode cL_law 971 = .ok (.istore 6, 2) := dw_at dwl_8 (p := 11) rfl (by decide +kernel)
theorem dz_973 : decode cL_law 973 = .ok (.goto 709, 3) := dw_at dwl_8 (p := 13) rfl (by decide +kernel)
def ltp_way (vl : Nat → Nat) (K : Nat) (x1 : Int32) (x2 : Int32) (x3 : Int32) (x4 : Int32) (x5 : Int32) (zc zm : ow_MS) : Option ow_LwS :=
 cs1 (le_L_way vl K 0 x1 x2 zc) fun v2 zc1 => cs1 (qe_X13_way K x1 x2 zm) fun v4 zm3 => some (vl, zc1, zm3)
set_option maxHeartbeats 4000000 in
set_option maxRecDepth 100000 in
theorem lxc_way {p : Program} {l : Launch} {e : Env} {s : State} {m : MethodId} {args : Array Value} {below : List Frame} {meth : Method} {c : Code} {b L K n : Nat} {xs : Nat → Int32} {D : va_G} {q : Nat → ClassId} {q5 : ow_Q5} {vl u w sa : Nat → Nat} {zc zm : ow_MS} {S1 : ow_LwS} {Ts : List Cond} {Q : State → Prop} {H : Heap} {locs : List Loc} {ls : Array Slot} {cells slots : Nat} (hx : p.tables.exec = Jvm.exec) (hb : c.code = cL_law) (hml : c.maxLocals = 8) (hown : s.vm.findClass RL = some m.cls) (hts : ∀ w ∈ Ts, w.before args s = true) (hX : va_X b L xs s s.heap) (hbl : b < s.heap.size) (hZ : ∀ w ∈ wZ, w ∈ Ts) (hL1 : ∀ w ∈ wLL, w ∈ Ts) (hC1 : ∀ w ∈ wC, w ∈ Ts) (hM1 : ∀ w ∈ wM, w ∈ Ts) (hG : lx_G l s D q q5 sa) (hLn : L ≤ 3072) (hn : 6 * n + 6 ≤ L) (hq : ltp_way vl K (xs (6 * n + 1)) (xs (6 * n + 2)) (xs (6 * n + 3)) (xs (6 * n + 4)) (xs (6 * n + 5)) zc zm = some S1) (hM : lx_M D q q5 s vl u w zc zm H locs) (hl : lv_has ls 8 [(0, .ref b), (1, .ref (u 0)), (2, .ref (w 0)), (3, .ref (u 52001)), (4, .int (nI (6 * n)))]) (hc : cells + 3 ≤ 601024) (hs : slots + 18 ≤ 7293033) (kk : ∀ (zc1 zm1 : ow_MS) (H1 : Heap) (locs1 : List Loc) (ls1 : Array Slot), lx_M D q q5 s vl u w zc1 zm1 H1 locs1 → lv_has ls1 8 [(0, .ref b), (1, .ref (u 0)), (2, .ref (w 0)), (3, .ref (u 52001)), (4, .int (nI (6 * n)))] → some (vl, zc1, zm1) = some S1 → W p l e room_1 s m args below meth c H1 locs1 (cells + 3) (slots + 18) Q (F0 m 1682 ls1 [])) : W p l e room_1 s m args below meth c H locs cells slots Q (F0 m 936 ls []) := by
  have hbA : ¬ lx_A s b := Nat.not_le.mpr hbl
  generalize e1 : xs (6 * n + 1) = x1 at hq
  generalize e2 : xs (6 * n + 2) = x2 at hq
  generalize e3 : xs (6 * n + 3) = x3 at hq
  generalize e4 : xs (6 * n + 4) = x4 at hq
  generalize e5 : xs (6 * n + 5) = x5 at hq
  unfold ltp_way at hq
  refine lv_aload_n hx hb dz_936 rfl (lv_at hl 1 rfl) ?_
  refine lv_aload_n hx hb dz_937 rfl (lv_at hl 0 rfl) ?_
  refine lv_iload hx hb dz_938 (lv_at hl 4 rfl) ?_
  refine lv_iconst (v := 1) hx hb dz_940 (by decide) ?_
  refine lv_iadd hx hb dz_941 ?_
  refine ow_topi (y := nI (6 * n + 1)) (nI_add (6 * n) 1) ?_
  refine va_sld hx hb hX hbl hbA hM.2.2.2.2.2 (vp_in_nI (n := 6 * n + 1) (N := L) (by omega) (by omega)) dz_942 ?_
  refine ow_topi (y := x1) ((congrArg xs (nI_clamp (by omega))).trans e1) ?_
  refine lv_aload_n hx hb dz_943 rfl (lv_at hl 0 rfl) ?_
  refine lv_iload hx hb dz_944 (lv_at hl 4 rfl) ?_
  refine lv_iconst (v := 2) hx hb dz_946 (by decide) ?_
  refine lv_iadd hx hb dz_947 ?_
  refine ow_topi (y := nI (6 * n + 2)) (nI_add (6 * n) 2) ?_
  refine va_sld hx hb hX hbl hbA hM.2.2.2.2.2 (vp_in_nI (n := 6 * n + 2) (N := L) (by omega) (by omega)) dz_948 ?_
  refine ow_topi (y := x2) ((congrArg xs (nI_clamp (by omega))).trans e2) ?_
  refine lv_aload_n hx hb dz_949 rfl (lv_at hl 3 rfl) ?_
  obtain ⟨v2, zc1, hcq, hq⟩ := tw_cl1 hq
  refine lx_wrap hM (vx_runSX (As := [.ref (u 0), .int x1, .int x2, .ref (u 52001)]) (rest := []) ⟨hx, hb, hml, hown, hts⟩ (kl_L_way l D q vl u hM.2.2.1.1 hG.1 sa K 0 x1 x2 (by unfold cw_X11 ci_X11; exact List.mem_singleton.mpr rfl) zc zc1 v2 hcq) (vx_cwSW 4 hts (lx_gS (lx_all wLL_good rfl) (lx_mem hL1 (hZ _ zq_143)) (hZ _ zq_144) (hZ _ zq_145) (hZ _ zq_3) rfl rfl rfl) rfl rfl rfl (by decide +kernel) ⟨(Nat.le_of_ble_eq_true rfl), (Nat.le_of_ble_eq_true rfl)⟩) (lx_preL hG hM) rfl rfl hl.1 rfl (lv_room (Nat.le_of_ble_eq_true rfl)) dz_950 ⟨(by show _ ≤ 601024; omega), (by show _ ≤ 7293033; omega)⟩) (fun H locs hM => ?_)
  refine lv_istore (lv' := [(5, .int v2), (0, .ref b), (1, .ref (u 0)), (2, .ref (w 0)), (3, .ref (u 52001)), (4, .int (nI (6 * n)))]) hx hb dz_953 hl (by decide) rfl (fun ls hl => ?_)
  refine lv_aload_n hx hb dz_955 rfl (lv_at hl 3 rfl) ?_
  refine lv_aload_n hx hb dz_956 rfl (lv_at hl 1 rfl) ?_
  refine lv_iload hx hb dz_957 (lv_at hl 5 rfl) ?_
  refine lv_iconst (v := 1) hx hb dz_959 (by decide) ?_
  refine lv_iadd hx hb dz_960 ?_
  refine ow_topi (y := nI (6 * n + 1)) (nI_add (6 * n) 1) ?_
  refine va_sld hx hb hX hbl hbA hM.2.2.2.2.2 (vp_in_nI (n := 6 * n + 1) (N := L) (by omega) (by omega)) dz_961 ?_
  refine ow_topi (y := x1) ((congrArg xs (nI_clamp (by omega))).trans e1) ?_
  refine lv_aload_n hx hb dz_962 rfl (lv_at hl 1 rfl) ?_
  refine lv_iload hx hb dz_963 (lv_at hl 5 rfl) ?_
  refine lv_iconst (v := 2) hx hb dz_965 (by decide) ?_
  refine lv_iadd hx hb dz_966 ?_
  refine ow_topi (y := nI (6 * n + 2)) (nI_add (6 * n) 2) ?_
  refine va_sld hx hb hX hbl hbA hM.2.2.2.2.2 (vp_in_nI (n := 6 * n + 2) (N := L) (by omega) (by omega)) dz_967 ?_
  refine ow_topi (y := x2) ((congrArg xs (nI_clamp (by omega))).trans e2) ?_
  obtain ⟨v4, zm3, hcq, hq⟩ := tw_cl1 hq
  refine lx_refi hM (va_runV (As := [.int x1, .int x2]) (rest := []) ⟨hx, hb, hml, hown, hts⟩ (km_X13_way l D q5 w hM.2.2.2.1.1 K x1 x2 zm zm3 v4 hcq) (cwV 2 hts (lx_gV (lx_all wM_good rfl) (lx_mem hM1 (hZ _ zq_146)) (hZ _ zq_147) (hZ _ zq_148) (hZ _ zq_149) (hZ _ zq_8) rfl rfl rfl rfl) rfl rfl rfl cd_X13_way ⟨(Nat.le_of_ble_eq_true rfl), (Nat.le_of_ble_eq_true rfl)⟩) (lx_preM hG hM) rfl rfl hl.1 rfl (lv_room (Nat.le_of_ble_eq_true rfl)) dz_968 ⟨(by show _ ≤ 601024; omega), (by show _ ≤ 7293033; omega)⟩) (fun H locs hM => ?_)
  refine lv_istore (lv' := [(6, .int v4), (5, .int v2), (0, .ref b), (1, .ref (u 0)), (2, .ref (w 0)), (3, .ref (u 52001)), (4, .int (nI (6 * n)))]) hx hb dz_971 hl (by decide) rfl (fun ls hl => ?_)
  refine lv_goto (tgt := 1682) hx hb dz_973 (by decide) ?_
  exact kk _ _ H locs ls hM (lv_sub hl [2, 3, 4, 5, 6] rfl) hq
theorem dz_976 : decode cL_law 976 = .ok (.aload_n 1, 1) := dw_at dwl_8 (p := 16) rfl (by decide +kernel)
theorem dz_977 : decode cL_law 977 = .ok (.aload_n 0, 1) := dw_at dwl_8 (p := 17) rfl (by decide +kernel)
theorem dz_978 : decode cL_law 978 = .ok (.iload 4, 2) := dw_at dwl_8 (p := 18) rfl (by decide +kernel)
theorem dz_980 : decode cL_law 980 = .ok (.iconst 1, 1) := dw_at dwl_8 (p := 20) rfl (by decide +kernel)
theorem dz_981 : decode cL_law 981 = .ok (.iadd, 1) := dw_at dwl_8 (p := 21) rfl (by decide +kernel)
theorem dz_982 : decode cL_law 982 = .ok (.iaload, 1) := dw_at dwl_8 (p := 22) rfl (by decide +kernel)
theorem dz_983 : decode cL_law 983 = .ok (.aload_n 3, 1) := dw_at dwl_8 (p := 23) rfl (by decide +kernel)
theorem dz_984 : decode cL_law 984 = .ok (.invokestatic 205, 3) := dw_at dwl_8 (p := 24) rfl (by decide +kernel)
theorem dz_987 : decode cL_law 987 = .ok (.istore 5, 2) := dw_at dwl_8 (p := 27) rfl (by decide +kernel)
theorem dz_989 : decode cL_law 989 = .ok (.aload_n 2, 1) := dw_at dwl_8 (p := 29) rfl (by decide +kernel)
theorem dz_990 : decode cL_law 990 = .ok (.aload_n 0, 1) := dw_at dwl_8 (p := 30) rfl (by decide +kernel)
theorem dz_991 : decode cL_law 991 = .ok (.iload 4, 2) := dw_at dwl_8 (p := 31) rfl (by decide +kernel)
theorem dz_993 : decode cL_law 993 = .ok (.iconst 1, 1) := dw_at dwl_8 (p := 33) rfl (by decide +kernel)
theorem dz_994 : decode cL_law 994 = .ok (.iadd, 1) := dw_at dwl_8 (p := 34) rfl (by decide +kernel)
theorem dz_995 : decode cL_law 995 = .ok (.iaload, 1) := dw_at dwl_8 (p := 35) rfl (by decide +kernel)
theorem dz_996 : decode cL_law 996 = .ok (.invokevirtual 207, 3) := dw_at dwl_8 (p := 36) rfl (by decide +kernel)
theorem dz_999 : decode cL_law 999 = .ok (.istore 6, 2) := dw_at dwl_8 (p := 39) rfl (by decide +kernel)
theorem dz_1001 : decode cL_law 1001 = .ok (.goto 681, 3) := dw_at dwl_8 (p := 41) rfl (by decide +kernel)
def ltp_summands (vl : Nat → Nat) (K : Nat) (x1 : Int32) (x2 : Int32) (x3 : Int32) (x4 : Int32) (x5 : Int32) (zc zm : ow_MS) : Option ow_LwS :=
 cs1 (le_L_summands vl K 0 x1 zc) fun v2 zc1 => cs1 (qe_X13_summands K x1 zm) fun v4 zm3 => some (vl, zc1, zm3)
set_option maxHeartbeats 4000000 in
set_option maxRecDepth 100000 in
theorem lxc_summands {p : Program} {l : Launch} {e : Env} {s : State} {m : MethodId} {args : Array Value} {below : List Frame} {meth : Method} {c : Code} {b L K n : Nat} {xs : Nat → Int32} {D : va_G} {q : Nat → ClassId} {q5 : ow_Q5} {vl u w sa : Nat → Nat} {zc zm : ow_MS} {S1 : ow_LwS} {Ts : List Cond} {Q : State → Prop} {H : Heap} {locs : List Loc} {ls : Array Slot} {cells slots : Nat} (hx : p.tables.exec = Jvm.exec) (hb : c.code = cL_law) (hml : c.maxLocals = 8) (hown : s.vm.findClass RL = some m.cls) (hts : ∀ w ∈ Ts, w.before args s = true) (hX : va_X b L xs s s.heap) (hbl : b < s.heap.size) (hZ : ∀ w ∈ wZ, w ∈ Ts) (hL1 : ∀ w ∈ wLL, w ∈ Ts) (hC1 : ∀ w ∈ wC, w ∈ Ts) (hM1 : ∀ w ∈ wM, w ∈ Ts) (hG : lx_G l s D q q5 sa) (hLn : L ≤ 3072) (hn : 6 * n + 6 ≤ L) (hq : ltp_summands vl K (xs (6 * n + 1)) (xs (6 * n + 2)) (xs (6 * n + 3)) (xs (6 * n + 4)) (xs (6 * n + 5)) zc zm = some S1) (hM : lx_M D q q5 s vl u w zc zm H locs) (hl : lv_has ls 8 [(0, .ref b), (1, .ref (u 0)), (2, .ref (w 0)), (3, .ref (u 52001)), (4, .int (nI (6 * n)))]) (hc : cells + 1 ≤ 601024) (hs : slots + 6 ≤ 7293033) (kk : ∀ (zc1 zm1 : ow_MS) (H1 : Heap) (locs1 : List Loc) (ls1 : Array Slot), lx_M D q q5 s vl u w zc1 zm1 H1 locs1 → lv_has ls1 8 [(0, .ref b), (1, .ref (u 0)), (2, .ref (w 0)), (3, .ref (u 52001)), (4, .int (nI (6 * n)))] → some (vl, zc1, zm1) = some S1 → W p l e room_1 s m args below meth c H1 locs1 (cells + 1) (slots + 6) Q (F0 m 1682 ls1 [])) : W p l e room_1 s m args below meth c H locs cells slots Q (F0 m 976 ls []) := by
  have hbA : ¬ lx_A s b := Nat.not_le.mpr hbl
  generalize e1 : xs (6 * n + 1) = x1 at hq
  generalize e2 : xs (6 * n + 2) = x2 at hq
  generalize e3 : xs (6 * n + 3) = x3 at hq
  generalize e4 : xs (6 * n + 4) = x4 at hq
  generalize e5 : xs (6 * n + 5) = x5 at hq
  unfold ltp_summands at hq
  refine lv_aload_n hx hb dz_976 rfl (lv_at hl 1 rfl) ?_
  refine lv_aload_n hx hb dz_977 rfl (lv_at hl 0 rfl) ?_
  refine lv_iload hx hb dz_978 (lv_at hl 4 rfl) ?_
  refine lv_iconst (v := 1) hx hb dz_980 (by decide) ?_
  refine lv_iadd hx hb dz_981 ?_
  refine ow_topi (y := nI (6 * n + 1)) (nI_add (6 * n) 1) ?_
  refine va_sld hx hb hX hbl hbA hM.2.2.2.2.2 (vp_in_nI (n := 6 * n + 1) (N := L) (by omega) (by omega)) dz_982 ?_
  refine ow_topi (y := x1) ((congrArg xs (nI_clamp (by omega))).trans e1) ?_
  refine lv_aload_n hx hb dz_983 rfl (lv_at hl 3 rfl) ?_
  obtain ⟨v2, zc1, hcq, hq⟩ := tw_cl1 hq
  refine lx_wrap hM (vx_runSX (As := [.ref (u 0), .int x1, .ref (u 52001)]) (rest := []) ⟨hx, hb, hml, hown, hts⟩ (kl_L_summands l D q vl u hM.2.2.1.1 hG.1 sa K 0 x1 (by unfold cw_X11 ci_X11; exact List.mem_singleton.mpr rfl) zc zc1 v2 hcq) (vx_cwSW 3 hts (lx_gS (lx_all wLL_good rfl) (lx_mem hL1 (hZ _ zq_150)) (hZ _ zq_151) (hZ _ zq_152) (hZ _ zq_3) rfl rfl rfl) rfl rfl rfl (by decide +kernel) ⟨(Nat.le_of_ble_eq_true rfl), (Nat.le_of_ble_eq_true rfl)⟩) (lx_preL hG hM) rfl rfl hl.1 rfl (lv_room (Nat.le_of_ble_eq_true rfl)) dz_984 ⟨(by show _ ≤ 601024; omega), (by show _ ≤ 7293033; omega)⟩) (fun H locs hM => ?_)
  refine lv_istore (lv' := [(5, .int v2), (0, .ref b), (1, .ref (u 0)), (2, .ref (w 0)), (3, .ref (u 52001)), (4, .int (nI (6 * n)))]) hx hb dz_987 hl (by decide) rfl (fun ls hl => ?_)
  refine lv_aload_n hx hb dz_989 rfl (lv_at hl 3 rfl) ?_
  refine lv_aload_n hx hb dz_990 rfl (lv_at hl 1 rfl) ?_
  refine lv_iload hx hb dz_991 (lv_at hl 5 rfl) ?_
  refine lv_iconst (v := 1) hx hb dz_993 (by decide) ?_
  refine lv_iadd hx hb dz_994 ?_
  refine ow_topi (y := nI (6 * n + 1)) (nI_add (6 * n) 1) ?_
  refine va_sld hx hb hX hbl hbA hM.2.2.2.2.2 (vp_in_nI (n := 6 * n + 1) (N := L) (by omega) (by omega)) dz_995 ?_
  refine ow_topi (y := x1) ((congrArg xs (nI_clamp (by omega))).trans e1) ?_
  obtain ⟨v4, zm3, hcq, hq⟩ := tw_cl1 hq
  refine lx_refi hM (va_runV (As := [.int x1]) (rest := []) ⟨hx, hb, hml, hown, hts⟩ (km_X13_summands l D q5 w hM.2.2.2.1.1 K x1 zm zm3 v4 hcq) (cwV 1 hts (lx_gV (lx_all wM_good rfl) (lx_mem hM1 (hZ _ zq_153)) (hZ _ zq_154) (hZ _ zq_155) (hZ _ zq_156) (hZ _ zq_8) rfl rfl rfl rfl) rfl rfl rfl cd_X13_summands ⟨(Nat.le_of_ble_eq_true rfl), (Nat.le_of_ble_eq_true rfl)⟩) (lx_preM hG hM) rfl rfl hl.1 rfl (lv_room (Nat.le_of_ble_eq_true rfl)) dz_996 ⟨(by show _ ≤ 601024; omega), (by show _ ≤ 7293033; omega)⟩) (fun H locs hM => ?_)
  refine lv_istore (lv' := [(6, .int v4), (5, .int v2), (0, .ref b), (1, .ref (u 0)), (2, .ref (w 0)), (3, .ref (u 52001)), (4, .int (nI (6 * n)))]) hx hb dz_999 hl (by decide) rfl (fun ls hl => ?_)
  refine lv_goto (tgt := 1682) hx hb dz_1001 (by decide) ?_
  exact kk _ _ H locs ls hM (lv_sub hl [2, 3, 4, 5, 6] rfl) hq
theorem dz_1004 : decode cL_law 1004 = .ok (.aload_n 1, 1) := dw_at dwl_8 (p := 44) rfl (by decide +kernel)
theorem dz_1005 : decode cL_law 1005 = .ok (.aload_n 0, 1) := dw_at dwl_8 (p := 45) rfl (by decide +kernel)
theorem dz_1006 : decode cL_law 1006 = .ok (.iload 4, 2) := dw_at dwl_8 (p := 46) rfl (by decide +kernel)
theorem dz_1008 : decode cL_law 1008 = .ok (.iconst 1, 1) := dw_at dwl_8 (p := 48) rfl (by decide +kernel)
theorem dz_1009 : decode cL_law 1009 = .ok (.iadd, 1) := dw_at dwl_8 (p := 49) rfl (by decide +kernel)
theorem dz_1010 : decode cL_law 1010 = .ok (.iaload, 1) := dw_at dwl_8 (p := 50) rfl (by decide +kernel)
theorem dz_1011 : decode cL_law 1011 = .ok (.aload_n 3, 1) := dw_at dwl_8 (p := 51) rfl (by decide +kernel)
theorem dz_1012 : decode cL_law 1012 = .ok (.invokestatic 208, 3) := dw_at dwl_8 (p := 52) rfl (by decide +kernel)
theorem dz_1015 : decode cL_law 1015 = .ok (.istore 5, 2) := dw_at dwl_8 (p := 55) rfl (by decide +kernel)
theorem dz_1017 : decode cL_law 1017 = .ok (.aload_n 2, 1) := dw_at dwl_8 (p := 57) rfl (by decide +kernel)
theorem dz_1018 : decode cL_law 1018 = .ok (.aload_n 0, 1) := dw_at dwl_8 (p := 58) rfl (by decide +kernel)
theorem dz_1019 : decode cL_law 1019 = .ok (.iload 4, 2) := dw_at dwl_8 (p := 59) rfl (by decide +kernel)
theorem dz_1021 : decode cL_law 1021 = .ok (.iconst 1, 1) := dw_at dwl_8 (p := 61) rfl (by decide +kernel)
theorem dz_1022 : decode cL_law 1022 = .ok (.iadd, 1) := dw_at dwl_8 (p := 62) rfl (by decide +kernel)
theorem dz_1023 : decode cL_law 1023 = .ok (.iaload, 1) := dw_at dwl_8 (p := 63) rfl (by decide +kernel)
theorem dz_1024 : decode cL_law 1024 = .ok (.invokevirtual 210, 3) := dw_at dwl_8 (p := 64) rfl (by decide +kernel)
theorem dz_1027 : decode cL_law 1027 = .ok (.istore 6, 2) := dw_at dwl_8 (p := 67) rfl (by decide +kernel)
theorem dz_1029 : decode cL_law 1029 = .ok (.goto 653, 3) := dw_at dwl_8 (p := 69) rfl (by decide +kernel)
def ltp_summand (vl : Nat → Nat) (K : Nat) (x1 : Int32) (x2 : Int32) (x3 : Int32) (x4 : Int32) (x5 : Int32) (zc zm : ow_MS) : Option ow_LwS :=
 cs1 (le_L_summand vl K 0 x1 zc) fun v2 zc1 => cs1 (qe_X13_summand K x1 zm) fun v4 zm3 => some (vl, zc1, zm3)
set_option maxHeartbeats 4000000 in
set_option maxRecDepth 100000 in
theorem lxc_summand {p : Program} {l : Launch} {e : Env} {s : State} {m : MethodId} {args : Array Value} {below : List Frame} {meth : Method} {c : Code} {b L K n : Nat} {xs : Nat → Int32} {D : va_G} {q : Nat → ClassId} {q5 : ow_Q5} {vl u w sa : Nat → Nat} {zc zm : ow_MS} {S1 : ow_LwS} {Ts : List Cond} {Q : State → Prop} {H : Heap} {locs : List Loc} {ls : Array Slot} {cells slots : Nat} (hx : p.tables.exec = Jvm.exec) (hb : c.code = cL_law) (hml : c.maxLocals = 8) (hown : s.vm.findClass RL = some m.cls) (hts : ∀ w ∈ Ts, w.before args s = true) (hX : va_X b L xs s s.heap) (hbl : b < s.heap.size) (hZ : ∀ w ∈ wZ, w ∈ Ts) (hL1 : ∀ w ∈ wLL, w ∈ Ts) (hC1 : ∀ w ∈ wC, w ∈ Ts) (hM1 : ∀ w ∈ wM, w ∈ Ts) (hG : lx_G l s D q q5 sa) (hLn : L ≤ 3072) (hn : 6 * n + 6 ≤ L) (hq : ltp_summand vl K (xs (6 * n + 1)) (xs (6 * n + 2)) (xs (6 * n + 3)) (xs (6 * n + 4)) (xs (6 * n + 5)) zc zm = some S1) (hM : lx_M D q q5 s vl u w zc zm H locs) (hl : lv_has ls 8 [(0, .ref b), (1, .ref (u 0)), (2, .ref (w 0)), (3, .ref (u 52001)), (4, .int (nI (6 * n)))]) (hc : cells + 2 ≤ 601024) (hs : slots + 12 ≤ 7293033) (kk : ∀ (zc1 zm1 : ow_MS) (H1 : Heap) (locs1 : List Loc) (ls1 : Array Slot), lx_M D q q5 s vl u w zc1 zm1 H1 locs1 → lv_has ls1 8 [(0, .ref b), (1, .ref (u 0)), (2, .ref (w 0)), (3, .ref (u 52001)), (4, .int (nI (6 * n)))] → some (vl, zc1, zm1) = some S1 → W p l e room_1 s m args below meth c H1 locs1 (cells + 2) (slots + 12) Q (F0 m 1682 ls1 [])) : W p l e room_1 s m args below meth c H locs cells slots Q (F0 m 1004 ls []) := by
  have hbA : ¬ lx_A s b := Nat.not_le.mpr hbl
  generalize e1 : xs (6 * n + 1) = x1 at hq
  generalize e2 : xs (6 * n + 2) = x2 at hq
  generalize e3 : xs (6 * n + 3) = x3 at hq
  generalize e4 : xs (6 * n + 4) = x4 at hq
  generalize e5 : xs (6 * n + 5) = x5 at hq
  unfold ltp_summand at hq
  refine lv_aload_n hx hb dz_1004 rfl (lv_at hl 1 rfl) ?_
  refine lv_aload_n hx hb dz_1005 rfl (lv_at hl 0 rfl) ?_
  refine lv_iload hx hb dz_1006 (lv_at hl 4 rfl) ?_
  refine lv_iconst (v := 1) hx hb dz_1008 (by decide) ?_
  refine lv_iadd hx hb dz_1009 ?_
  refine ow_topi (y := nI (6 * n + 1)) (nI_add (6 * n) 1) ?_
  refine va_sld hx hb hX hbl hbA hM.2.2.2.2.2 (vp_in_nI (n := 6 * n + 1) (N := L) (by omega) (by omega)) dz_1010 ?_
  refine ow_topi (y := x1) ((congrArg xs (nI_clamp (by omega))).trans e1) ?_
  refine lv_aload_n hx hb dz_1011 rfl (lv_at hl 3 rfl) ?_
  obtain ⟨v2, zc1, hcq, hq⟩ := tw_cl1 hq
  refine lx_wrap hM (vx_runSX (As := [.ref (u 0), .int x1, .ref (u 52001)]) (rest := []) ⟨hx, hb, hml, hown, hts⟩ (kl_L_summand l D q vl u hM.2.2.1.1 hG.1 sa K 0 x1 (by unfold cw_X11 ci_X11; exact List.mem_singleton.mpr rfl) zc zc1 v2 hcq) (vx_cwSW 3 hts (lx_gS (lx_all wLL_good rfl) (lx_mem hL1 (hZ _ zq_157)) (hZ _ zq_158) (hZ _ zq_159) (hZ _ zq_3) rfl rfl rfl) rfl rfl rfl (by decide +kernel) ⟨(Nat.le_of_ble_eq_true rfl), (Nat.le_of_ble_eq_true rfl)⟩) (lx_preL hG hM) rfl rfl hl.1 rfl (lv_room (Nat.le_of_ble_eq_true rfl)) dz_1012 ⟨(by show _ ≤ 601024; omega), (by show _ ≤ 7293033; omega)⟩) (fun H locs hM => ?_)
  refine lv_istore (lv' := [(5, .int v2), (0, .ref b), (1, .ref (u 0)), (2, .ref (w 0)), (3, .ref (u 52001)), (4, .int (nI (6 * n)))]) hx hb dz_1015 hl (by decide) rfl (fun ls hl => ?_)
  refine lv_aload_n hx hb dz_1017 rfl (lv_at hl 3 rfl) ?_
  refine lv_aload_n hx hb dz_1018 rfl (lv_at hl 1 rfl) ?_
  refine lv_iload hx hb dz_1019 (lv_at hl 5 rfl) ?_
  refine lv_iconst (v := 1) hx hb dz_1021 (by decide) ?_
  refine lv_iadd hx hb dz_1022 ?_
  refine ow_topi (y := nI (6 * n + 1)) (nI_add (6 * n) 1) ?_
  refine va_sld hx hb hX hbl hbA hM.2.2.2.2.2 (vp_in_nI (n := 6 * n + 1) (N := L) (by omega) (by omega)) dz_1023 ?_
  refine ow_topi (y := x1) ((congrArg xs (nI_clamp (by omega))).trans e1) ?_
  obtain ⟨v4, zm3, hcq, hq⟩ := tw_cl1 hq
  refine lx_refi hM (va_runV (As := [.int x1]) (rest := []) ⟨hx, hb, hml, hown, hts⟩ (km_X13_summand l D q5 w hM.2.2.2.1.1 K x1 zm zm3 v4 hcq) (cwV 1 hts (lx_gV (lx_all wM_good rfl) (lx_mem hM1 (hZ _ zq_160)) (hZ _ zq_161) (hZ _ zq_162) (hZ _ zq_163) (hZ _ zq_8) rfl rfl rfl rfl) rfl rfl rfl cd_X13_summand ⟨(Nat.le_of_ble_eq_true rfl), (Nat.le_of_ble_eq_true rfl)⟩) (lx_preM hG hM) rfl rfl hl.1 rfl (lv_room (Nat.le_of_ble_eq_true rfl)) dz_1024 ⟨(by show _ ≤ 601024; omega), (by show _ ≤ 7293033; omega)⟩) (fun H locs hM => ?_)
  refine lv_istore (lv' := [(6, .int v4), (5, .int v2), (0, .ref b), (1, .ref (u 0)), (2, .ref (w 0)), (3, .ref (u 52001)), (4, .int (nI (6 * n)))]) hx hb dz_1027 hl (by decide) rfl (fun ls hl => ?_)
  refine lv_goto (tgt := 1682) hx hb dz_1029 (by decide) ?_
  exact kk _ _ H locs ls hM (lv_sub hl [2, 3, 4, 5, 6] rfl) hq
theorem dz_1032 : decode cL_law 1032 = .ok (.aload_n 1, 1) := dw_at dwl_8 (p := 72) rfl (by decide +kernel)
theorem dz_1033 : decode cL_law 1033 = .ok (.aload_n 0, 1) := dw_at dwl_8 (p := 73) rfl (by decide +kernel)
theorem dz_1034 : decode cL_law 1034 = .ok (.iload 4, 2) := dw_at dwl_8 (p := 74) rfl (by decide +kernel)
theorem dz_1036 : decode cL_law 1036 = .ok (.iconst 1, 1) := dw_at dwl_8 (p := 76) rfl (by decide +kernel)
theorem dz_1037 : decode cL_law 1037 = .ok (.iadd, 1) := dw_at dwl_8 (p := 77) rfl (by decide +kernel)
theorem dz_1038 : decode cL_law 1038 = .ok (.iaload, 1) := dw_at dwl_8 (p := 78) rfl (by decide +kernel)
theorem dz_1039 : decode cL_law 1039 = .ok (.aload_n 0, 1) := dw_at dwl_8 (p := 79) rfl (by decide +kernel)
theorem dz_1040 : decode cL_law 1040 = .ok (.iload 4, 2) := dw_at dwl_8 (p := 80) rfl (by decide +kernel)
theorem dz_1042 : decode cL_law 1042 = .ok (.iconst 2, 1) := dw_at dwl_8 (p := 82) rfl (by decide +kernel)
theorem dz_1043 : decode cL_law 1043 = .ok (.iadd, 1) := dw_at dwl_8 (p := 83) rfl (by decide +kernel)
theorem dz_1044 : decode cL_law 1044 = .ok (.iaload, 1) := dw_at dwl_8 (p := 84) rfl (by decide +kernel)
theorem dz_1045 : decode cL_law 1045 = .ok (.aload_n 3, 1) := dw_at dwl_8 (p := 85) rfl (by decide +kernel)
theorem dz_1046 : decode cL_law 1046 = .ok (.invokestatic 211, 3) := dw_at dwl_8 (p := 86) rfl (by decide +kernel)
theorem dz_1049 : decode cL_law 1049 = .ok (.istore 5, 2) := dw_at dwl_8 (p := 89) rfl (by decide +kernel)
theorem dz_1051 : decode cL_law 1051 = .ok (.aload_n 2, 1) := dw_at dwl_8 (p := 91) rfl (by decide +kernel)
theorem dz_1052 : decode cL_law 1052 = .ok (.aload_n 0, 1) := dw_at dwl_8 (p := 92) rfl (by decide +kernel)
theorem dz_1053 : decode cL_law 1053 = .ok (.iload 4, 2) := dw_at dwl_8 (p := 93) rfl (by decide +kernel)
theorem dz_1055 : decode cL_law 1055 = .ok (.iconst 1, 1) := dw_at dwl_8 (p := 95) rfl (by decide +kernel)
theorem dz_1056 : decode cL_law 1056 = .ok (.iadd, 1) := dw_at dwl_8 (p := 96) rfl (by decide +kernel)
theorem dz_1057 : decode cL_law 1057 = .ok (.iaload, 1) := dw_at dwl_8 (p := 97) rfl (by decide +kernel)
theorem dz_1058 : decode cL_law 1058 = .ok (.aload_n 0, 1) := dw_at dwl_8 (p := 98) rfl (by decide +kernel)
theorem dz_1059 : decode cL_law 1059 = .ok (.iload 4, 2) := dw_at dwl_8 (p := 99) rfl (by decide +kernel)
theorem dz_1061 : decode cL_law 1061 = .ok (.iconst 2, 1) := dw_at dwl_8 (p := 101) rfl (by decide +kernel)
theorem dz_1062 : decode cL_law 1062 = .ok (.iadd, 1) := dw_at dwl_8 (p := 102) rfl (by decide +kernel)
theorem dz_1063 : decode cL_law 1063 = .ok (.iaload, 1) := dw_at dwl_8 (p := 103) rfl (by decide +kernel)
theorem dz_1064 : decode cL_law 1064 = .ok (.invokevirtual 213, 3) := dw_at dwl_8 (p := 104) rfl (by decide +kernel)
theorem dz_1067 : decode cL_law 1067 = .ok (.istore 6, 2) := dw_at dwl_8 (p := 107) rfl (by decide +kernel)
theorem dz_1069 : decode cL_law 1069 = .ok (.goto 613, 3) := dw_at dwl_8 (p := 109) rfl (by decide +kernel)
def ltp_conway (vl : Nat → Nat) (K : Nat) (x1 : Int32) (x2 : Int32) (x3 : Int32) (x4 : Int32) (x5 : Int32) (zc zm : ow_MS) : Option ow_LwS :=
 cs1 (le_L_conway vl K 0 x1 x2 zc) fun v2 zc1 => cs1 (qe_X13_conway K x1 x2 zm) fun v4 zm3 => some (vl, zc1, zm3)
set_option maxHeartbeats 4000000 in
set_option maxRecDepth 100000 in
theorem lxc_conway {p : Program} {l : Launch} {e : Env} {s : State} {m : MethodId} {args : Array Value} {below : List Frame} {meth : Method} {c : Code} {b L K n : Nat} {xs : Nat → Int32} {D : va_G} {q : Nat → ClassId} {q5 : ow_Q5} {vl u w sa : Nat → Nat} {zc zm : ow_MS} {S1 : ow_LwS} {Ts : List Cond} {Q : State → Prop} {H : Heap} {locs : List Loc} {ls : Array Slot} {cells slots : Nat} (hx : p.tables.exec = Jvm.exec) (hb : c.code = cL_law) (hml : c.maxLocals = 8) (hown : s.vm.findClass RL = some m.cls) (hts : ∀ w ∈ Ts, w.before args s = true) (hX : va_X b L xs s s.heap) (hbl : b < s.heap.size) (hZ : ∀ w ∈ wZ, w ∈ Ts) (hL1 : ∀ w ∈ wLL, w ∈ Ts) (hC1 : ∀ w ∈ wC, w ∈ Ts) (hM1 : ∀ w ∈ wM, w ∈ Ts) (hG : lx_G l s D q q5 sa) (hLn : L ≤ 3072) (hn : 6 * n + 6 ≤ L) (hq : ltp_conway vl K (xs (6 * n + 1)) (xs (6 * n + 2)) (xs (6 * n + 3)) (xs (6 * n + 4)) (xs (6 * n + 5)) zc zm = some S1) (hM : lx_M D q q5 s vl u w zc zm H locs) (hl : lv_has ls 8 [(0, .ref b), (1, .ref (u 0)), (2, .ref (w 0)), (3, .ref (u 52001)), (4, .int (nI (6 * n)))]) (hc : cells + 1 ≤ 601024) (hs : slots + 6 ≤ 7293033) (kk : ∀ (zc1 zm1 : ow_MS) (H1 : Heap) (locs1 : List Loc) (ls1 : Array Slot), lx_M D q q5 s vl u w zc1 zm1 H1 locs1 → lv_has ls1 8 [(0, .ref b), (1, .ref (u 0)), (2, .ref (w 0)), (3, .ref (u 52001)), (4, .int (nI (6 * n)))] → some (vl, zc1, zm1) = some S1 → W p l e room_1 s m args below meth c H1 locs1 (cells + 1) (slots + 6) Q (F0 m 1682 ls1 [])) : W p l e room_1 s m args below meth c H locs cells slots Q (F0 m 1032 ls []) := by
  have hbA : ¬ lx_A s b := Nat.not_le.mpr hbl
  generalize e1 : xs (6 * n + 1) = x1 at hq
  generalize e2 : xs (6 * n + 2) = x2 at hq
  generalize e3 : xs (6 * n + 3) = x3 at hq
  generalize e4 : xs (6 * n + 4) = x4 at hq
  generalize e5 : xs (6 * n + 5) = x5 at hq
  unfold ltp_conway at hq
  refine lv_aload_n hx hb dz_1032 rfl (lv_at hl 1 rfl) ?_
  refine lv_aload_n hx hb dz_1033 rfl (lv_at hl 0 rfl) ?_
  refine lv_iload hx hb dz_1034 (lv_at hl 4 rfl) ?_
  refine lv_iconst (v := 1) hx hb dz_1036 (by decide) ?_
  refine lv_iadd hx hb dz_1037 ?_
  refine ow_topi (y := nI (6 * n + 1)) (nI_add (6 * n) 1) ?_
  refine va_sld hx hb hX hbl hbA hM.2.2.2.2.2 (vp_in_nI (n := 6 * n + 1) (N := L) (by omega) (by omega)) dz_1038 ?_
  refine ow_topi (y := x1) ((congrArg xs (nI_clamp (by omega))).trans e1) ?_
  refine lv_aload_n hx hb dz_1039 rfl (lv_at hl 0 rfl) ?_
  refine lv_iload hx hb dz_1040 (lv_at hl 4 rfl) ?_
  refine lv_iconst (v := 2) hx hb dz_1042 (by decide) ?_
  refine lv_iadd hx hb dz_1043 ?_
  refine ow_topi (y := nI (6 * n + 2)) (nI_add (6 * n) 2) ?_
  refine va_sld hx hb hX hbl hbA hM.2.2.2.2.2 (vp_in_nI (n := 6 * n + 2) (N := L) (by omega) (by omega)) dz_1044 ?_
  refine ow_topi (y := x2) ((congrArg xs (nI_clamp (by omega))).trans e2) ?_
  refine lv_aload_n hx hb dz_1045 rfl (lv_at hl 3 rfl) ?_
  obtain ⟨v2, zc1, hcq, hq⟩ := tw_cl1 hq
  refine lx_wrap hM (vx_runSX (As := [.ref (u 0), .int x1, .int x2, .ref (u 52001)]) (rest := []) ⟨hx, hb, hml, hown, hts⟩ (kl_L_conway l D q vl u hM.2.2.1.1 hG.1 sa K 0 x1 x2 (by unfold cw_X11 ci_X11; exact List.mem_singleton.mpr rfl) zc zc1 v2 hcq) (vx_cwSW 4 hts (lx_gS (lx_all wLL_good rfl) (lx_mem hL1 (hZ _ zq_164)) (hZ _ zq_165) (hZ _ zq_166) (hZ _ zq_3) rfl rfl rfl) rfl rfl rfl (by decide +kernel) ⟨(Nat.le_of_ble_eq_true rfl), (Nat.le_of_ble_eq_true rfl)⟩) (lx_preL hG hM) rfl rfl hl.1 rfl (lv_room (Nat.le_of_ble_eq_true rfl)) dz_1046 ⟨(by show _ ≤ 601024; omega), (by show _ ≤ 7293033; omega)⟩) (fun H locs hM => ?_)
  refine lv_istore (lv' := [(5, .int v2), (0, .ref b), (1, .ref (u 0)), (2, .ref (w 0)), (3, .ref (u 52001)), (4, .int (nI (6 * n)))]) hx hb dz_1049 hl (by decide) rfl (fun ls hl => ?_)
  refine lv_aload_n hx hb dz_1051 rfl (lv_at hl 3 rfl) ?_
  refine lv_aload_n hx hb dz_1052 rfl (lv_at hl 1 rfl) ?_
  refine lv_iload hx hb dz_1053 (lv_at hl 5 rfl) ?_
  refine lv_iconst (v := 1) hx hb dz_1055 (by decide) ?_
  refine lv_iadd hx hb dz_1056 ?_
  refine ow_topi (y := nI (6 * n + 1)) (nI_add (6 * n) 1) ?_
  refine va_sld hx hb hX hbl hbA hM.2.2.2.2.2 (vp_in_nI (n := 6 * n + 1) (N := L) (by omega) (by omega)) dz_1057 ?_
  refine ow_topi (y := x1) ((congrArg xs (nI_clamp (by omega))).trans e1) ?_
  refine lv_aload_n hx hb dz_1058 rfl (lv_at hl 1 rfl) ?_
  refine lv_iload hx hb dz_1059 (lv_at hl 5 rfl) ?_
  refine lv_iconst (v := 2) hx hb dz_1061 (by decide) ?_
  refine lv_iadd hx hb dz_1062 ?_
  refine ow_topi (y := nI (6 * n + 2)) (nI_add (6 * n) 2) ?_
  refine va_sld hx hb hX hbl hbA hM.2.2.2.2.2 (vp_in_nI (n := 6 * n + 2) (N := L) (by omega) (by omega)) dz_1063 ?_
  refine ow_topi (y := x2) ((congrArg xs (nI_clamp (by omega))).trans e2) ?_
  obtain ⟨v4, zm3, hcq, hq⟩ := tw_cl1 hq
  refine lx_refi hM (va_runV (As := [.int x1, .int x2]) (rest := []) ⟨hx, hb, hml, hown, hts⟩ (km_X13_conway l D q5 w hM.2.2.2.1.1 K x1 x2 zm zm3 v4 hcq) (cwV 2 hts (lx_gV (lx_all wM_good rfl) (lx_mem hM1 (hZ _ zq_167)) (hZ _ zq_168) (hZ _ zq_169) (hZ _ zq_170) (hZ _ zq_8) rfl rfl rfl rfl) rfl rfl rfl cd_X13_conway ⟨(Nat.le_of_ble_eq_true rfl), (Nat.le_of_ble_eq_true rfl)⟩) (lx_preM hG hM) rfl rfl hl.1 rfl (lv_room (Nat.le_of_ble_eq_true rfl)) dz_1064 ⟨(by show _ ≤ 601024; omega), (by show _ ≤ 7293033; omega)⟩) (fun H locs hM => ?_)
  refine lv_istore (lv' := [(6, .int v4), (5, .int v2), (0, .ref b), (1, .ref (u 0)), (2, .ref (w 0)), (3, .ref (u 52001)), (4, .int (nI (6 * n)))]) hx hb dz_1067 hl (by decide) rfl (fun ls hl => ?_)
  refine lv_goto (tgt := 1682) hx hb dz_1069 (by decide) ?_
  exact kk _ _ H locs ls hM (lv_sub hl [2, 3, 4, 5, 6] rfl) hq
theorem dz_1072 : decode cL_law 1072 = .ok (.aload_n 1, 1) := dw_at dwl_8 (p := 112) rfl (by decide +kernel)
theorem dz_1073 : decode cL_law 1073 = .ok (.aload_n 0, 1) := dw_at dwl_8 (p := 113) rfl (by decide +kernel)
theorem dz_1074 : decode cL_law 1074 = .ok (.iload 4, 2) := dw_at dwl_8 (p := 114) rfl (by decide +kernel)
theorem dz_1076 : decode cL_law 1076 = .ok (.iconst 1, 1) := dw_at dwl_8 (p := 116) rfl (by decide +kernel)
theorem dz_1077 : decode cL_law 1077 = .ok (.iadd, 1) := dw_at dwl_8 (p := 117) rfl (by decide +kernel)
theorem dz_1078 : decode cL_law 1078 = .ok (.iaload, 1) := dw_at dwl_8 (p := 118) rfl (by decide +kernel)
theorem dz_1079 : decode cL_law 1079 = .ok (.aload_n 0, 1) := dw_at dwl_8 (p := 119) rfl (by decide +kernel)
theorem dz_1080 : decode cL_law 1080 = .ok (.iload 4, 2) := dw_at dwl_9 (p := 0) rfl (by decide +kernel)
theorem dz_1082 : decode cL_law 1082 = .ok (.iconst 2, 1) := dw_at dwl_9 (p := 2) rfl (by decide +kernel)
theorem dz_1083 : decode cL_law 1083 = .ok (.iadd, 1) := dw_at dwl_9 (p := 3) rfl (by decide +kernel)
theorem dz_1084 : decode cL_law 1084 = .ok (.iaload, 1) := dw_at dwl_9 (p := 4) rfl (by decide +kernel)
theorem dz_1085 : decode cL_law 1085 = .ok (.aload_n 3, 1) := dw_at dwl_9 (p := 5) rfl (by decide +kernel)
theorem dz_1086 : decode cL_law 1086 = .ok (.invokestatic 214, 3) := dw_at dwl_9 (p := 6) rfl (by decide +kernel)
theorem dz_1089 : decode cL_law 1089 = .ok (.istore 5, 2) := dw_at dwl_9 (p := 9) rfl (by decide +kernel)
theorem dz_1091 : decode cL_law 1091 = .ok (.aload_n 2, 1) := dw_at dwl_9 (p := 11) rfl (by decide +kernel)
theorem dz_1092 : decode cL_law 1092 = .ok (.aload_n 0, 1) := dw_at dwl_9 (p := 12) rfl (by decide +kernel)
theorem dz_1093 : decode cL_law 1093 = .ok (.iload 4, 2) := dw_at dwl_9 (p := 13) rfl (by decide +kernel)
theorem dz_1095 : decode cL_law 1095 = .ok (.iconst 1, 1) := dw_at dwl_9 (p := 15) rfl (by decide +kernel)
theorem dz_1096 : decode cL_law 1096 = .ok (.iadd, 1) := dw_at dwl_9 (p := 16) rfl (by decide +kernel)
theorem dz_1097 : decode cL_law 1097 = .ok (.iaload, 1) := dw_at dwl_9 (p := 17) rfl (by decide +kernel)
theorem dz_1098 : decode cL_law 1098 = .ok (.aload_n 0, 1) := dw_at dwl_9 (p := 18) rfl (by decide +kernel)
theorem dz_1099 : decode cL_law 1099 = .ok (.iload 4, 2) := dw_at dwl_9 (p := 19) rfl (by decide +kernel)
theorem dz_1101 : decode cL_law 1101 = .ok (.iconst 2, 1) := dw_at dwl_9 (p := 21) rfl (by decide +kernel)
theorem dz_1102 : decode cL_law 1102 = .ok (.iadd, 1) := dw_at dwl_9 (p := 22) rfl (by decide +kernel)
theorem dz_1103 : decode cL_law 1103 = .ok (.iaload, 1) := dw_at dwl_9 (p := 23) rfl (by decide +kernel)
theorem dz_1104 : decode cL_law 1104 = .ok (.invokevirtual 216, 3) := dw_at dwl_9 (p := 24) rfl (by decide +kernel)
theorem dz_1107 : decode cL_law 1107 = .ok (.istore 6, 2) := dw_at dwl_9 (p := 27) rfl (by decide +kernel)
theorem dz_1109 : decode cL_law 1109 = .ok (.goto 573, 3) := dw_at dwl_9 (p := 29) rfl (by decide +kernel)
def ltp_jones (vl : Nat → Nat) (K : Nat) (x1 : Int32) (x2 : Int32) (x3 : Int32) (x4 : Int32) (x5 : Int32) (zc zm : ow_MS) : Option ow_LwS :=
 cs1 (le_L_jones vl K 0 x1 x2 zc) fun v2 zc1 => cs1 (qe_X13_jones K x1 x2 zm) fun v4 zm3 => some (vl, zc1, zm3)
set_option maxHeartbeats 4000000 in
set_option maxRecDepth 100000 in
theorem lxc_jones {p : Program} {l : Launch} {e : Env} {s : State} {m : MethodId} {args : Array Value} {below : List Frame} {meth : Method} {c : Code} {b L K n : Nat} {xs : Nat → Int32} {D : va_G} {q : Nat → ClassId} {q5 : ow_Q5} {vl u w sa : Nat → Nat} {zc zm : ow_MS} {S1 : ow_LwS} {Ts : List Cond} {Q : State → Prop} {H : Heap} {locs : List Loc} {ls : Array Slot} {cells slots : Nat} (hx : p.tables.exec = Jvm.exec) (hb : c.code = cL_law) (hml : c.maxLocals = 8) (hown : s.vm.findClass RL = some m.cls) (hts : ∀ w ∈ Ts, w.before args s = true) (hX : va_X b L xs s s.heap) (hbl : b < s.heap.size) (hZ : ∀ w ∈ wZ, w ∈ Ts) (hL1 : ∀ w ∈ wLL, w ∈ Ts) (hC1 : ∀ w ∈ wC, w ∈ Ts) (hM1 : ∀ w ∈ wM, w ∈ Ts) (hG : lx_G l s D q q5 sa) (hLn : L ≤ 3072) (hn : 6 * n + 6 ≤ L) (hq : ltp_jones vl K (xs (6 * n + 1)) (xs (6 * n + 2)) (xs (6 * n + 3)) (xs (6 * n + 4)) (xs (6 * n + 5)) zc zm = some S1) (hM : lx_M D q q5 s vl u w zc zm H locs) (hl : lv_has ls 8 [(0, .ref b), (1, .ref (u 0)), (2, .ref (w 0)), (3, .ref (u 52001)), (4, .int (nI (6 * n)))]) (hc : cells + 1 ≤ 601024) (hs : slots + 6 ≤ 7293033) (kk : ∀ (zc1 zm1 : ow_MS) (H1 : Heap) (locs1 : List Loc) (ls1 : Array Slot), lx_M D q q5 s vl u w zc1 zm1 H1 locs1 → lv_has ls1 8 [(0, .ref b), (1, .ref (u 0)), (2, .ref (w 0)), (3, .ref (u 52001)), (4, .int (nI (6 * n)))] → some (vl, zc1, zm1) = some S1 → W p l e room_1 s m args below meth c H1 locs1 (cells + 1) (slots + 6) Q (F0 m 1682 ls1 [])) : W p l e room_1 s m args below meth c H locs cells slots Q (F0 m 1072 ls []) := by
  have hbA : ¬ lx_A s b := Nat.not_le.mpr hbl
  generalize e1 : xs (6 * n + 1) = x1 at hq
  generalize e2 : xs (6 * n + 2) = x2 at hq
  generalize e3 : xs (6 * n + 3) = x3 at hq
  generalize e4 : xs (6 * n + 4) = x4 at hq
  generalize e5 : xs (6 * n + 5) = x5 at hq
  unfold ltp_jones at hq
  refine lv_aload_n hx hb dz_1072 rfl (lv_at hl 1 rfl) ?_
  refine lv_aload_n hx hb dz_1073 rfl (lv_at hl 0 rfl) ?_
  refine lv_iload hx hb dz_1074 (lv_at hl 4 rfl) ?_
  refine lv_iconst (v := 1) hx hb dz_1076 (by decide) ?_
  refine lv_iadd hx hb dz_1077 ?_
  refine ow_topi (y := nI (6 * n + 1)) (nI_add (6 * n) 1) ?_
  refine va_sld hx hb hX hbl hbA hM.2.2.2.2.2 (vp_in_nI (n := 6 * n + 1) (N := L) (by omega) (by omega)) dz_1078 ?_
  refine ow_topi (y := x1) ((congrArg xs (nI_clamp (by omega))).trans e1) ?_
  refine lv_aload_n hx hb dz_1079 rfl (lv_at hl 0 rfl) ?_
  refine lv_iload hx hb dz_1080 (lv_at hl 4 rfl) ?_
  refine lv_iconst (v := 2) hx hb dz_1082 (by decide) ?_
  refine lv_iadd hx hb dz_1083 ?_
  refine ow_topi (y := nI (6 * n + 2)) (nI_add (6 * n) 2) ?_
  refine va_sld hx hb hX hbl hbA hM.2.2.2.2.2 (vp_in_nI (n := 6 * n + 2) (N := L) (by omega) (by omega)) dz_1084 ?_
  refine ow_topi (y := x2) ((congrArg xs (nI_clamp (by omega))).trans e2) ?_
  refine lv_aload_n hx hb dz_1085 rfl (lv_at hl 3 rfl) ?_
  obtain ⟨v2, zc1, hcq, hq⟩ := tw_cl1 hq
  refine lx_wrap hM (vx_runSX (As := [.ref (u 0), .int x1, .int x2, .ref (u 52001)]) (rest := []) ⟨hx, hb, hml, hown, hts⟩ (kl_L_jones l D q vl u hM.2.2.1.1 hG.1 sa K 0 x1 x2 (by unfold cw_X11 ci_X11; exact List.mem_singleton.mpr rfl) zc zc1 v2 hcq) (vx_cwSW 4 hts (lx_gS (lx_all wLL_good rfl) (lx_mem hL1 (hZ _ zq_171)) (hZ _ zq_172) (hZ _ zq_173) (hZ _ zq_3) rfl rfl rfl) rfl rfl rfl (by decide +kernel) ⟨(Nat.le_of_ble_eq_true rfl), (Nat.le_of_ble_eq_true rfl)⟩) (lx_preL hG hM) rfl rfl hl.1 rfl (lv_room (Nat.le_of_ble_eq_true rfl)) dz_1086 ⟨(by show _ ≤ 601024; omega), (by show _ ≤ 7293033; omega)⟩) (fun H locs hM => ?_)
  refine lv_istore (lv' := [(5, .int v2), (0, .ref b), (1, .ref (u 0)), (2, .ref (w 0)), (3, .ref (u 52001)), (4, .int (nI (6 * n)))]) hx hb dz_1089 hl (by decide) rfl (fun ls hl => ?_)
  refine lv_aload_n hx hb dz_1091 rfl (lv_at hl 3 rfl) ?_
  refine lv_aload_n hx hb dz_1092 rfl (lv_at hl 1 rfl) ?_
  refine lv_iload hx hb dz_1093 (lv_at hl 5 rfl) ?_
  refine lv_iconst (v := 1) hx hb dz_1095 (by decide) ?_
  refine lv_iadd hx hb dz_1096 ?_
  refine ow_topi (y := nI (6 * n + 1)) (nI_add (6 * n) 1) ?_
  refine va_sld hx hb hX hbl hbA hM.2.2.2.2.2 (vp_in_nI (n := 6 * n + 1) (N := L) (by omega) (by omega)) dz_1097 ?_
  refine ow_topi (y := x1) ((congrArg xs (nI_clamp (by omega))).trans e1) ?_
  refine lv_aload_n hx hb dz_1098 rfl (lv_at hl 1 rfl) ?_
  refine lv_iload hx hb dz_1099 (lv_at hl 5 rfl) ?_
  refine lv_iconst (v := 2) hx hb dz_1101 (by decide) ?_
  refine lv_iadd hx hb dz_1102 ?_
  refine ow_topi (y := nI (6 * n + 2)) (nI_add (6 * n) 2) ?_
  refine va_sld hx hb hX hbl hbA hM.2.2.2.2.2 (vp_in_nI (n := 6 * n + 2) (N := L) (by omega) (by omega)) dz_1103 ?_
  refine ow_topi (y := x2) ((congrArg xs (nI_clamp (by omega))).trans e2) ?_
  obtain ⟨v4, zm3, hcq, hq⟩ := tw_cl1 hq
  refine lx_refi hM (va_runV (As := [.int x1, .int x2]) (rest := []) ⟨hx, hb, hml, hown, hts⟩ (km_X13_jones l D q5 w hM.2.2.2.1.1 K x1 x2 zm zm3 v4 hcq) (cwV 2 hts (lx_gV (lx_all wM_good rfl) (lx_mem hM1 (hZ _ zq_174)) (hZ _ zq_175) (hZ _ zq_176) (hZ _ zq_177) (hZ _ zq_8) rfl rfl rfl rfl) rfl rfl rfl cd_X13_jones ⟨(Nat.le_of_ble_eq_true rfl), (Nat.le_of_ble_eq_true rfl)⟩) (lx_preM hG hM) rfl rfl hl.1 rfl (lv_room (Nat.le_of_ble_eq_true rfl)) dz_1104 ⟨(by show _ ≤ 601024; omega), (by show _ ≤ 7293033; omega)⟩) (fun H locs hM => ?_)
  refine lv_istore (lv' := [(6, .int v4), (5, .int v2), (0, .ref b), (1, .ref (u 0)), (2, .ref (w 0)), (3, .ref (u 52001)), (4, .int (nI (6 * n)))]) hx hb dz_1107 hl (by decide) rfl (fun ls hl => ?_)
  refine lv_goto (tgt := 1682) hx hb dz_1109 (by decide) ?_
  exact kk _ _ H locs ls hM (lv_sub hl [2, 3, 4, 5, 6] rfl) hq
theorem dz_1112 : decode cL_law 1112 = .ok (.aload_n 1, 1) := dw_at dwl_9 (p := 32) rfl (by decide +kernel)
theorem dz_1113 : decode cL_law 1113 = .ok (.aload_n 0, 1) := dw_at dwl_9 (p := 33) rfl (by decide +kernel)
theorem dz_1114 : decode cL_law 1114 = .ok (.iload 4, 2) := dw_at dwl_9 (p := 34) rfl (by decide +kernel)
theorem dz_1116 : decode cL_law 1116 = .ok (.iconst 1, 1) := dw_at dwl_9 (p := 36) rfl (by decide +kernel)
theorem dz_1117 : decode cL_law 1117 = .ok (.iadd, 1) := dw_at dwl_9 (p := 37) rfl (by decide +kernel)
theorem dz_1118 : decode cL_law 1118 = .ok (.iaload, 1) := dw_at dwl_9 (p := 38) rfl (by decide +kernel)
theorem dz_1119 : decode cL_law 1119 = .ok (.aload_n 3, 1) := dw_at dwl_9 (p := 39) rfl (by decide +kernel)
theorem dz_1120 : decode cL_law 1120 = .ok (.invokestatic 217, 3) := dw_at dwl_9 (p := 40) rfl (by decide +kernel)
theorem dz_1123 : decode cL_law 1123 = .ok (.istore 5, 2) := dw_at dwl_9 (p := 43) rfl (by decide +kernel)
theorem dz_1125 : decode cL_law 1125 = .ok (.aload_n 2, 1) := dw_at dwl_9 (p := 45) rfl (by decide +kernel)
theorem dz_1126 : decode cL_law 1126 = .ok (.aload_n 0, 1) := dw_at dwl_9 (p := 46) rfl (by decide +kernel)
theorem dz_1127 : decode cL_law 1127 = .ok (.iload 4, 2) := dw_at dwl_9 (p := 47) rfl (by decide +kernel)
theorem dz_1129 : decode cL_law 1129 = .ok (.iconst 1, 1) := dw_at dwl_9 (p := 49) rfl (by decide +kernel)
theorem dz_1130 : decode cL_law 1130 = .ok (.iadd, 1) := dw_at dwl_9 (p := 50) rfl (by decide +kernel)
theorem dz_1131 : decode cL_law 1131 = .ok (.iaload, 1) := dw_at dwl_9 (p := 51) rfl (by decide +kernel)
theorem dz_1132 : decode cL_law 1132 = .ok (.invokevirtual 219, 3) := dw_at dwl_9 (p := 52) rfl (by decide +kernel)
theorem dz_1135 : decode cL_law 1135 = .ok (.istore 6, 2) := dw_at dwl_9 (p := 55) rfl (by decide +kernel)
theorem dz_1137 : decode cL_law 1137 = .ok (.goto 545, 3) := dw_at dwl_9 (p := 57) rfl (by decide +kernel)
def ltp_signature (vl : Nat → Nat) (K : Nat) (x1 : Int32) (x2 : Int32) (x3 : Int32) (x4 : Int32) (x5 : Int32) (zc zm : ow_MS) : Option ow_LwS :=
 cs1 (le_L_signature vl K 0 x1 zc) fun v2 zc1 => cs1 (qe_X13_signature K x1 zm) fun v4 zm3 => some (vl, zc1, zm3)
set_option maxHeartbeats 4000000 in
set_option maxRecDepth 100000 in
theorem lxc_signature {p : Program} {l : Launch} {e : Env} {s : State} {m : MethodId} {args : Array Value} {below : List Frame} {meth : Method} {c : Code} {b L K n : Nat} {xs : Nat → Int32} {D : va_G} {q : Nat → ClassId} {q5 : ow_Q5} {vl u w sa : Nat → Nat} {zc zm : ow_MS} {S1 : ow_LwS} {Ts : List Cond} {Q : State → Prop} {H : Heap} {locs : List Loc} {ls : Array Slot} {cells slots : Nat} (hx : p.tables.exec = Jvm.exec) (hb : c.code = cL_law) (hml : c.maxLocals = 8) (hown : s.vm.findClass RL = some m.cls) (hts : ∀ w ∈ Ts, w.before args s = true) (hX : va_X b L xs s s.heap) (hbl : b < s.heap.size) (hZ : ∀ w ∈ wZ, w ∈ Ts) (hL1 : ∀ w ∈ wLL, w ∈ Ts) (hC1 : ∀ w ∈ wC, w ∈ Ts) (hM1 : ∀ w ∈ wM, w ∈ Ts) (hG : lx_G l s D q q5 sa) (hLn : L ≤ 3072) (hn : 6 * n + 6 ≤ L) (hq : ltp_signature vl K (xs (6 * n + 1)) (xs (6 * n + 2)) (xs (6 * n + 3)) (xs (6 * n + 4)) (xs (6 * n + 5)) zc zm = some S1) (hM : lx_M D q q5 s vl u w zc zm H locs) (hl : lv_has ls 8 [(0, .ref b), (1, .ref (u 0)), (2, .ref (w 0)), (3, .ref (u 52001)), (4, .int (nI (6 * n)))]) (hc : cells + 1 ≤ 601024) (hs : slots + 6 ≤ 7293033) (kk : ∀ (zc1 zm1 : ow_MS) (H1 : Heap) (locs1 : List Loc) (ls1 : Array Slot), lx_M D q q5 s vl u w zc1 zm1 H1 locs1 → lv_has ls1 8 [(0, .ref b), (1, .ref (u 0)), (2, .ref (w 0)), (3, .ref (u 52001)), (4, .int (nI (6 * n)))] → some (vl, zc1, zm1) = some S1 → W p l e room_1 s m args below meth c H1 locs1 (cells + 1) (slots + 6) Q (F0 m 1682 ls1 [])) : W p l e room_1 s m args below meth c H locs cells slots Q (F0 m 1112 ls []) := by
  have hbA : ¬ lx_A s b := Nat.not_le.mpr hbl
  generalize e1 : xs (6 * n + 1) = x1 at hq
  generalize e2 : xs (6 * n + 2) = x2 at hq
  generalize e3 : xs (6 * n + 3) = x3 at hq
  generalize e4 : xs (6 * n + 4) = x4 at hq
  generalize e5 : xs (6 * n + 5) = x5 at hq
  unfold ltp_signature at hq
  refine lv_aload_n hx hb dz_1112 rfl (lv_at hl 1 rfl) ?_
  refine lv_aload_n hx hb dz_1113 rfl (lv_at hl 0 rfl) ?_
  refine lv_iload hx hb dz_1114 (lv_at hl 4 rfl) ?_
  refine lv_iconst (v := 1) hx hb dz_1116 (by decide) ?_
  refine lv_iadd hx hb dz_1117 ?_
  refine ow_topi (y := nI (6 * n + 1)) (nI_add (6 * n) 1) ?_
  refine va_sld hx hb hX hbl hbA hM.2.2.2.2.2 (vp_in_nI (n := 6 * n + 1) (N := L) (by omega) (by omega)) dz_1118 ?_
  refine ow_topi (y := x1) ((congrArg xs (nI_clamp (by omega))).trans e1) ?_
  refine lv_aload_n hx hb dz_1119 rfl (lv_at hl 3 rfl) ?_
  obtain ⟨v2, zc1, hcq, hq⟩ := tw_cl1 hq
  refine lx_wrap hM (vx_runSX (As := [.ref (u 0), .int x1, .ref (u 52001)]) (rest := []) ⟨hx, hb, hml, hown, hts⟩ (kl_L_signature l D q vl u hM.2.2.1.1 hG.1 sa K 0 x1 (by unfold cw_X11 ci_X11; exact List.mem_singleton.mpr rfl) zc zc1 v2 hcq) (vx_cwSW 3 hts (lx_gS (lx_all wLL_good rfl) (lx_mem hL1 (hZ _ zq_178)) (hZ _ zq_179) (hZ _ zq_180) (hZ _ zq_3) rfl rfl rfl) rfl rfl rfl (by decide +kernel) ⟨(Nat.le_of_ble_eq_true rfl), (Nat.le_of_ble_eq_true rfl)⟩) (lx_preL hG hM) rfl rfl hl.1 rfl (lv_room (Nat.le_of_ble_eq_true rfl)) dz_1120 ⟨(by show _ ≤ 601024; omega), (by show _ ≤ 7293033; omega)⟩) (fun H locs hM => ?_)
  refine lv_istore (lv' := [(5, .int v2), (0, .ref b), (1, .ref (u 0)), (2, .ref (w 0)), (3, .ref (u 52001)), (4, .int (nI (6 * n)))]) hx hb dz_1123 hl (by decide) rfl (fun ls hl => ?_)
  refine lv_aload_n hx hb dz_1125 rfl (lv_at hl 3 rfl) ?_
  refine lv_aload_n hx hb dz_1126 rfl (lv_at hl 1 rfl) ?_
  refine lv_iload hx hb dz_1127 (lv_at hl 5 rfl) ?_
  refine lv_iconst (v := 1) hx hb dz_1129 (by decide) ?_
  refine lv_iadd hx hb dz_1130 ?_
  refine ow_topi (y := nI (6 * n + 1)) (nI_add (6 * n) 1) ?_
  refine va_sld hx hb hX hbl hbA hM.2.2.2.2.2 (vp_in_nI (n := 6 * n + 1) (N := L) (by omega) (by omega)) dz_1131 ?_
  refine ow_topi (y := x1) ((congrArg xs (nI_clamp (by omega))).trans e1) ?_
  obtain ⟨v4, zm3, hcq, hq⟩ := tw_cl1 hq
  refine lx_refi hM (va_runV (As := [.int x1]) (rest := []) ⟨hx, hb, hml, hown, hts⟩ (km_X13_signature l D q5 w hM.2.2.2.1.1 K x1 zm zm3 v4 hcq) (cwV 1 hts (lx_gV (lx_all wM_good rfl) (lx_mem hM1 (hZ _ zq_181)) (hZ _ zq_182) (hZ _ zq_183) (hZ _ zq_184) (hZ _ zq_8) rfl rfl rfl rfl) rfl rfl rfl cd_X13_signature ⟨(Nat.le_of_ble_eq_true rfl), (Nat.le_of_ble_eq_true rfl)⟩) (lx_preM hG hM) rfl rfl hl.1 rfl (lv_room (Nat.le_of_ble_eq_true rfl)) dz_1132 ⟨(by show _ ≤ 601024; omega), (by show _ ≤ 7293033; omega)⟩) (fun H locs hM => ?_)
  refine lv_istore (lv' := [(6, .int v4), (5, .int v2), (0, .ref b), (1, .ref (u 0)), (2, .ref (w 0)), (3, .ref (u 52001)), (4, .int (nI (6 * n)))]) hx hb dz_1135 hl (by decide) rfl (fun ls hl => ?_)
  refine lv_goto (tgt := 1682) hx hb dz_1137 (by decide) ?_
  exact kk _ _ H locs ls hM (lv_sub hl [2, 3, 4, 5, 6] rfl) hq
theorem dz_1140 : decode cL_law 1140 = .ok (.aload_n 1, 1) := dw_at dwl_9 (p := 60) rfl (by decide +kernel)
theorem dz_1141 : decode cL_law 1141 = .ok (.aload_n 0, 1) := dw_at dwl_9 (p := 61) rfl (by decide +kernel)
theorem dz_1142 : decode cL_law 1142 = .ok (.iload 4, 2) := dw_at dwl_9 (p := 62) rfl (by decide +kernel)
theorem dz_1144 : decode cL_law 1144 = .ok (.iconst 1, 1) := dw_at dwl_9 (p := 64) rfl (by decide +kernel)
theorem dz_1145 : decode cL_law 1145 = .ok (.iadd, 1) := dw_at dwl_9 (p := 65) rfl (by decide +kernel)
theorem dz_1146 : decode cL_law 1146 = .ok (.iaload, 1) := dw_at dwl_9 (p := 66) rfl (by decide +kernel)
theorem dz_1147 : decode cL_law 1147 = .ok (.aload_n 0, 1) := dw_at dwl_9 (p := 67) rfl (by decide +kernel)
theorem dz_1148 : decode cL_law 1148 = .ok (.iload 4, 2) := dw_at dwl_9 (p := 68) rfl (by decide +kernel)
theorem dz_1150 : decode cL_law 1150 = .ok (.iconst 2, 1) := dw_at dwl_9 (p := 70) rfl (by decide +kernel)
theorem dz_1151 : decode cL_law 1151 = .ok (.iadd, 1) := dw_at dwl_9 (p := 71) rfl (by decide +kernel)
theorem dz_1152 : decode cL_law 1152 = .ok (.iaload, 1) := dw_at dwl_9 (p := 72) rfl (by decide +kernel)
theorem dz_1153 : decode cL_law 1153 = .ok (.aload_n 3, 1) := dw_at dwl_9 (p := 73) rfl (by decide +kernel)
theorem dz_1154 : decode cL_law 1154 = .ok (.invokestatic 220, 3) := dw_at dwl_9 (p := 74) rfl (by decide +kernel)
theorem dz_1157 : decode cL_law 1157 = .ok (.istore 5, 2) := dw_at dwl_9 (p := 77) rfl (by decide +kernel)
theorem dz_1159 : decode cL_law 1159 = .ok (.aload_n 2, 1) := dw_at dwl_9 (p := 79) rfl (by decide +kernel)
theorem dz_1160 : decode cL_law 1160 = .ok (.aload_n 0, 1) := dw_at dwl_9 (p := 80) rfl (by decide +kernel)
theorem dz_1161 : decode cL_law 1161 = .ok (.iload 4, 2) := dw_at dwl_9 (p := 81) rfl (by decide +kernel)
theorem dz_1163 : decode cL_law 1163 = .ok (.iconst 1, 1) := dw_at dwl_9 (p := 83) rfl (by decide +kernel)
theorem dz_1164 : decode cL_law 1164 = .ok (.iadd, 1) := dw_at dwl_9 (p := 84) rfl (by decide +kernel)
theorem dz_1165 : decode cL_law 1165 = .ok (.iaload, 1) := dw_at dwl_9 (p := 85) rfl (by decide +kernel)
theorem dz_1166 : decode cL_law 1166 = .ok (.aload_n 0, 1) := dw_at dwl_9 (p := 86) rfl (by decide +kernel)
theorem dz_1167 : decode cL_law 1167 = .ok (.iload 4, 2) := dw_at dwl_9 (p := 87) rfl (by decide +kernel)
theorem dz_1169 : decode cL_law 1169 = .ok (.iconst 2, 1) := dw_at dwl_9 (p := 89) rfl (by decide +kernel)
theorem dz_1170 : decode cL_law 1170 = .ok (.iadd, 1) := dw_at dwl_9 (p := 90) rfl (by decide +kernel)
theorem dz_1171 : decode cL_law 1171 = .ok (.iaload, 1) := dw_at dwl_9 (p := 91) rfl (by decide +kernel)
theorem dz_1172 : decode cL_law 1172 = .ok (.invokevirtual 222, 3) := dw_at dwl_9 (p := 92) rfl (by decide +kernel)
theorem dz_1175 : decode cL_law 1175 = .ok (.istore 6, 2) := dw_at dwl_9 (p := 95) rfl (by decide +kernel)
theorem dz_1177 : decode cL_law 1177 = .ok (.goto 505, 3) := dw_at dwl_9 (p := 97) rfl (by decide +kernel)
def ltp_cover (vl : Nat → Nat) (K : Nat) (x1 : Int32) (x2 : Int32) (x3 : Int32) (x4 : Int32) (x5 : Int32) (zc zm : ow_MS) : Option ow_LwS :=
 cs1 (le_L_cover vl K 0 x1 x2 zc) fun v2 zc1 => cs1 (qe_X13_cover K x1 x2 zm) fun v4 zm3 => some (vl, zc1, zm3)
set_option maxHeartbeats 4000000 in
set_option maxRecDepth 100000 in
theorem lxc_cover {p : Program} {l : Launch} {e : Env} {s : State} {m : MethodId} {args : Array Value} {below : List Frame} {meth : Method} {c : Code} {b L K n : Nat} {xs : Nat → Int32} {D : va_G} {q : Nat → ClassId} {q5 : ow_Q5} {vl u w sa : Nat → Nat} {zc zm : ow_MS} {S1 : ow_LwS} {Ts : List Cond} {Q : State → Prop} {H : Heap} {locs : List Loc} {ls : Array Slot} {cells slots : Nat} (hx : p.tables.exec = Jvm.exec) (hb : c.code = cL_law) (hml : c.maxLocals = 8) (hown : s.vm.findClass RL = some m.cls) (hts : ∀ w ∈ Ts, w.before args s = true) (hX : va_X b L xs s s.heap) (hbl : b < s.heap.size) (hZ : ∀ w ∈ wZ, w ∈ Ts) (hL1 : ∀ w ∈ wLL, w ∈ Ts) (hC1 : ∀ w ∈ wC, w ∈ Ts) (hM1 : ∀ w ∈ wM, w ∈ Ts) (hG : lx_G l s D q q5 sa) (hLn : L ≤ 3072) (hn : 6 * n + 6 ≤ L) (hq : ltp_cover vl K (xs (6 * n + 1)) (xs (6 * n + 2)) (xs (6 * n + 3)) (xs (6 * n + 4)) (xs (6 * n + 5)) zc zm = some S1) (hM : lx_M D q q5 s vl u w zc zm H locs) (hl : lv_has ls 8 [(0, .ref b), (1, .ref (u 0)), (2, .ref (w 0)), (3, .ref (u 52001)), (4, .int (nI (6 * n)))]) (hc : cells + 1 ≤ 601024) (hs : slots + 6 ≤ 7293033) (kk : ∀ (zc1 zm1 : ow_MS) (H1 : Heap) (locs1 : List Loc) (ls1 : Array Slot), lx_M D q q5 s vl u w zc1 zm1 H1 locs1 → lv_has ls1 8 [(0, .ref b), (1, .ref (u 0)), (2, .ref (w 0)), (3, .ref (u 52001)), (4, .int (nI (6 * n)))] → some (vl, zc1, zm1) = some S1 → W p l e room_1 s m args below meth c H1 locs1 (cells + 1) (slots + 6) Q (F0 m 1682 ls1 [])) : W p l e room_1 s m args below meth c H locs cells slots Q (F0 m 1140 ls []) := by
  have hbA : ¬ lx_A s b := Nat.not_le.mpr hbl
  generalize e1 : xs (6 * n + 1) = x1 at hq
  generalize e2 : xs (6 * n + 2) = x2 at hq
  generalize e3 : xs (6 * n + 3) = x3 at hq
  generalize e4 : xs (6 * n + 4) = x4 at hq
  generalize e5 : xs (6 * n + 5) = x5 at hq
  unfold ltp_cover at hq
  refine lv_aload_n hx hb dz_1140 rfl (lv_at hl 1 rfl) ?_
  refine lv_aload_n hx hb dz_1141 rfl (lv_at hl 0 rfl) ?_
  refine lv_iload hx hb dz_1142 (lv_at hl 4 rfl) ?_
  refine lv_iconst (v := 1) hx hb dz_1144 (by decide) ?_
  refine lv_iadd hx hb dz_1145 ?_
  refine ow_topi (y := nI (6 * n + 1)) (nI_add (6 * n) 1) ?_
  refine va_sld hx hb hX hbl hbA hM.2.2.2.2.2 (vp_in_nI (n := 6 * n + 1) (N := L) (by omega) (by omega)) dz_1146 ?_
  refine ow_topi (y := x1) ((congrArg xs (nI_clamp (by omega))).trans e1) ?_
  refine lv_aload_n hx hb dz_1147 rfl (lv_at hl 0 rfl) ?_
  refine lv_iload hx hb dz_1148 (lv_at hl 4 rfl) ?_
  refine lv_iconst (v := 2) hx hb dz_1150 (by decide) ?_
  refine lv_iadd hx hb dz_1151 ?_
  refine ow_topi (y := nI (6 * n + 2)) (nI_add (6 * n) 2) ?_
  refine va_sld hx hb hX hbl hbA hM.2.2.2.2.2 (vp_in_nI (n := 6 * n + 2) (N := L) (by omega) (by omega)) dz_1152 ?_
  refine ow_topi (y := x2) ((congrArg xs (nI_clamp (by omega))).trans e2) ?_
  refine lv_aload_n hx hb dz_1153 rfl (lv_at hl 3 rfl) ?_
  obtain ⟨v2, zc1, hcq, hq⟩ := tw_cl1 hq
  refine lx_wrap hM (vx_runSX (As := [.ref (u 0), .int x1, .int x2, .ref (u 52001)]) (rest := []) ⟨hx, hb, hml, hown, hts⟩ (kl_L_cover l D q vl u hM.2.2.1.1 hG.1 sa K 0 x1 x2 (by unfold cw_X11 ci_X11; exact List.mem_singleton.mpr rfl) zc zc1 v2 hcq) (vx_cwSW 4 hts (lx_gS (lx_all wLL_good rfl) (lx_mem hL1 (hZ _ zq_185)) (hZ _ zq_186) (hZ _ zq_187) (hZ _ zq_3) rfl rfl rfl) rfl rfl rfl (by decide +kernel) ⟨(Nat.le_of_ble_eq_true rfl), (Nat.le_of_ble_eq_true rfl)⟩) (lx_preL hG hM) rfl rfl hl.1 rfl (lv_room (Nat.le_of_ble_eq_true rfl)) dz_1154 ⟨(by show _ ≤ 601024; omega), (by show _ ≤ 7293033; omega)⟩) (fun H locs hM => ?_)
  refine lv_istore (lv' := [(5, .int v2), (0, .ref b), (1, .ref (u 0)), (2, .ref (w 0)), (3, .ref (u 52001)), (4, .int (nI (6 * n)))]) hx hb dz_1157 hl (by decide) rfl (fun ls hl => ?_)
  refine lv_aload_n hx hb dz_1159 rfl (lv_at hl 3 rfl) ?_
  refine lv_aload_n hx hb dz_1160 rfl (lv_at hl 1 rfl) ?_
  refine lv_iload hx hb dz_1161 (lv_at hl 5 rfl) ?_
  refine lv_iconst (v := 1) hx hb dz_1163 (by decide) ?_
  refine lv_iadd hx hb dz_1164 ?_
  refine ow_topi (y := nI (6 * n + 1)) (nI_add (6 * n) 1) ?_
  refine va_sld hx hb hX hbl hbA hM.2.2.2.2.2 (vp_in_nI (n := 6 * n + 1) (N := L) (by omega) (by omega)) dz_1165 ?_
  refine ow_topi (y := x1) ((congrArg xs (nI_clamp (by omega))).trans e1) ?_
  refine lv_aload_n hx hb dz_1166 rfl (lv_at hl 1 rfl) ?_
  refine lv_iload hx hb dz_1167 (lv_at hl 5 rfl) ?_
  refine lv_iconst (v := 2) hx hb dz_1169 (by decide) ?_
  refine lv_iadd hx hb dz_1170 ?_
  refine ow_topi (y := nI (6 * n + 2)) (nI_add (6 * n) 2) ?_
  refine va_sld hx hb hX hbl hbA hM.2.2.2.2.2 (vp_in_nI (n := 6 * n + 2) (N := L) (by omega) (by omega)) dz_1171 ?_
  refine ow_topi (y := x2) ((congrArg xs (nI_clamp (by omega))).trans e2) ?_
  obtain ⟨v4, zm3, hcq, hq⟩ := tw_cl1 hq
  refine lx_refi hM (va_runV (As := [.int x1, .int x2]) (rest := []) ⟨hx, hb, hml, hown, hts⟩ (km_X13_cover l D q5 w hM.2.2.2.1.1 K x1 x2 zm zm3 v4 hcq) (cwV 2 hts (lx_gV (lx_all wM_good rfl) (lx_mem hM1 (hZ _ zq_188)) (hZ _ zq_189) (hZ _ zq_190) (hZ _ zq_191) (hZ _ zq_8) rfl rfl rfl rfl) rfl rfl rfl cd_X13_cover ⟨(Nat.le_of_ble_eq_true rfl), (Nat.le_of_ble_eq_true rfl)⟩) (lx_preM hG hM) rfl rfl hl.1 rfl (lv_room (Nat.le_of_ble_eq_true rfl)) dz_1172 ⟨(by show _ ≤ 601024; omega), (by show _ ≤ 7293033; omega)⟩) (fun H locs hM => ?_)
  refine lv_istore (lv' := [(6, .int v4), (5, .int v2), (0, .ref b), (1, .ref (u 0)), (2, .ref (w 0)), (3, .ref (u 52001)), (4, .int (nI (6 * n)))]) hx hb dz_1175 hl (by decide) rfl (fun ls hl => ?_)
  refine lv_goto (tgt := 1682) hx hb dz_1177 (by decide) ?_
  exact kk _ _ H locs ls hM (lv_sub hl [2, 3, 4, 5, 6] rfl) hq
theorem dz_1180 : decode cL_law 1180 = .ok (.aload_n 1, 1) := dw_at dwl_9 (p := 100) rfl (by decide +kernel)
theorem dz_1181 : decode cL_law 1181 = .ok (.aload_n 0, 1) := dw_at dwl_9 (p := 101) rfl (by decide +kernel)
theorem dz_1182 : decode cL_law 1182 = .ok (.iload 4, 2) := dw_at dwl_9 (p := 102) rfl (by decide +kernel)
theorem dz_1184 : decode cL_law 1184 = .ok (.iconst 1, 1) := dw_at dwl_9 (p := 104) rfl (by decide +kernel)
theorem dz_1185 : decode cL_law 1185 = .ok (.iadd, 1) := dw_at dwl_9 (p := 105) rfl (by decide +kernel)
theorem dz_1186 : decode cL_law 1186 = .ok (.iaload, 1) := dw_at dwl_9 (p := 106) rfl (by decide +kernel)
theorem dz_1187 : decode cL_law 1187 = .ok (.aload_n 0, 1) := dw_at dwl_9 (p := 107) rfl (by decide +kernel)
theorem dz_1188 : decode cL_law 1188 = .ok (.iload 4, 2) := dw_at dwl_9 (p := 108) rfl (by decide +kernel)
theorem dz_1190 : decode cL_law 1190 = .ok (.iconst 2, 1) := dw_at dwl_9 (p := 110) rfl (by decide +kernel)
theorem dz_1191 : decode cL_law 1191 = .ok (.iadd, 1) := dw_at dwl_9 (p := 111) rfl (by decide +kernel)
theorem dz_1192 : decode cL_law 1192 = .ok (.iaload, 1) := dw_at dwl_9 (p := 112) rfl (by decide +kernel)
theorem dz_1193 : decode cL_law 1193 = .ok (.aload_n 3, 1) := dw_at dwl_9 (p := 113) rfl (by decide +kernel)
theorem dz_1194 : decode cL_law 1194 = .ok (.invokestatic 223, 3) := dw_at dwl_9 (p := 114) rfl (by decide +kernel)
theorem dz_1197 : decode cL_law 1197 = .ok (.istore 5, 2) := dw_at dwl_9 (p := 117) rfl (by decide +kernel)
theorem dz_1199 : decode cL_law 1199 = .ok (.aload_n 2, 1) := dw_at dwl_9 (p := 119) rfl (by decide +kernel)
theorem dz_1200 : decode cL_law 1200 = .ok (.aload_n 0, 1) := dw_at dwl_10 (p := 0) rfl (by decide +kernel)
theorem dz_1201 : decode cL_law 1201 = .ok (.iload 4, 2) := dw_at dwl_10 (p := 1) rfl (by decide +kernel)
theorem dz_1203 : decode cL_law 1203 = .ok (.iconst 1, 1) := dw_at dwl_10 (p := 3) rfl (by decide +kernel)
theorem dz_1204 : decode cL_law 1204 = .ok (.iadd, 1) := dw_at dwl_10 (p := 4) rfl (by decide +kernel)
theorem dz_1205 : decode cL_law 1205 = .ok (.iaload, 1) := dw_at dwl_10 (p := 5) rfl (by decide +kernel)
theorem dz_1206 : decode cL_law 1206 = .ok (.aload_n 0, 1) := dw_at dwl_10 (p := 6) rfl (by decide +kernel)
theorem dz_1207 : decode cL_law 1207 = .ok (.iload 4, 2) := dw_at dwl_10 (p := 7) rfl (by decide +kernel)
theorem dz_1209 : decode cL_law 1209 = .ok (.iconst 2, 1) := dw_at dwl_10 (p := 9) rfl (by decide +kernel)
theorem dz_1210 : decode cL_law 1210 = .ok (.iadd, 1) := dw_at dwl_10 (p := 10) rfl (by decide +kernel)
theorem dz_1211 : decode cL_law 1211 = .ok (.iaload, 1) := dw_at dwl_10 (p := 11) rfl (by decide +kernel)
theorem dz_1212 : decode cL_law 1212 = .ok (.invokevirtual 225, 3) := dw_at dwl_10 (p := 12) rfl (by decide +kernel)
theorem dz_1215 : decode cL_law 1215 = .ok (.lstore 6, 2) := dw_at dwl_10 (p := 15) rfl (by decide +kernel)
theorem dz_1217 : decode cL_law 1217 = .ok (.goto 465, 3) := dw_at dwl_10 (p := 17) rfl (by decide +kernel)
def ltp_colours (vl : Nat → Nat) (K : Nat) (x1 : Int32) (x2 : Int32) (x3 : Int32) (x4 : Int32) (x5 : Int32) (zc zm : ow_MS) : Option ow_LwS :=
 cs1 (le_L_colours vl K 0 x1 x2 zc) fun v2 zc1 => cs1 (qe_X13_colours K x1 x2 zm) fun v4 zm3 => some (vl, zc1, zm3)
set_option maxHeartbeats 4000000 in
set_option maxRecDepth 100000 in
theorem lxc_colours {p : Program} {l : Launch} {e : Env} {s : State} {m : MethodId} {args : Array Value} {below : List Frame} {meth : Method} {c : Code} {b L K n : Nat} {xs : Nat → Int32} {D : va_G} {q : Nat → ClassId} {q5 : ow_Q5} {vl u w sa : Nat → Nat} {zc zm : ow_MS} {S1 : ow_LwS} {Ts : List Cond} {Q : State → Prop} {H : Heap} {locs : List Loc} {ls : Array Slot} {cells slots : Nat} (hx : p.tables.exec = Jvm.exec) (hb : c.code = cL_law) (hml : c.maxLocals = 8) (hown : s.vm.findClass RL = some m.cls) (hts : ∀ w ∈ Ts, w.before args s = true) (hX : va_X b L xs s s.heap) (hbl : b < s.heap.size) (hZ : ∀ w ∈ wZ, w ∈ Ts) (hL1 : ∀ w ∈ wLL, w ∈ Ts) (hC1 : ∀ w ∈ wC, w ∈ Ts) (hM1 : ∀ w ∈ wM, w ∈ Ts) (hG : lx_G l s D q q5 sa) (hLn : L ≤ 3072) (hn : 6 * n + 6 ≤ L) (hq : ltp_colours vl K (xs (6 * n + 1)) (xs (6 * n + 2)) (xs (6 * n + 3)) (xs (6 * n + 4)) (xs (6 * n + 5)) zc zm = some S1) (hM : lx_M D q q5 s vl u w zc zm H locs) (hl : lv_has ls 8 [(0, .ref b), (1, .ref (u 0)), (2, .ref (w 0)), (3, .ref (u 52001)), (4, .int (nI (6 * n)))]) (hc : cells + 2 ≤ 601024) (hs : slots + 12 ≤ 7293033) (kk : ∀ (zc1 zm1 : ow_MS) (H1 : Heap) (locs1 : List Loc) (ls1 : Array Slot), lx_M D q q5 s vl u w zc1 zm1 H1 locs1 → lv_has ls1 8 [(0, .ref b), (1, .ref (u 0)), (2, .ref (w 0)), (3, .ref (u 52001)), (4, .int (nI (6 * n)))] → some (vl, zc1, zm1) = some S1 → W p l e room_1 s m args below meth c H1 locs1 (cells + 2) (slots + 12) Q (F0 m 1682 ls1 [])) : W p l e room_1 s m args below meth c H locs cells slots Q (F0 m 1180 ls []) := by
  have hbA : ¬ lx_A s b := Nat.not_le.mpr hbl
  generalize e1 : xs (6 * n + 1) = x1 at hq
  generalize e2 : xs (6 * n + 2) = x2 at hq
  generalize e3 : xs (6 * n + 3) = x3 at hq
  generalize e4 : xs (6 * n + 4) = x4 at hq
  generalize e5 : xs (6 * n + 5) = x5 at hq
  unfold ltp_colours at hq
  refine lv_aload_n hx hb dz_1180 rfl (lv_at hl 1 rfl) ?_
  refine lv_aload_n hx hb dz_1181 rfl (lv_at hl 0 rfl) ?_
  refine lv_iload hx hb dz_1182 (lv_at hl 4 rfl) ?_
  refine lv_iconst (v := 1) hx hb dz_1184 (by decide) ?_
  refine lv_iadd hx hb dz_1185 ?_
  refine ow_topi (y := nI (6 * n + 1)) (nI_add (6 * n) 1) ?_
  refine va_sld hx hb hX hbl hbA hM.2.2.2.2.2 (vp_in_nI (n := 6 * n + 1) (N := L) (by omega) (by omega)) dz_1186 ?_
  refine ow_topi (y := x1) ((congrArg xs (nI_clamp (by omega))).trans e1) ?_
  refine lv_aload_n hx hb dz_1187 rfl (lv_at hl 0 rfl) ?_
  refine lv_iload hx hb dz_1188 (lv_at hl 4 rfl) ?_
  refine lv_iconst (v := 2) hx hb dz_1190 (by decide) ?_
  refine lv_iadd hx hb dz_1191 ?_
  refine ow_topi (y := nI (6 * n + 2)) (nI_add (6 * n) 2) ?_
  refine va_sld hx hb hX hbl hbA hM.2.2.2.2.2 (vp_in_nI (n := 6 * n + 2) (N := L) (by omega) (by omega)) dz_1192 ?_
  refine ow_topi (y := x2) ((congrArg xs (nI_clamp (by omega))).trans e2) ?_
  refine lv_aload_n hx hb dz_1193 rfl (lv_at hl 3 rfl) ?_
  obtain ⟨v2, zc1, hcq, hq⟩ := tw_cl1 hq
  refine lx_wrap hM (vx_runSX (As := [.ref (u 0), .int x1, .int x2, .ref (u 52001)]) (rest := []) ⟨hx, hb, hml, hown, hts⟩ (kl_L_colours l D q vl u hM.2.2.1.1 hG.1 sa K 0 x1 x2 (by unfold cw_X11 ci_X11; exact List.mem_singleton.mpr rfl) zc zc1 v2 hcq) (vx_cwSW 4 hts (lx_gS (lx_all wLL_good rfl) (lx_mem hL1 (hZ _ zq_192)) (hZ _ zq_193) (hZ _ zq_194) (hZ _ zq_3) rfl rfl rfl) rfl rfl rfl (by decide +kernel) ⟨(Nat.le_of_ble_eq_true rfl), (Nat.le_of_ble_eq_true rfl)⟩) (lx_preL hG hM) rfl rfl hl.1 rfl (lv_room (Nat.le_of_ble_eq_true rfl)) dz_1194 ⟨(by show _ ≤ 601024; omega), (by show _ ≤ 7293033; omega)⟩) (fun H locs hM => ?_)
  refine lv_istore (lv' := [(5, .int v2), (0, .ref b), (1, .ref (u 0)), (2, .ref (w 0)), (3, .ref (u 52001)), (4, .int (nI (6 * n)))]) hx hb dz_1197 hl (by decide) rfl (fun ls hl => ?_)
  refine lv_aload_n hx hb dz_1199 rfl (lv_at hl 3 rfl) ?_
  refine lv_aload_n hx hb dz_1200 rfl (lv_at hl 1 rfl) ?_
  refine lv_iload hx hb dz_1201 (lv_at hl 5 rfl) ?_
  refine lv_iconst (v := 1) hx hb dz_1203 (by decide) ?_
  refine lv_iadd hx hb dz_1204 ?_
  refine ow_topi (y := nI (6 * n + 1)) (nI_add (6 * n) 1) ?_
  refine va_sld hx hb hX hbl hbA hM.2.2.2.2.2 (vp_in_nI (n := 6 * n + 1) (N := L) (by omega) (by omega)) dz_1205 ?_
  refine ow_topi (y := x1) ((congrArg xs (nI_clamp (by omega))).trans e1) ?_
  refine lv_aload_n hx hb dz_1206 rfl (lv_at hl 1 rfl) ?_
  refine lv_iload hx hb dz_1207 (lv_at hl 5 rfl) ?_
  refine lv_iconst (v := 2) hx hb dz_1209 (by decide) ?_
  refine lv_iadd hx hb dz_1210 ?_
  refine ow_topi (y := nI (6 * n + 2)) (nI_add (6 * n) 2) ?_
  refine va_sld hx hb hX hbl hbA hM.2.2.2.2.2 (vp_in_nI (n := 6 * n + 2) (N := L) (by omega) (by omega)) dz_1211 ?_
  refine ow_topi (y := x2) ((congrArg xs (nI_clamp (by omega))).trans e2) ?_
  obtain ⟨v4, zm3, hcq, hq⟩ := tw_cl1 hq
  refine lx_refl hM (va_runV (As := [.int x1, .int x2]) (rest := []) ⟨hx, hb, hml, hown, hts⟩ (km_X13_colours l D q5 w hM.2.2.2.1.1 K x1 x2 zm zm3 v4 hcq) (cwV 2 hts (lx_gV (lx_all wM_good rfl) (lx_mem hM1 (hZ _ zq_195)) (hZ _ zq_196) (hZ _ zq_197) (hZ _ zq_198) (hZ _ zq_8) rfl rfl rfl rfl) rfl rfl rfl cd_X13_colours ⟨(Nat.le_of_ble_eq_true rfl), (Nat.le_of_ble_eq_true rfl)⟩) (lx_preM hG hM) rfl rfl hl.1 rfl (lv_room (Nat.le_of_ble_eq_true rfl)) dz_1212 ⟨(by show _ ≤ 601024; omega), (by show _ ≤ 7293033; omega)⟩) (fun H locs hM => ?_)
  refine lv_lstore (lv' := [(6, .long v4), (5, .int v2), (0, .ref b), (1, .ref (u 0)), (2, .ref (w 0)), (3, .ref (u 52001)), (4, .int (nI (6 * n)))]) hx hb dz_1215 hl (by decide) rfl (fun ls hl => ?_)
  refine lv_goto (tgt := 1682) hx hb dz_1217 (by decide) ?_
  exact kk _ _ H locs ls hM (lv_sub hl [2, 3, 4, 5, 6] rfl) hq
theorem dz_1220 : decode cL_law 1220 = .ok (.aload_n 1, 1) := dw_at dwl_10 (p := 20) rfl (by decide +kernel)
theorem dz_1221 : decode cL_law 1221 = .ok (.aload_n 0, 1) := dw_at dwl_10 (p := 21) rfl (by decide +kernel)
theorem dz_1222 : decode cL_law 1222 = .ok (.iload 4, 2) := dw_at dwl_10 (p := 22) rfl (by decide +kernel)
theorem dz_1224 : decode cL_law 1224 = .ok (.iconst 1, 1) := dw_at dwl_10 (p := 24) rfl (by decide +kernel)
theorem dz_1225 : decode cL_law 1225 = .ok (.iadd, 1) := dw_at dwl_10 (p := 25) rfl (by decide +kernel)
theorem dz_1226 : decode cL_law 1226 = .ok (.iaload, 1) := dw_at dwl_10 (p := 26) rfl (by decide +kernel)
theorem dz_1227 : decode cL_law 1227 = .ok (.aload_n 0, 1) := dw_at dwl_10 (p := 27) rfl (by decide +kernel)
theorem dz_1228 : decode cL_law 1228 = .ok (.iload 4, 2) := dw_at dwl_10 (p := 28) rfl (by decide +kernel)
theorem dz_1230 : decode cL_law 1230 = .ok (.iconst 2, 1) := dw_at dwl_10 (p := 30) rfl (by decide +kernel)
theorem dz_1231 : decode cL_law 1231 = .ok (.iadd, 1) := dw_at dwl_10 (p := 31) rfl (by decide +kernel)
theorem dz_1232 : decode cL_law 1232 = .ok (.iaload, 1) := dw_at dwl_10 (p := 32) rfl (by decide +kernel)
theorem dz_1233 : decode cL_law 1233 = .ok (.aload_n 3, 1) := dw_at dwl_10 (p := 33) rfl (by decide +kernel)
theorem dz_1234 : decode cL_law 1234 = .ok (.invokestatic 226, 3) := dw_at dwl_10 (p := 34) rfl (by decide +kernel)
theorem dz_1237 : decode cL_law 1237 = .ok (.istore 5, 2) := dw_at dwl_10 (p := 37) rfl (by decide +kernel)
theorem dz_1239 : decode cL_law 1239 = .ok (.aload_n 2, 1) := dw_at dwl_10 (p := 39) rfl (by decide +kernel)
theorem dz_1240 : decode cL_law 1240 = .ok (.aload_n 0, 1) := dw_at dwl_10 (p := 40) rfl (by decide +kernel)
theorem dz_1241 : decode cL_law 1241 = .ok (.iload 4, 2) := dw_at dwl_10 (p := 41) rfl (by decide +kernel)
theorem dz_1243 : decode cL_law 1243 = .ok (.iconst 1, 1) := dw_at dwl_10 (p := 43) rfl (by decide +kernel)
theorem dz_1244 : decode cL_law 1244 = .ok (.iadd, 1) := dw_at dwl_10 (p := 44) rfl (by decide +kernel)
theorem dz_1245 : decode cL_law 1245 = .ok (.iaload, 1) := dw_at dwl_10 (p := 45) rfl (by decide +kernel)
theorem dz_1246 : decode cL_law 1246 = .ok (.aload_n 0, 1) := dw_at dwl_10 (p := 46) rfl (by decide +kernel)
theorem dz_1247 : decode cL_law 1247 = .ok (.iload 4, 2) := dw_at dwl_10 (p := 47) rfl (by decide +kernel)
theorem dz_1249 : decode cL_law 1249 = .ok (.iconst 2, 1) := dw_at dwl_10 (p := 49) rfl (by decide +kernel)
theorem dz_1250 : decode cL_law 1250 = .ok (.iadd, 1) := dw_at dwl_10 (p := 50) rfl (by decide +kernel)
theorem dz_1251 : decode cL_law 1251 = .ok (.iaload, 1) := dw_at dwl_10 (p := 51) rfl (by decide +kernel)
theorem dz_1252 : decode cL_law 1252 = .ok (.invokevirtual 228, 3) := dw_at dwl_10 (p := 52) rfl (by decide +kernel)
theorem dz_1255 : decode cL_law 1255 = .ok (.istore 6, 2) := dw_at dwl_10 (p := 55) rfl (by decide +kernel)
theorem dz_1257 : decode cL_law 1257 = .ok (.goto 425, 3) := dw_at dwl_10 (p := 57) rfl (by decide +kernel)
def ltp_maps (vl : Nat → Nat) (K : Nat) (x1 : Int32) (x2 : Int32) (x3 : Int32) (x4 : Int32) (x5 : Int32) (zc zm : ow_MS) : Option ow_LwS :=
 cs1 (le_L_maps vl K 0 x1 x2 zc) fun v2 zc1 => cs1 (qe_X13_maps K x1 x2 zm) fun v4 zm3 => some (vl, zc1, zm3)
set_option maxHeartbeats 4000000 in
set_option maxRecDepth 100000 in
theorem lxc_maps {p : Program} {l : Launch} {e : Env} {s : State} {m : MethodId} {args : Array Value} {below : List Frame} {meth : Method} {c : Code} {b L K n : Nat} {xs : Nat → Int32} {D : va_G} {q : Nat → ClassId} {q5 : ow_Q5} {vl u w sa : Nat → Nat} {zc zm : ow_MS} {S1 : ow_LwS} {Ts : List Cond} {Q : State → Prop} {H : Heap} {locs : List Loc} {ls : Array Slot} {cells slots : Nat} (hx : p.tables.exec = Jvm.exec) (hb : c.code = cL_law) (hml : c.maxLocals = 8) (hown : s.vm.findClass RL = some m.cls) (hts : ∀ w ∈ Ts, w.before args s = true) (hX : va_X b L xs s s.heap) (hbl : b < s.heap.size) (hZ : ∀ w ∈ wZ, w ∈ Ts) (hL1 : ∀ w ∈ wLL, w ∈ Ts) (hC1 : ∀ w ∈ wC, w ∈ Ts) (hM1 : ∀ w ∈ wM, w ∈ Ts) (hG : lx_G l s D q q5 sa) (hLn : L ≤ 3072) (hn : 6 * n + 6 ≤ L) (hq : ltp_maps vl K (xs (6 * n + 1)) (xs (6 * n + 2)) (xs (6 * n + 3)) (xs (6 * n + 4)) (xs (6 * n + 5)) zc zm = some S1) (hM : lx_M D q q5 s vl u w zc zm H locs) (hl : lv_has ls 8 [(0, .ref b), (1, .ref (u 0)), (2, .ref (w 0)), (3, .ref (u 52001)), (4, .int (nI (6 * n)))]) (hc : cells + 2 ≤ 601024) (hs : slots + 12 ≤ 7293033) (kk : ∀ (zc1 zm1 : ow_MS) (H1 : Heap) (locs1 : List Loc) (ls1 : Array Slot), lx_M D q q5 s vl u w zc1 zm1 H1 locs1 → lv_has ls1 8 [(0, .ref b), (1, .ref (u 0)), (2, .ref (w 0)), (3, .ref (u 52001)), (4, .int (nI (6 * n)))] → some (vl, zc1, zm1) = some S1 → W p l e room_1 s m args below meth c H1 locs1 (cells + 2) (slots + 12) Q (F0 m 1682 ls1 [])) : W p l e room_1 s m args below meth c H locs cells slots Q (F0 m 1220 ls []) := by
  have hbA : ¬ lx_A s b := Nat.not_le.mpr hbl
  generalize e1 : xs (6 * n + 1) = x1 at hq
  generalize e2 : xs (6 * n + 2) = x2 at hq
  generalize e3 : xs (6 * n + 3) = x3 at hq
  generalize e4 : xs (6 * n + 4) = x4 at hq
  generalize e5 : xs (6 * n + 5) = x5 at hq
  unfold ltp_maps at hq
  refine lv_aload_n hx hb dz_1220 rfl (lv_at hl 1 rfl) ?_
  refine lv_aload_n hx hb dz_1221 rfl (lv_at hl 0 rfl) ?_
  refine lv_iload hx hb dz_1222 (lv_at hl 4 rfl) ?_
  refine lv_iconst (v := 1) hx hb dz_1224 (by decide) ?_
  refine lv_iadd hx hb dz_1225 ?_
  refine ow_topi (y := nI (6 * n + 1)) (nI_add (6 * n) 1) ?_
  refine va_sld hx hb hX hbl hbA hM.2.2.2.2.2 (vp_in_nI (n := 6 * n + 1) (N := L) (by omega) (by omega)) dz_1226 ?_
  refine ow_topi (y := x1) ((congrArg xs (nI_clamp (by omega))).trans e1) ?_
  refine lv_aload_n hx hb dz_1227 rfl (lv_at hl 0 rfl) ?_
  refine lv_iload hx hb dz_1228 (lv_at hl 4 rfl) ?_
  refine lv_iconst (v := 2) hx hb dz_1230 (by decide) ?_
  refine lv_iadd hx hb dz_1231 ?_
  refine ow_topi (y := nI (6 * n + 2)) (nI_add (6 * n) 2) ?_
  refine va_sld hx hb hX hbl hbA hM.2.2.2.2.2 (vp_in_nI (n := 6 * n + 2) (N := L) (by omega) (by omega)) dz_1232 ?_
  refine ow_topi (y := x2) ((congrArg xs (nI_clamp (by omega))).trans e2) ?_
  refine lv_aload_n hx hb dz_1233 rfl (lv_at hl 3 rfl) ?_
  obtain ⟨v2, zc1, hcq, hq⟩ := tw_cl1 hq
  refine lx_wrap hM (vx_runSX (As := [.ref (u 0), .int x1, .int x2, .ref (u 52001)]) (rest := []) ⟨hx, hb, hml, hown, hts⟩ (kl_L_maps l D q vl u hM.2.2.1.1 hG.1 sa K 0 x1 x2 (by unfold cw_X11 ci_X11; exact List.mem_singleton.mpr rfl) zc zc1 v2 hcq) (vx_cwSW 4 hts (lx_gS (lx_all wLL_good rfl) (lx_mem hL1 (hZ _ zq_199)) (hZ _ zq_200) (hZ _ zq_201) (hZ _ zq_3) rfl rfl rfl) rfl rfl rfl (by decide +kernel) ⟨(Nat.le_of_ble_eq_true rfl), (Nat.le_of_ble_eq_true rfl)⟩) (lx_preL hG hM) rfl rfl hl.1 rfl (lv_room (Nat.le_of_ble_eq_true rfl)) dz_1234 ⟨(by show _ ≤ 601024; omega), (by show _ ≤ 7293033; omega)⟩) (fun H locs hM => ?_)
  refine lv_istore (lv' := [(5, .int v2), (0, .ref b), (1, .ref (u 0)), (2, .ref (w 0)), (3, .ref (u 52001)), (4, .int (nI (6 * n)))]) hx hb dz_1237 hl (by decide) rfl (fun ls hl => ?_)
  refine lv_aload_n hx hb dz_1239 rfl (lv_at hl 3 rfl) ?_
  refine lv_aload_n hx hb dz_1240 rfl (lv_at hl 1 rfl) ?_
  refine lv_iload hx hb dz_1241 (lv_at hl 5 rfl) ?_
  refine lv_iconst (v := 1) hx hb dz_1243 (by decide) ?_
  refine lv_iadd hx hb dz_1244 ?_
  refine ow_topi (y := nI (6 * n + 1)) (nI_add (6 * n) 1) ?_
  refine va_sld hx hb hX hbl hbA hM.2.2.2.2.2 (vp_in_nI (n := 6 * n + 1) (N := L) (by omega) (by omega)) dz_1245 ?_
  refine ow_topi (y := x1) ((congrArg xs (nI_clamp (by omega))).trans e1) ?_
  refine lv_aload_n hx hb dz_1246 rfl (lv_at hl 1 rfl) ?_
  refine lv_iload hx hb dz_1247 (lv_at hl 5 rfl) ?_
  refine lv_iconst (v := 2) hx hb dz_1249 (by decide) ?_
  refine lv_iadd hx hb dz_1250 ?_
  refine ow_topi (y := nI (6 * n + 2)) (nI_add (6 * n) 2) ?_
  refine va_sld hx hb hX hbl hbA hM.2.2.2.2.2 (vp_in_nI (n := 6 * n + 2) (N := L) (by omega) (by omega)) dz_1251 ?_
  refine ow_topi (y := x2) ((congrArg xs (nI_clamp (by omega))).trans e2) ?_
  obtain ⟨v4, zm3, hcq, hq⟩ := tw_cl1 hq
  refine lx_refi hM (va_runV (As := [.int x1, .int x2]) (rest := []) ⟨hx, hb, hml, hown, hts⟩ (km_X13_maps l D q5 w hM.2.2.2.1.1 K x1 x2 zm zm3 v4 hcq) (cwV 2 hts (lx_gV (lx_all wM_good rfl) (lx_mem hM1 (hZ _ zq_202)) (hZ _ zq_203) (hZ _ zq_204) (hZ _ zq_205) (hZ _ zq_8) rfl rfl rfl rfl) rfl rfl rfl cd_X13_maps ⟨(Nat.le_of_ble_eq_true rfl), (Nat.le_of_ble_eq_true rfl)⟩) (lx_preM hG hM) rfl rfl hl.1 rfl (lv_room (Nat.le_of_ble_eq_true rfl)) dz_1252 ⟨(by show _ ≤ 601024; omega), (by show _ ≤ 7293033; omega)⟩) (fun H locs hM => ?_)
  refine lv_istore (lv' := [(6, .int v4), (5, .int v2), (0, .ref b), (1, .ref (u 0)), (2, .ref (w 0)), (3, .ref (u 52001)), (4, .int (nI (6 * n)))]) hx hb dz_1255 hl (by decide) rfl (fun ls hl => ?_)
  refine lv_goto (tgt := 1682) hx hb dz_1257 (by decide) ?_
  exact kk _ _ H locs ls hM (lv_sub hl [2, 3, 4, 5, 6] rfl) hq
theorem dz_1260 : decode cL_law 1260 = .ok (.aload_n 1, 1) := dw_at dwl_10 (p := 60) rfl (by decide +kernel)
theorem dz_1261 : decode cL_law 1261 = .ok (.aload_n 0, 1) := dw_at dwl_10 (p := 61) rfl (by decide +kernel)
theorem dz_1262 : decode cL_law 1262 = .ok (.iload 4, 2) := dw_at dwl_10 (p := 62) rfl (by decide +kernel)
theorem dz_1264 : decode cL_law 1264 = .ok (.iconst 1, 1) := dw_at dwl_10 (p := 64) rfl (by decide +kernel)
theorem dz_1265 : decode cL_law 1265 = .ok (.iadd, 1) := dw_at dwl_10 (p := 65) rfl (by decide +kernel)
theorem dz_1266 : decode cL_law 1266 = .ok (.iaload, 1) := dw_at dwl_10 (p := 66) rfl (by decide +kernel)
theorem dz_1267 : decode cL_law 1267 = .ok (.aload_n 0, 1) := dw_at dwl_10 (p := 67) rfl (by decide +kernel)
theorem dz_1268 : decode cL_law 1268 = .ok (.iload 4, 2) := dw_at dwl_10 (p := 68) rfl (by decide +kernel)
theorem dz_1270 : decode cL_law 1270 = .ok (.iconst 2, 1) := dw_at dwl_10 (p := 70) rfl (by decide +kernel)
theorem dz_1271 : decode cL_law 1271 = .ok (.iadd, 1) := dw_at dwl_10 (p := 71) rfl (by decide +kernel)
theorem dz_1272 : decode cL_law 1272 = .ok (.iaload, 1) := dw_at dwl_10 (p := 72) rfl (by decide +kernel)
theorem dz_1273 : decode cL_law 1273 = .ok (.aload_n 3, 1) := dw_at dwl_10 (p := 73) rfl (by decide +kernel)
theorem dz_1274 : decode cL_law 1274 = .ok (.invokestatic 229, 3) := dw_at dwl_10 (p := 74) rfl (by decide +kernel)
theorem dz_1277 : decode cL_law 1277 = .ok (.istore 5, 2) := dw_at dwl_10 (p := 77) rfl (by decide +kernel)
theorem dz_1279 : decode cL_law 1279 = .ok (.aload_n 2, 1) := dw_at dwl_10 (p := 79) rfl (by decide +kernel)
theorem dz_1280 : decode cL_law 1280 = .ok (.aload_n 0, 1) := dw_at dwl_10 (p := 80) rfl (by decide +kernel)
theorem dz_1281 : decode cL_law 1281 = .ok (.iload 4, 2) := dw_at dwl_10 (p := 81) rfl (by decide +kernel)
theorem dz_1283 : decode cL_law 1283 = .ok (.iconst 1, 1) := dw_at dwl_10 (p := 83) rfl (by decide +kernel)
theorem dz_1284 : decode cL_law 1284 = .ok (.iadd, 1) := dw_at dwl_10 (p := 84) rfl (by decide +kernel)
theorem dz_1285 : decode cL_law 1285 = .ok (.iaload, 1) := dw_at dwl_10 (p := 85) rfl (by decide +kernel)
theorem dz_1286 : decode cL_law 1286 = .ok (.aload_n 0, 1) := dw_at dwl_10 (p := 86) rfl (by decide +kernel)
theorem dz_1287 : decode cL_law 1287 = .ok (.iload 4, 2) := dw_at dwl_10 (p := 87) rfl (by decide +kernel)
theorem dz_1289 : decode cL_law 1289 = .ok (.iconst 2, 1) := dw_at dwl_10 (p := 89) rfl (by decide +kernel)
theorem dz_1290 : decode cL_law 1290 = .ok (.iadd, 1) := dw_at dwl_10 (p := 90) rfl (by decide +kernel)
theorem dz_1291 : decode cL_law 1291 = .ok (.iaload, 1) := dw_at dwl_10 (p := 91) rfl (by decide +kernel)
theorem dz_1292 : decode cL_law 1292 = .ok (.invokevirtual 231, 3) := dw_at dwl_10 (p := 92) rfl (by decide +kernel)
theorem dz_1295 : decode cL_law 1295 = .ok (.istore 6, 2) := dw_at dwl_10 (p := 95) rfl (by decide +kernel)
theorem dz_1297 : decode cL_law 1297 = .ok (.goto 385, 3) := dw_at dwl_10 (p := 97) rfl (by decide +kernel)
def ltp_chain (vl : Nat → Nat) (K : Nat) (x1 : Int32) (x2 : Int32) (x3 : Int32) (x4 : Int32) (x5 : Int32) (zc zm : ow_MS) : Option ow_LwS :=
 dc1 (le_L_chain vl K 0 x1 x2 zc) fun v2 vm3 zc1 => cs1 (qe_X13_chain K x1 x2 zm) fun v5 zm4 => some (vm3, zc1, zm4)
set_option maxHeartbeats 4000000 in
set_option maxRecDepth 100000 in
theorem lxc_chain {p : Program} {l : Launch} {e : Env} {s : State} {m : MethodId} {args : Array Value} {below : List Frame} {meth : Method} {c : Code} {b L K n : Nat} {xs : Nat → Int32} {D : va_G} {q : Nat → ClassId} {q5 : ow_Q5} {vl u w sa : Nat → Nat} {zc zm : ow_MS} {S1 : ow_LwS} {Ts : List Cond} {Q : State → Prop} {H : Heap} {locs : List Loc} {ls : Array Slot} {cells slots : Nat} (hx : p.tables.exec = Jvm.exec) (hb : c.code = cL_law) (hml : c.maxLocals = 8) (hown : s.vm.findClass RL = some m.cls) (hts : ∀ w ∈ Ts, w.before args s = true) (hX : va_X b L xs s s.heap) (hbl : b < s.heap.size) (hZ : ∀ w ∈ wZ, w ∈ Ts) (hL1 : ∀ w ∈ wLL, w ∈ Ts) (hC1 : ∀ w ∈ wC, w ∈ Ts) (hM1 : ∀ w ∈ wM, w ∈ Ts) (hG : lx_G l s D q q5 sa) (hLn : L ≤ 3072) (hn : 6 * n + 6 ≤ L) (hq : ltp_chain vl K (xs (6 * n + 1)) (xs (6 * n + 2)) (xs (6 * n + 3)) (xs (6 * n + 4)) (xs (6 * n + 5)) zc zm = some S1) (hM : lx_M D q q5 s vl u w zc zm H locs) (hl : lv_has ls 8 [(0, .ref b), (1, .ref (u 0)), (2, .ref (w 0)), (3, .ref (u 52001)), (4, .int (nI (6 * n)))]) (hc : ∀ r v z1, le_L_chain vl K 0 (xs (6 * n + 1)) (xs (6 * n + 2)) zc = some (r, v, z1) → cells + (2 + dca vl v) ≤ 601024 ∧ slots + (12 + dsl vl v) ≤ 7293033) (kk : ∀ (vl1 u1 : Nat → Nat) (zc1 zm1 : ow_MS) (H1 : Heap) (locs1 : List Loc) (ls1 : Array Slot), lx_M D q q5 s vl1 u1 w zc1 zm1 H1 locs1 → lv_has ls1 8 [(0, .ref b), (1, .ref (u1 0)), (2, .ref (w 0)), (3, .ref (u1 52001)), (4, .int (nI (6 * n)))] → some (vl1, zc1, zm1) = some S1 → W p l e room_1 s m args below meth c H1 locs1 (cells + (2 + dca vl vl1)) (slots + (12 + dsl vl vl1)) Q (F0 m 1682 ls1 [])) : W p l e room_1 s m args below meth c H locs cells slots Q (F0 m 1260 ls []) := by
  have hbA : ¬ lx_A s b := Nat.not_le.mpr hbl
  generalize e1 : xs (6 * n + 1) = x1 at hq hc
  generalize e2 : xs (6 * n + 2) = x2 at hq hc
  generalize e3 : xs (6 * n + 3) = x3 at hq
  generalize e4 : xs (6 * n + 4) = x4 at hq
  generalize e5 : xs (6 * n + 5) = x5 at hq
  unfold ltp_chain at hq
  refine lv_aload_n hx hb dz_1260 rfl (lv_at hl 1 rfl) ?_
  refine lv_aload_n hx hb dz_1261 rfl (lv_at hl 0 rfl) ?_
  refine lv_iload hx hb dz_1262 (lv_at hl 4 rfl) ?_
  refine lv_iconst (v := 1) hx hb dz_1264 (by decide) ?_
  refine lv_iadd hx hb dz_1265 ?_
  refine ow_topi (y := nI (6 * n + 1)) (nI_add (6 * n) 1) ?_
  refine va_sld hx hb hX hbl hbA hM.2.2.2.2.2 (vp_in_nI (n := 6 * n + 1) (N := L) (by omega) (by omega)) dz_1266 ?_
  refine ow_topi (y := x1) ((congrArg xs (nI_clamp (by omega))).trans e1) ?_
  refine lv_aload_n hx hb dz_1267 rfl (lv_at hl 0 rfl) ?_
  refine lv_iload hx hb dz_1268 (lv_at hl 4 rfl) ?_
  refine lv_iconst (v := 2) hx hb dz_1270 (by decide) ?_
  refine lv_iadd hx hb dz_1271 ?_
  refine ow_topi (y := nI (6 * n + 2)) (nI_add (6 * n) 2) ?_
  refine va_sld hx hb hX hbl hbA hM.2.2.2.2.2 (vp_in_nI (n := 6 * n + 2) (N := L) (by omega) (by omega)) dz_1272 ?_
  refine ow_topi (y := x2) ((congrArg xs (nI_clamp (by omega))).trans e2) ?_
  refine lv_aload_n hx hb dz_1273 rfl (lv_at hl 3 rfl) ?_
  obtain ⟨v2, vm3, zc1, hcq, hq⟩ := dd_dc1 hq
  obtain ⟨hc, hs⟩ := hc v2 vm3 zc1 hcq
  refine lx_wrapD hM (vx_runSX (As := [.ref (u 0), .int x1, .int x2, .ref (u 52001)]) (rest := []) ⟨hx, hb, hml, hown, hts⟩ (kl_L_chain l D q vl u hM.2.2.1.1 hG.1 sa K 0 x1 x2 (by unfold cw_X11 ci_X11; exact List.mem_singleton.mpr rfl) zc zc1 vm3 v2 H.size hcq) (vx_cwSW 4 hts (lx_gS (lx_all wLL_good rfl) (lx_mem hL1 (hZ _ zq_206)) (hZ _ zq_207) (hZ _ zq_208) (hZ _ zq_3) rfl rfl rfl) rfl rfl rfl (by decide +kernel) ⟨(Nat.le_of_ble_eq_true rfl), (Nat.le_of_ble_eq_true rfl)⟩) (lx_preLD hG hM) rfl rfl hl.1 rfl (lv_room (Nat.le_of_ble_eq_true rfl)) dz_1274 ⟨(by show _ ≤ 601024; omega), (by show _ ≤ 7293033; omega)⟩) (fun u1 H locs hM hs1 => ?_)
  have hl : lv_has ls 8 [(0, .ref b), (1, .ref (u1 0)), (2, .ref (w 0)), (3, .ref (u1 52001)), (4, .int (nI (6 * n)))] := by rw [hs1 0 (by decide), hs1 52001 (by decide)]; exact hl
  refine lv_istore (lv' := [(5, .int v2), (0, .ref b), (1, .ref (u1 0)), (2, .ref (w 0)), (3, .ref (u1 52001)), (4, .int (nI (6 * n)))]) hx hb dz_1277 hl (by decide) rfl (fun ls hl => ?_)
  refine lv_aload_n hx hb dz_1279 rfl (lv_at hl 3 rfl) ?_
  refine lv_aload_n hx hb dz_1280 rfl (lv_at hl 1 rfl) ?_
  refine lv_iload hx hb dz_1281 (lv_at hl 5 rfl) ?_
  refine lv_iconst (v := 1) hx hb dz_1283 (by decide) ?_
  refine lv_iadd hx hb dz_1284 ?_
  refine ow_topi (y := nI (6 * n + 1)) (nI_add (6 * n) 1) ?_
  refine va_sld hx hb hX hbl hbA hM.2.2.2.2.2 (vp_in_nI (n := 6 * n + 1) (N := L) (by omega) (by omega)) dz_1285 ?_
  refine ow_topi (y := x1) ((congrArg xs (nI_clamp (by omega))).trans e1) ?_
  refine lv_aload_n hx hb dz_1286 rfl (lv_at hl 1 rfl) ?_
  refine lv_iload hx hb dz_1287 (lv_at hl 5 rfl) ?_
  refine lv_iconst (v := 2) hx hb dz_1289 (by decide) ?_
  refine lv_iadd hx hb dz_1290 ?_
  refine ow_topi (y := nI (6 * n + 2)) (nI_add (6 * n) 2) ?_
  refine va_sld hx hb hX hbl hbA hM.2.2.2.2.2 (vp_in_nI (n := 6 * n + 2) (N := L) (by omega) (by omega)) dz_1291 ?_
  refine ow_topi (y := x2) ((congrArg xs (nI_clamp (by omega))).trans e2) ?_
  obtain ⟨v5, zm4, hcq, hq⟩ := tw_cl1 hq
  refine lx_refi hM (va_runV (As := [.int x1, .int x2]) (rest := []) ⟨hx, hb, hml, hown, hts⟩ (km_X13_chain l D q5 w hM.2.2.2.1.1 K x1 x2 zm zm4 v5 hcq) (cwV 2 hts (lx_gV (lx_all wM_good rfl) (lx_mem hM1 (hZ _ zq_209)) (hZ _ zq_210) (hZ _ zq_211) (hZ _ zq_212) (hZ _ zq_8) rfl rfl rfl rfl) rfl rfl rfl cd_X13_chain ⟨(Nat.le_of_ble_eq_true rfl), (Nat.le_of_ble_eq_true rfl)⟩) (lx_preM hG hM) rfl rfl hl.1 rfl (lv_room (Nat.le_of_ble_eq_true rfl)) dz_1292 ⟨(by show _ ≤ 601024; omega), (by show _ ≤ 7293033; omega)⟩) (fun H locs hM => ?_)
  refine lv_istore (lv' := [(6, .int v5), (5, .int v2), (0, .ref b), (1, .ref (u1 0)), (2, .ref (w 0)), (3, .ref (u1 52001)), (4, .int (nI (6 * n)))]) hx hb dz_1295 hl (by decide) rfl (fun ls hl => ?_)
  refine lv_goto (tgt := 1682) hx hb dz_1297 (by decide) ?_
  exact kk _ _ _ _ H locs ls hM (lv_sub hl [2, 3, 4, 5, 6] rfl) hq
theorem dz_1300 : decode cL_law 1300 = .ok (.aload_n 1, 1) := dw_at dwl_10 (p := 100) rfl (by decide +kernel)
theorem dz_1301 : decode cL_law 1301 = .ok (.aload_n 0, 1) := dw_at dwl_10 (p := 101) rfl (by decide +kernel)
theorem dz_1302 : decode cL_law 1302 = .ok (.iload 4, 2) := dw_at dwl_10 (p := 102) rfl (by decide +kernel)
theorem dz_1304 : decode cL_law 1304 = .ok (.iconst 1, 1) := dw_at dwl_10 (p := 104) rfl (by decide +kernel)
theorem dz_1305 : decode cL_law 1305 = .ok (.iadd, 1) := dw_at dwl_10 (p := 105) rfl (by decide +kernel)
theorem dz_1306 : decode cL_law 1306 = .ok (.iaload, 1) := dw_at dwl_10 (p := 106) rfl (by decide +kernel)
theorem dz_1307 : decode cL_law 1307 = .ok (.aload_n 0, 1) := dw_at dwl_10 (p := 107) rfl (by decide +kernel)
theorem dz_1308 : decode cL_law 1308 = .ok (.iload 4, 2) := dw_at dwl_10 (p := 108) rfl (by decide +kernel)
theorem dz_1310 : decode cL_law 1310 = .ok (.iconst 2, 1) := dw_at dwl_10 (p := 110) rfl (by decide +kernel)
theorem dz_1311 : decode cL_law 1311 = .ok (.iadd, 1) := dw_at dwl_10 (p := 111) rfl (by decide +kernel)
theorem dz_1312 : decode cL_law 1312 = .ok (.iaload, 1) := dw_at dwl_10 (p := 112) rfl (by decide +kernel)
theorem dz_1313 : decode cL_law 1313 = .ok (.invokevirtual 232, 3) := dw_at dwl_10 (p := 113) rfl (by decide +kernel)
theorem dz_1316 : decode cL_law 1316 = .ok (.pop, 1) := dw_at dwl_10 (p := 116) rfl (by decide +kernel)
theorem dz_1317 : decode cL_law 1317 = .ok (.aload_n 2, 1) := dw_at dwl_10 (p := 117) rfl (by decide +kernel)
theorem dz_1318 : decode cL_law 1318 = .ok (.aload_n 0, 1) := dw_at dwl_10 (p := 118) rfl (by decide +kernel)
theorem dz_1319 : decode cL_law 1319 = .ok (.iload 4, 2) := dw_at dwl_10 (p := 119) rfl (by decide +kernel)
theorem dz_1321 : decode cL_law 1321 = .ok (.iconst 1, 1) := dw_at dwl_11 (p := 1) rfl (by decide +kernel)
theorem dz_1322 : decode cL_law 1322 = .ok (.iadd, 1) := dw_at dwl_11 (p := 2) rfl (by decide +kernel)
theorem dz_1323 : decode cL_law 1323 = .ok (.iaload, 1) := dw_at dwl_11 (p := 3) rfl (by decide +kernel)
theorem dz_1324 : decode cL_law 1324 = .ok (.aload_n 0, 1) := dw_at dwl_11 (p := 4) rfl (by decide +kernel)
theorem dz_1325 : decode cL_law 1325 = .ok (.iload 4, 2) := dw_at dwl_11 (p := 5) rfl (by decide +kernel)
theorem dz_1327 : decode cL_law 1327 = .ok (.iconst 2, 1) := dw_at dwl_11 (p := 7) rfl (by decide +kernel)
theorem dz_1328 : decode cL_law 1328 = .ok (.iadd, 1) := dw_at dwl_11 (p := 8) rfl (by decide +kernel)
theorem dz_1329 : decode cL_law 1329 = .ok (.iaload, 1) := dw_at dwl_11 (p := 9) rfl (by decide +kernel)
theorem dz_1330 : decode cL_law 1330 = .ok (.invokevirtual 235, 3) := dw_at dwl_11 (p := 10) rfl (by decide +kernel)
theorem dz_1333 : decode cL_law 1333 = .ok (.pop, 1) := dw_at dwl_11 (p := 13) rfl (by decide +kernel)
theorem dz_1334 : decode cL_law 1334 = .ok (.goto 348, 3) := dw_at dwl_11 (p := 14) rfl (by decide +kernel)
def ltp_rank (vl : Nat → Nat) (K : Nat) (x1 : Int32) (x2 : Int32) (x3 : Int32) (x4 : Int32) (x5 : Int32) (zc zm : ow_MS) : Option ow_LwS :=
 cs1 (ce_X11_rank vl K 0 x1 x2 zc) fun v2 zc1 => cs1 (qe_X13_rank K x1 x2 zm) fun v4 zm3 => some (vl, zc1, zm3)
set_option maxHeartbeats 4000000 in
set_option maxRecDepth 100000 in
theorem lxc_rank {p : Program} {l : Launch} {e : Env} {s : State} {m : MethodId} {args : Array Value} {below : List Frame} {meth : Method} {c : Code} {b L K n : Nat} {xs : Nat → Int32} {D : va_G} {q : Nat → ClassId} {q5 : ow_Q5} {vl u w sa : Nat → Nat} {zc zm : ow_MS} {S1 : ow_LwS} {Ts : List Cond} {Q : State → Prop} {H : Heap} {locs : List Loc} {ls : Array Slot} {cells slots : Nat} (hx : p.tables.exec = Jvm.exec) (hb : c.code = cL_law) (hml : c.maxLocals = 8) (hown : s.vm.findClass RL = some m.cls) (hts : ∀ w ∈ Ts, w.before args s = true) (hX : va_X b L xs s s.heap) (hbl : b < s.heap.size) (hZ : ∀ w ∈ wZ, w ∈ Ts) (hL1 : ∀ w ∈ wLL, w ∈ Ts) (hC1 : ∀ w ∈ wC, w ∈ Ts) (hM1 : ∀ w ∈ wM, w ∈ Ts) (hG : lx_G l s D q q5 sa) (hLn : L ≤ 3072) (hn : 6 * n + 6 ≤ L) (hq : ltp_rank vl K (xs (6 * n + 1)) (xs (6 * n + 2)) (xs (6 * n + 3)) (xs (6 * n + 4)) (xs (6 * n + 5)) zc zm = some S1) (hM : lx_M D q q5 s vl u w zc zm H locs) (hl : lv_has ls 8 [(0, .ref b), (1, .ref (u 0)), (2, .ref (w 0)), (3, .ref (u 52001)), (4, .int (nI (6 * n)))]) (hc : cells + 0 ≤ 601024) (hs : slots + 0 ≤ 7293033) (kk : ∀ (zc1 zm1 : ow_MS) (H1 : Heap) (locs1 : List Loc) (ls1 : Array Slot), lx_M D q q5 s vl u w zc1 zm1 H1 locs1 → lv_has ls1 8 [(0, .ref b), (1, .ref (u 0)), (2, .ref (w 0)), (3, .ref (u 52001)), (4, .int (nI (6 * n)))] → some (vl, zc1, zm1) = some S1 → W p l e room_1 s m args below meth c H1 locs1 (cells + 0) (slots + 0) Q (F0 m 1682 ls1 [])) : W p l e room_1 s m args below meth c H locs cells slots Q (F0 m 1300 ls []) := by
  have hbA : ¬ lx_A s b := Nat.not_le.mpr hbl
  generalize e1 : xs (6 * n + 1) = x1 at hq
  generalize e2 : xs (6 * n + 2) = x2 at hq
  generalize e3 : xs (6 * n + 3) = x3 at hq
  generalize e4 : xs (6 * n + 4) = x4 at hq
  generalize e5 : xs (6 * n + 5) = x5 at hq
  unfold ltp_rank at hq
  refine lv_aload_n hx hb dz_1300 rfl (lv_at hl 1 rfl) ?_
  refine lv_aload_n hx hb dz_1301 rfl (lv_at hl 0 rfl) ?_
  refine lv_iload hx hb dz_1302 (lv_at hl 4 rfl) ?_
  refine lv_iconst (v := 1) hx hb dz_1304 (by decide) ?_
  refine lv_iadd hx hb dz_1305 ?_
  refine ow_topi (y := nI (6 * n + 1)) (nI_add (6 * n) 1) ?_
  refine va_sld hx hb hX hbl hbA hM.2.2.2.2.2 (vp_in_nI (n := 6 * n + 1) (N := L) (by omega) (by omega)) dz_1306 ?_
  refine ow_topi (y := x1) ((congrArg xs (nI_clamp (by omega))).trans e1) ?_
  refine lv_aload_n hx hb dz_1307 rfl (lv_at hl 0 rfl) ?_
  refine lv_iload hx hb dz_1308 (lv_at hl 4 rfl) ?_
  refine lv_iconst (v := 2) hx hb dz_1310 (by decide) ?_
  refine lv_iadd hx hb dz_1311 ?_
  refine ow_topi (y := nI (6 * n + 2)) (nI_add (6 * n) 2) ?_
  refine va_sld hx hb hX hbl hbA hM.2.2.2.2.2 (vp_in_nI (n := 6 * n + 2) (N := L) (by omega) (by omega)) dz_1312 ?_
  refine ow_topi (y := x2) ((congrArg xs (nI_clamp (by omega))).trans e2) ?_
  obtain ⟨v2, zc1, hcq, hq⟩ := tw_cl1 hq
  refine lx_cls hM (va_runV (As := [.int x1, .int x2]) (rest := []) ⟨hx, hb, hml, hown, hts⟩ (kc_X11_rank l D q vl u hM.2.2.1.1 K 0 x1 x2 (by unfold cw_X11 ci_X11; exact List.mem_singleton.mpr rfl) zc zc1 v2 hcq) (cwV 2 hts (lx_gV (lx_all wC_good rfl) (lx_mem hC1 (hZ _ zq_213)) (hZ _ zq_214) (hZ _ zq_215) (hZ _ zq_216) (hZ _ zq_38) rfl rfl rfl rfl) rfl rfl rfl cdd_X11_rank ⟨(Nat.le_of_ble_eq_true rfl), (Nat.le_of_ble_eq_true rfl)⟩) (lx_preC hG hM) rfl rfl hl.1 rfl (lv_room (Nat.le_of_ble_eq_true rfl)) dz_1313 ⟨(by show _ ≤ 601024; omega), (by show _ ≤ 7293033; omega)⟩) (fun H locs hM => ?_)
  refine lv_pop hx hb dz_1316 rfl ?_
  refine lv_aload_n hx hb dz_1317 rfl (lv_at hl 2 rfl) ?_
  refine lv_aload_n hx hb dz_1318 rfl (lv_at hl 0 rfl) ?_
  refine lv_iload hx hb dz_1319 (lv_at hl 4 rfl) ?_
  refine lv_iconst (v := 1) hx hb dz_1321 (by decide) ?_
  refine lv_iadd hx hb dz_1322 ?_
  refine ow_topi (y := nI (6 * n + 1)) (nI_add (6 * n) 1) ?_
  refine va_sld hx hb hX hbl hbA hM.2.2.2.2.2 (vp_in_nI (n := 6 * n + 1) (N := L) (by omega) (by omega)) dz_1323 ?_
  refine ow_topi (y := x1) ((congrArg xs (nI_clamp (by omega))).trans e1) ?_
  refine lv_aload_n hx hb dz_1324 rfl (lv_at hl 0 rfl) ?_
  refine lv_iload hx hb dz_1325 (lv_at hl 4 rfl) ?_
  refine lv_iconst (v := 2) hx hb dz_1327 (by decide) ?_
  refine lv_iadd hx hb dz_1328 ?_
  refine ow_topi (y := nI (6 * n + 2)) (nI_add (6 * n) 2) ?_
  refine va_sld hx hb hX hbl hbA hM.2.2.2.2.2 (vp_in_nI (n := 6 * n + 2) (N := L) (by omega) (by omega)) dz_1329 ?_
  refine ow_topi (y := x2) ((congrArg xs (nI_clamp (by omega))).trans e2) ?_
  obtain ⟨v4, zm3, hcq, hq⟩ := tw_cl1 hq
  refine lx_refi hM (va_runV (As := [.int x1, .int x2]) (rest := []) ⟨hx, hb, hml, hown, hts⟩ (km_X13_rank l D q5 w hM.2.2.2.1.1 K x1 x2 zm zm3 v4 hcq) (cwV 2 hts (lx_gV (lx_all wM_good rfl) (lx_mem hM1 (hZ _ zq_217)) (hZ _ zq_218) (hZ _ zq_219) (hZ _ zq_220) (hZ _ zq_8) rfl rfl rfl rfl) rfl rfl rfl cd_X13_rank ⟨(Nat.le_of_ble_eq_true rfl), (Nat.le_of_ble_eq_true rfl)⟩) (lx_preM hG hM) rfl rfl hl.1 rfl (lv_room (Nat.le_of_ble_eq_true rfl)) dz_1330 ⟨(by show _ ≤ 601024; omega), (by show _ ≤ 7293033; omega)⟩) (fun H locs hM => ?_)
  refine lv_pop hx hb dz_1333 rfl ?_
  refine lv_goto (tgt := 1682) hx hb dz_1334 (by decide) ?_
  exact kk _ _ H locs ls hM (lv_sub hl [0, 1, 2, 3, 4] rfl) hq
theorem dz_1337 : decode cL_law 1337 = .ok (.aload_n 1, 1) := dw_at dwl_11 (p := 17) rfl (by decide +kernel)
theorem dz_1338 : decode cL_law 1338 = .ok (.aload_n 0, 1) := dw_at dwl_11 (p := 18) rfl (by decide +kernel)
theorem dz_1339 : decode cL_law 1339 = .ok (.iload 4, 2) := dw_at dwl_11 (p := 19) rfl (by decide +kernel)
theorem dz_1341 : decode cL_law 1341 = .ok (.iconst 1, 1) := dw_at dwl_11 (p := 21) rfl (by decide +kernel)
theorem dz_1342 : decode cL_law 1342 = .ok (.iadd, 1) := dw_at dwl_11 (p := 22) rfl (by decide +kernel)
theorem dz_1343 : decode cL_law 1343 = .ok (.iaload, 1) := dw_at dwl_11 (p := 23) rfl (by decide +kernel)
theorem dz_1344 : decode cL_law 1344 = .ok (.aload_n 3, 1) := dw_at dwl_11 (p := 24) rfl (by decide +kernel)
theorem dz_1345 : decode cL_law 1345 = .ok (.invokestatic 236, 3) := dw_at dwl_11 (p := 25) rfl (by decide +kernel)
theorem dz_1348 : decode cL_law 1348 = .ok (.istore 5, 2) := dw_at dwl_11 (p := 28) rfl (by decide +kernel)
theorem dz_1350 : decode cL_law 1350 = .ok (.aload_n 2, 1) := dw_at dwl_11 (p := 30) rfl (by decide +kernel)
theorem dz_1351 : decode cL_law 1351 = .ok (.aload_n 0, 1) := dw_at dwl_11 (p := 31) rfl (by decide +kernel)
theorem dz_1352 : decode cL_law 1352 = .ok (.iload 4, 2) := dw_at dwl_11 (p := 32) rfl (by decide +kernel)
theorem dz_1354 : decode cL_law 1354 = .ok (.iconst 1, 1) := dw_at dwl_11 (p := 34) rfl (by decide +kernel)
theorem dz_1355 : decode cL_law 1355 = .ok (.iadd, 1) := dw_at dwl_11 (p := 35) rfl (by decide +kernel)
theorem dz_1356 : decode cL_law 1356 = .ok (.iaload, 1) := dw_at dwl_11 (p := 36) rfl (by decide +kernel)
theorem dz_1357 : decode cL_law 1357 = .ok (.invokevirtual 238, 3) := dw_at dwl_11 (p := 37) rfl (by decide +kernel)
theorem dz_1360 : decode cL_law 1360 = .ok (.istore 6, 2) := dw_at dwl_11 (p := 40) rfl (by decide +kernel)
theorem dz_1362 : decode cL_law 1362 = .ok (.goto 320, 3) := dw_at dwl_11 (p := 42) rfl (by decide +kernel)
def ltp_closure (vl : Nat → Nat) (K : Nat) (x1 : Int32) (x2 : Int32) (x3 : Int32) (x4 : Int32) (x5 : Int32) (zc zm : ow_MS) : Option ow_LwS :=
 cs1 (le_L_closure vl K 0 x1 zc) fun v2 zc1 => cs1 (qe_X13_closure K x1 zm) fun v4 zm3 => some (vl, zc1, zm3)
set_option maxHeartbeats 4000000 in
set_option maxRecDepth 100000 in
theorem lxc_closure {p : Program} {l : Launch} {e : Env} {s : State} {m : MethodId} {args : Array Value} {below : List Frame} {meth : Method} {c : Code} {b L K n : Nat} {xs : Nat → Int32} {D : va_G} {q : Nat → ClassId} {q5 : ow_Q5} {vl u w sa : Nat → Nat} {zc zm : ow_MS} {S1 : ow_LwS} {Ts : List Cond} {Q : State → Prop} {H : Heap} {locs : List Loc} {ls : Array Slot} {cells slots : Nat} (hx : p.tables.exec = Jvm.exec) (hb : c.code = cL_law) (hml : c.maxLocals = 8) (hown : s.vm.findClass RL = some m.cls) (hts : ∀ w ∈ Ts, w.before args s = true) (hX : va_X b L xs s s.heap) (hbl : b < s.heap.size) (hZ : ∀ w ∈ wZ, w ∈ Ts) (hL1 : ∀ w ∈ wLL, w ∈ Ts) (hC1 : ∀ w ∈ wC, w ∈ Ts) (hM1 : ∀ w ∈ wM, w ∈ Ts) (hG : lx_G l s D q q5 sa) (hLn : L ≤ 3072) (hn : 6 * n + 6 ≤ L) (hq : ltp_closure vl K (xs (6 * n + 1)) (xs (6 * n + 2)) (xs (6 * n + 3)) (xs (6 * n + 4)) (xs (6 * n + 5)) zc zm = some S1) (hM : lx_M D q q5 s vl u w zc zm H locs) (hl : lv_has ls 8 [(0, .ref b), (1, .ref (u 0)), (2, .ref (w 0)), (3, .ref (u 52001)), (4, .int (nI (6 * n)))]) (hc : cells + 3 ≤ 601024) (hs : slots + 18 ≤ 7293033) (kk : ∀ (zc1 zm1 : ow_MS) (H1 : Heap) (locs1 : List Loc) (ls1 : Array Slot), lx_M D q q5 s vl u w zc1 zm1 H1 locs1 → lv_has ls1 8 [(0, .ref b), (1, .ref (u 0)), (2, .ref (w 0)), (3, .ref (u 52001)), (4, .int (nI (6 * n)))] → some (vl, zc1, zm1) = some S1 → W p l e room_1 s m args below meth c H1 locs1 (cells + 3) (slots + 18) Q (F0 m 1682 ls1 [])) : W p l e room_1 s m args below meth c H locs cells slots Q (F0 m 1337 ls []) := by
  have hbA : ¬ lx_A s b := Nat.not_le.mpr hbl
  generalize e1 : xs (6 * n + 1) = x1 at hq
  generalize e2 : xs (6 * n + 2) = x2 at hq
  generalize e3 : xs (6 * n + 3) = x3 at hq
  generalize e4 : xs (6 * n + 4) = x4 at hq
  generalize e5 : xs (6 * n + 5) = x5 at hq
  unfold ltp_closure at hq
  refine lv_aload_n hx hb dz_1337 rfl (lv_at hl 1 rfl) ?_
  refine lv_aload_n hx hb dz_1338 rfl (lv_at hl 0 rfl) ?_
  refine lv_iload hx hb dz_1339 (lv_at hl 4 rfl) ?_
  refine lv_iconst (v := 1) hx hb dz_1341 (by decide) ?_
  refine lv_iadd hx hb dz_1342 ?_
  refine ow_topi (y := nI (6 * n + 1)) (nI_add (6 * n) 1) ?_
  refine va_sld hx hb hX hbl hbA hM.2.2.2.2.2 (vp_in_nI (n := 6 * n + 1) (N := L) (by omega) (by omega)) dz_1343 ?_
  refine ow_topi (y := x1) ((congrArg xs (nI_clamp (by omega))).trans e1) ?_
  refine lv_aload_n hx hb dz_1344 rfl (lv_at hl 3 rfl) ?_
  obtain ⟨v2, zc1, hcq, hq⟩ := tw_cl1 hq
  refine lx_wrap hM (vx_runSX (As := [.ref (u 0), .int x1, .ref (u 52001)]) (rest := []) ⟨hx, hb, hml, hown, hts⟩ (kl_L_closure l D q vl u hM.2.2.1.1 hG.1 sa K 0 x1 (by unfold cw_X11 ci_X11; exact List.mem_singleton.mpr rfl) zc zc1 v2 hcq) (vx_cwSW 3 hts (lx_gS (lx_all wLL_good rfl) (lx_mem hL1 (hZ _ zq_221)) (hZ _ zq_222) (hZ _ zq_223) (hZ _ zq_3) rfl rfl rfl) rfl rfl rfl (by decide +kernel) ⟨(Nat.le_of_ble_eq_true rfl), (Nat.le_of_ble_eq_true rfl)⟩) (lx_preL hG hM) rfl rfl hl.1 rfl (lv_room (Nat.le_of_ble_eq_true rfl)) dz_1345 ⟨(by show _ ≤ 601024; omega), (by show _ ≤ 7293033; omega)⟩) (fun H locs hM => ?_)
  refine lv_istore (lv' := [(5, .int v2), (0, .ref b), (1, .ref (u 0)), (2, .ref (w 0)), (3, .ref (u 52001)), (4, .int (nI (6 * n)))]) hx hb dz_1348 hl (by decide) rfl (fun ls hl => ?_)
  refine lv_aload_n hx hb dz_1350 rfl (lv_at hl 3 rfl) ?_
  refine lv_aload_n hx hb dz_1351 rfl (lv_at hl 1 rfl) ?_
  refine lv_iload hx hb dz_1352 (lv_at hl 5 rfl) ?_
  refine lv_iconst (v := 1) hx hb dz_1354 (by decide) ?_
  refine lv_iadd hx hb dz_1355 ?_
  refine ow_topi (y := nI (6 * n + 1)) (nI_add (6 * n) 1) ?_
  refine va_sld hx hb hX hbl hbA hM.2.2.2.2.2 (vp_in_nI (n := 6 * n + 1) (N := L) (by omega) (by omega)) dz_1356 ?_
  refine ow_topi (y := x1) ((congrArg xs (nI_clamp (by omega))).trans e1) ?_
  obtain ⟨v4, zm3, hcq, hq⟩ := tw_cl1 hq
  refine lx_refi hM (va_runV (As := [.int x1]) (rest := []) ⟨hx, hb, hml, hown, hts⟩ (km_X13_closure l D q5 w hM.2.2.2.1.1 K x1 zm zm3 v4 hcq) (cwV 1 hts (lx_gV (lx_all wM_good rfl) (lx_mem hM1 (hZ _ zq_224)) (hZ _ zq_225) (hZ _ zq_226) (hZ _ zq_227) (hZ _ zq_8) rfl rfl rfl rfl) rfl rfl rfl cd_X13_closure ⟨(Nat.le_of_ble_eq_true rfl), (Nat.le_of_ble_eq_true rfl)⟩) (lx_preM hG hM) rfl rfl hl.1 rfl (lv_room (Nat.le_of_ble_eq_true rfl)) dz_1357 ⟨(by show _ ≤ 601024; omega), (by show _ ≤ 7293033; omega)⟩) (fun H locs hM => ?_)
  refine lv_istore (lv' := [(6, .int v4), (5, .int v2), (0, .ref b), (1, .ref (u 0)), (2, .ref (w 0)), (3, .ref (u 52001)), (4, .int (nI (6 * n)))]) hx hb dz_1360 hl (by decide) rfl (fun ls hl => ?_)
  refine lv_goto (tgt := 1682) hx hb dz_1362 (by decide) ?_
  exact kk _ _ H locs ls hM (lv_sub hl [2, 3, 4, 5, 6] rfl) hq
theorem dz_1365 : decode cL_law 1365 = .ok (.aload_n 1, 1) := dw_at dwl_11 (p := 45) rfl (by decide +kernel)
theorem dz_1366 : decode cL_law 1366 = .ok (.aload_n 0, 1) := dw_at dwl_11 (p := 46) rfl (by decide +kernel)
theorem dz_1367 : decode cL_law 1367 = .ok (.iload 4, 2) := dw_at dwl_11 (p := 47) rfl (by decide +kernel)
theorem dz_1369 : decode cL_law 1369 = .ok (.iconst 1, 1) := dw_at dwl_11 (p := 49) rfl (by decide +kernel)
theorem dz_1370 : decode cL_law 1370 = .ok (.iadd, 1) := dw_at dwl_11 (p := 50) rfl (by decide +kernel)
theorem dz_1371 : decode cL_law 1371 = .ok (.iaload, 1) := dw_at dwl_11 (p := 51) rfl (by decide +kernel)
theorem dz_1372 : decode cL_law 1372 = .ok (.aload_n 0, 1) := dw_at dwl_11 (p := 52) rfl (by decide +kernel)
theorem dz_1373 : decode cL_law 1373 = .ok (.iload 4, 2) := dw_at dwl_11 (p := 53) rfl (by decide +kernel)
theorem dz_1375 : decode cL_law 1375 = .ok (.iconst 2, 1) := dw_at dwl_11 (p := 55) rfl (by decide +kernel)
theorem dz_1376 : decode cL_law 1376 = .ok (.iadd, 1) := dw_at dwl_11 (p := 56) rfl (by decide +kernel)
theorem dz_1377 : decode cL_law 1377 = .ok (.iaload, 1) := dw_at dwl_11 (p := 57) rfl (by decide +kernel)
theorem dz_1378 : decode cL_law 1378 = .ok (.aload_n 3, 1) := dw_at dwl_11 (p := 58) rfl (by decide +kernel)
theorem dz_1379 : decode cL_law 1379 = .ok (.invokestatic 239, 3) := dw_at dwl_11 (p := 59) rfl (by decide +kernel)
theorem dz_1382 : decode cL_law 1382 = .ok (.istore 5, 2) := dw_at dwl_11 (p := 62) rfl (by decide +kernel)
theorem dz_1384 : decode cL_law 1384 = .ok (.aload_n 2, 1) := dw_at dwl_11 (p := 64) rfl (by decide +kernel)
theorem dz_1385 : decode cL_law 1385 = .ok (.aload_n 0, 1) := dw_at dwl_11 (p := 65) rfl (by decide +kernel)
theorem dz_1386 : decode cL_law 1386 = .ok (.iload 4, 2) := dw_at dwl_11 (p := 66) rfl (by decide +kernel)
theorem dz_1388 : decode cL_law 1388 = .ok (.iconst 1, 1) := dw_at dwl_11 (p := 68) rfl (by decide +kernel)
theorem dz_1389 : decode cL_law 1389 = .ok (.iadd, 1) := dw_at dwl_11 (p := 69) rfl (by decide +kernel)
theorem dz_1390 : decode cL_law 1390 = .ok (.iaload, 1) := dw_at dwl_11 (p := 70) rfl (by decide +kernel)
theorem dz_1391 : decode cL_law 1391 = .ok (.aload_n 0, 1) := dw_at dwl_11 (p := 71) rfl (by decide +kernel)
theorem dz_1392 : decode cL_law 1392 = .ok (.iload 4, 2) := dw_at dwl_11 (p := 72) rfl (by decide +kernel)
theorem dz_1394 : decode cL_law 1394 = .ok (.iconst 2, 1) := dw_at dwl_11 (p := 74) rfl (by decide +kernel)
theorem dz_1395 : decode cL_law 1395 = .ok (.iadd, 1) := dw_at dwl_11 (p := 75) rfl (by decide +kernel)
theorem dz_1396 : decode cL_law 1396 = .ok (.iaload, 1) := dw_at dwl_11 (p := 76) rfl (by decide +kernel)
theorem dz_1397 : decode cL_law 1397 = .ok (.invokevirtual 241, 3) := dw_at dwl_11 (p := 77) rfl (by decide +kernel)
theorem dz_1400 : decode cL_law 1400 = .ok (.istore 6, 2) := dw_at dwl_11 (p := 80) rfl (by decide +kernel)
theorem dz_1402 : decode cL_law 1402 = .ok (.goto 280, 3) := dw_at dwl_11 (p := 82) rfl (by decide +kernel)
def ltp_product (vl : Nat → Nat) (K : Nat) (x1 : Int32) (x2 : Int32) (x3 : Int32) (x4 : Int32) (x5 : Int32) (zc zm : ow_MS) : Option ow_LwS :=
 cs1 (le_L_product vl K 0 x1 x2 zc) fun v2 zc1 => cs1 (qe_X13_product K x1 x2 zm) fun v4 zm3 => some (vl, zc1, zm3)
set_option maxHeartbeats 4000000 in
set_option maxRecDepth 100000 in
theorem lxc_product {p : Program} {l : Launch} {e : Env} {s : State} {m : MethodId} {args : Array Value} {below : List Frame} {meth : Method} {c : Code} {b L K n : Nat} {xs : Nat → Int32} {D : va_G} {q : Nat → ClassId} {q5 : ow_Q5} {vl u w sa : Nat → Nat} {zc zm : ow_MS} {S1 : ow_LwS} {Ts : List Cond} {Q : State → Prop} {H : Heap} {locs : List Loc} {ls : Array Slot} {cells slots : Nat} (hx : p.tables.exec = Jvm.exec) (hb : c.code = cL_law) (hml : c.maxLocals = 8) (hown : s.vm.findClass RL = some m.cls) (hts : ∀ w ∈ Ts, w.before args s = true) (hX : va_X b L xs s s.heap) (hbl : b < s.heap.size) (hZ : ∀ w ∈ wZ, w ∈ Ts) (hL1 : ∀ w ∈ wLL, w ∈ Ts) (hC1 : ∀ w ∈ wC, w ∈ Ts) (hM1 : ∀ w ∈ wM, w ∈ Ts) (hG : lx_G l s D q q5 sa) (hLn : L ≤ 3072) (hn : 6 * n + 6 ≤ L) (hq : ltp_product vl K (xs (6 * n + 1)) (xs (6 * n + 2)) (xs (6 * n + 3)) (xs (6 * n + 4)) (xs (6 * n + 5)) zc zm = some S1) (hM : lx_M D q q5 s vl u w zc zm H locs) (hl : lv_has ls 8 [(0, .ref b), (1, .ref (u 0)), (2, .ref (w 0)), (3, .ref (u 52001)), (4, .int (nI (6 * n)))]) (hc : cells + 4 ≤ 601024) (hs : slots + 24 ≤ 7293033) (kk : ∀ (zc1 zm1 : ow_MS) (H1 : Heap) (locs1 : List Loc) (ls1 : Array Slot), lx_M D q q5 s vl u w zc1 zm1 H1 locs1 → lv_has ls1 8 [(0, .ref b), (1, .ref (u 0)), (2, .ref (w 0)), (3, .ref (u 52001)), (4, .int (nI (6 * n)))] → some (vl, zc1, zm1) = some S1 → W p l e room_1 s m args below meth c H1 locs1 (cells + 4) (slots + 24) Q (F0 m 1682 ls1 [])) : W p l e room_1 s m args below meth c H locs cells slots Q (F0 m 1365 ls []) := by
  have hbA : ¬ lx_A s b := Nat.not_le.mpr hbl
  generalize e1 : xs (6 * n + 1) = x1 at hq
  generalize e2 : xs (6 * n + 2) = x2 at hq
  generalize e3 : xs (6 * n + 3) = x3 at hq
  generalize e4 : xs (6 * n + 4) = x4 at hq
  generalize e5 : xs (6 * n + 5) = x5 at hq
  unfold ltp_product at hq
  refine lv_aload_n hx hb dz_1365 rfl (lv_at hl 1 rfl) ?_
  refine lv_aload_n hx hb dz_1366 rfl (lv_at hl 0 rfl) ?_
  refine lv_iload hx hb dz_1367 (lv_at hl 4 rfl) ?_
  refine lv_iconst (v := 1) hx hb dz_1369 (by decide) ?_
  refine lv_iadd hx hb dz_1370 ?_
  refine ow_topi (y := nI (6 * n + 1)) (nI_add (6 * n) 1) ?_
  refine va_sld hx hb hX hbl hbA hM.2.2.2.2.2 (vp_in_nI (n := 6 * n + 1) (N := L) (by omega) (by omega)) dz_1371 ?_
  refine ow_topi (y := x1) ((congrArg xs (nI_clamp (by omega))).trans e1) ?_
  refine lv_aload_n hx hb dz_1372 rfl (lv_at hl 0 rfl) ?_
  refine lv_iload hx hb dz_1373 (lv_at hl 4 rfl) ?_
  refine lv_iconst (v := 2) hx hb dz_1375 (by decide) ?_
  refine lv_iadd hx hb dz_1376 ?_
  refine ow_topi (y := nI (6 * n + 2)) (nI_add (6 * n) 2) ?_
  refine va_sld hx hb hX hbl hbA hM.2.2.2.2.2 (vp_in_nI (n := 6 * n + 2) (N := L) (by omega) (by omega)) dz_1377 ?_
  refine ow_topi (y := x2) ((congrArg xs (nI_clamp (by omega))).trans e2) ?_
  refine lv_aload_n hx hb dz_1378 rfl (lv_at hl 3 rfl) ?_
  obtain ⟨v2, zc1, hcq, hq⟩ := tw_cl1 hq
  refine lx_wrap hM (vx_runSX (As := [.ref (u 0), .int x1, .int x2, .ref (u 52001)]) (rest := []) ⟨hx, hb, hml, hown, hts⟩ (kl_L_product l D q vl u hM.2.2.1.1 hG.1 sa K 0 x1 x2 (by unfold cw_X11 ci_X11; exact List.mem_singleton.mpr rfl) zc zc1 v2 hcq) (vx_cwSW 4 hts (lx_gS (lx_all wLL_good rfl) (lx_mem hL1 (hZ _ zq_228)) (hZ _ zq_229) (hZ _ zq_230) (hZ _ zq_3) rfl rfl rfl) rfl rfl rfl (by decide +kernel) ⟨(Nat.le_of_ble_eq_true rfl), (Nat.le_of_ble_eq_true rfl)⟩) (lx_preL hG hM) rfl rfl hl.1 rfl (lv_room (Nat.le_of_ble_eq_true rfl)) dz_1379 ⟨(by show _ ≤ 601024; omega), (by show _ ≤ 7293033; omega)⟩) (fun H locs hM => ?_)
  refine lv_istore (lv' := [(5, .int v2), (0, .ref b), (1, .ref (u 0)), (2, .ref (w 0)), (3, .ref (u 52001)), (4, .int (nI (6 * n)))]) hx hb dz_1382 hl (by decide) rfl (fun ls hl => ?_)
  refine lv_aload_n hx hb dz_1384 rfl (lv_at hl 3 rfl) ?_
  refine lv_aload_n hx hb dz_1385 rfl (lv_at hl 1 rfl) ?_
  refine lv_iload hx hb dz_1386 (lv_at hl 5 rfl) ?_
  refine lv_iconst (v := 1) hx hb dz_1388 (by decide) ?_
  refine lv_iadd hx hb dz_1389 ?_
  refine ow_topi (y := nI (6 * n + 1)) (nI_add (6 * n) 1) ?_
  refine va_sld hx hb hX hbl hbA hM.2.2.2.2.2 (vp_in_nI (n := 6 * n + 1) (N := L) (by omega) (by omega)) dz_1390 ?_
  refine ow_topi (y := x1) ((congrArg xs (nI_clamp (by omega))).trans e1) ?_
  refine lv_aload_n hx hb dz_1391 rfl (lv_at hl 1 rfl) ?_
  refine lv_iload hx hb dz_1392 (lv_at hl 5 rfl) ?_
  refine lv_iconst (v := 2) hx hb dz_1394 (by decide) ?_
  refine lv_iadd hx hb dz_1395 ?_
  refine ow_topi (y := nI (6 * n + 2)) (nI_add (6 * n) 2) ?_
  refine va_sld hx hb hX hbl hbA hM.2.2.2.2.2 (vp_in_nI (n := 6 * n + 2) (N := L) (by omega) (by omega)) dz_1396 ?_
  refine ow_topi (y := x2) ((congrArg xs (nI_clamp (by omega))).trans e2) ?_
  obtain ⟨v4, zm3, hcq, hq⟩ := tw_cl1 hq
  refine lx_refi hM (va_runV (As := [.int x1, .int x2]) (rest := []) ⟨hx, hb, hml, hown, hts⟩ (km_X13_product l D q5 w hM.2.2.2.1.1 K x1 x2 zm zm3 v4 hcq) (cwV 2 hts (lx_gV (lx_all wM_good rfl) (lx_mem hM1 (hZ _ zq_231)) (hZ _ zq_232) (hZ _ zq_233) (hZ _ zq_234) (hZ _ zq_8) rfl rfl rfl rfl) rfl rfl rfl cd_X13_product ⟨(Nat.le_of_ble_eq_true rfl), (Nat.le_of_ble_eq_true rfl)⟩) (lx_preM hG hM) rfl rfl hl.1 rfl (lv_room (Nat.le_of_ble_eq_true rfl)) dz_1397 ⟨(by show _ ≤ 601024; omega), (by show _ ≤ 7293033; omega)⟩) (fun H locs hM => ?_)
  refine lv_istore (lv' := [(6, .int v4), (5, .int v2), (0, .ref b), (1, .ref (u 0)), (2, .ref (w 0)), (3, .ref (u 52001)), (4, .int (nI (6 * n)))]) hx hb dz_1400 hl (by decide) rfl (fun ls hl => ?_)
  refine lv_goto (tgt := 1682) hx hb dz_1402 (by decide) ?_
  exact kk _ _ H locs ls hM (lv_sub hl [2, 3, 4, 5, 6] rfl) hq
theorem dz_1405 : decode cL_law 1405 = .ok (.aload_n 1, 1) := dw_at dwl_11 (p := 85) rfl (by decide +kernel)
theorem dz_1406 : decode cL_law 1406 = .ok (.aload_n 0, 1) := dw_at dwl_11 (p := 86) rfl (by decide +kernel)
theorem dz_1407 : decode cL_law 1407 = .ok (.iload 4, 2) := dw_at dwl_11 (p := 87) rfl (by decide +kernel)
theorem dz_1409 : decode cL_law 1409 = .ok (.iconst 1, 1) := dw_at dwl_11 (p := 89) rfl (by decide +kernel)
theorem dz_1410 : decode cL_law 1410 = .ok (.iadd, 1) := dw_at dwl_11 (p := 90) rfl (by decide +kernel)
theorem dz_1411 : decode cL_law 1411 = .ok (.iaload, 1) := dw_at dwl_11 (p := 91) rfl (by decide +kernel)
theorem dz_1412 : decode cL_law 1412 = .ok (.aload_n 3, 1) := dw_at dwl_11 (p := 92) rfl (by decide +kernel)
theorem dz_1413 : decode cL_law 1413 = .ok (.invokestatic 242, 3) := dw_at dwl_11 (p := 93) rfl (by decide +kernel)
theorem dz_1416 : decode cL_law 1416 = .ok (.istore 5, 2) := dw_at dwl_11 (p := 96) rfl (by decide +kernel)
theorem dz_1418 : decode cL_law 1418 = .ok (.aload_n 2, 1) := dw_at dwl_11 (p := 98) rfl (by decide +kernel)
theorem dz_1419 : decode cL_law 1419 = .ok (.aload_n 0, 1) := dw_at dwl_11 (p := 99) rfl (by decide +kernel)
theorem dz_1420 : decode cL_law 1420 = .ok (.iload 4, 2) := dw_at dwl_11 (p := 100) rfl (by decide +kernel)
theorem dz_1422 : decode cL_law 1422 = .ok (.iconst 1, 1) := dw_at dwl_11 (p := 102) rfl (by decide +kernel)
theorem dz_1423 : decode cL_law 1423 = .ok (.iadd, 1) := dw_at dwl_11 (p := 103) rfl (by decide +kernel)
theorem dz_1424 : decode cL_law 1424 = .ok (.iaload, 1) := dw_at dwl_11 (p := 104) rfl (by decide +kernel)
theorem dz_1425 : decode cL_law 1425 = .ok (.invokevirtual 244, 3) := dw_at dwl_11 (p := 105) rfl (by decide +kernel)
theorem dz_1428 : decode cL_law 1428 = .ok (.istore 6, 2) := dw_at dwl_11 (p := 108) rfl (by decide +kernel)
theorem dz_1430 : decode cL_law 1430 = .ok (.goto 252, 3) := dw_at dwl_11 (p := 110) rfl (by decide +kernel)
def ltp_inverse (vl : Nat → Nat) (K : Nat) (x1 : Int32) (x2 : Int32) (x3 : Int32) (x4 : Int32) (x5 : Int32) (zc zm : ow_MS) : Option ow_LwS :=
 cs1 (le_L_inverse vl K 0 x1 zc) fun v2 zc1 => cs1 (qe_X13_inverse K x1 zm) fun v4 zm3 => some (vl, zc1, zm3)
set_option maxHeartbeats 4000000 in
set_option maxRecDepth 100000 in
theorem lxc_inverse {p : Program} {l : Launch} {e : Env} {s : State} {m : MethodId} {args : Array Value} {below : List Frame} {meth : Method} {c : Code} {b L K n : Nat} {xs : Nat → Int32} {D : va_G} {q : Nat → ClassId} {q5 : ow_Q5} {vl u w sa : Nat → Nat} {zc zm : ow_MS} {S1 : ow_LwS} {Ts : List Cond} {Q : State → Prop} {H : Heap} {locs : List Loc} {ls : Array Slot} {cells slots : Nat} (hx : p.tables.exec = Jvm.exec) (hb : c.code = cL_law) (hml : c.maxLocals = 8) (hown : s.vm.findClass RL = some m.cls) (hts : ∀ w ∈ Ts, w.before args s = true) (hX : va_X b L xs s s.heap) (hbl : b < s.heap.size) (hZ : ∀ w ∈ wZ, w ∈ Ts) (hL1 : ∀ w ∈ wLL, w ∈ Ts) (hC1 : ∀ w ∈ wC, w ∈ Ts) (hM1 : ∀ w ∈ wM, w ∈ Ts) (hG : lx_G l s D q q5 sa) (hLn : L ≤ 3072) (hn : 6 * n + 6 ≤ L) (hq : ltp_inverse vl K (xs (6 * n + 1)) (xs (6 * n + 2)) (xs (6 * n + 3)) (xs (6 * n + 4)) (xs (6 * n + 5)) zc zm = some S1) (hM : lx_M D q q5 s vl u w zc zm H locs) (hl : lv_has ls 8 [(0, .ref b), (1, .ref (u 0)), (2, .ref (w 0)), (3, .ref (u 52001)), (4, .int (nI (6 * n)))]) (hc : cells + 2 ≤ 601024) (hs : slots + 12 ≤ 7293033) (kk : ∀ (zc1 zm1 : ow_MS) (H1 : Heap) (locs1 : List Loc) (ls1 : Array Slot), lx_M D q q5 s vl u w zc1 zm1 H1 locs1 → lv_has ls1 8 [(0, .ref b), (1, .ref (u 0)), (2, .ref (w 0)), (3, .ref (u 52001)), (4, .int (nI (6 * n)))] → some (vl, zc1, zm1) = some S1 → W p l e room_1 s m args below meth c H1 locs1 (cells + 2) (slots + 12) Q (F0 m 1682 ls1 [])) : W p l e room_1 s m args below meth c H locs cells slots Q (F0 m 1405 ls []) := by
  have hbA : ¬ lx_A s b := Nat.not_le.mpr hbl
  generalize e1 : xs (6 * n + 1) = x1 at hq
  generalize e2 : xs (6 * n + 2) = x2 at hq
  generalize e3 : xs (6 * n + 3) = x3 at hq
  generalize e4 : xs (6 * n + 4) = x4 at hq
  generalize e5 : xs (6 * n + 5) = x5 at hq
  unfold ltp_inverse at hq
  refine lv_aload_n hx hb dz_1405 rfl (lv_at hl 1 rfl) ?_
  refine lv_aload_n hx hb dz_1406 rfl (lv_at hl 0 rfl) ?_
  refine lv_iload hx hb dz_1407 (lv_at hl 4 rfl) ?_
  refine lv_iconst (v := 1) hx hb dz_1409 (by decide) ?_
  refine lv_iadd hx hb dz_1410 ?_
  refine ow_topi (y := nI (6 * n + 1)) (nI_add (6 * n) 1) ?_
  refine va_sld hx hb hX hbl hbA hM.2.2.2.2.2 (vp_in_nI (n := 6 * n + 1) (N := L) (by omega) (by omega)) dz_1411 ?_
  refine ow_topi (y := x1) ((congrArg xs (nI_clamp (by omega))).trans e1) ?_
  refine lv_aload_n hx hb dz_1412 rfl (lv_at hl 3 rfl) ?_
  obtain ⟨v2, zc1, hcq, hq⟩ := tw_cl1 hq
  refine lx_wrap hM (vx_runSX (As := [.ref (u 0), .int x1, .ref (u 52001)]) (rest := []) ⟨hx, hb, hml, hown, hts⟩ (kl_L_inverse l D q vl u hM.2.2.1.1 hG.1 sa K 0 x1 (by unfold cw_X11 ci_X11; exact List.mem_singleton.mpr rfl) zc zc1 v2 hcq) (vx_cwSW 3 hts (lx_gS (lx_all wLL_good rfl) (lx_mem hL1 (hZ _ zq_235)) (hZ _ zq_236) (hZ _ zq_237) (hZ _ zq_3) rfl rfl rfl) rfl rfl rfl (by decide +kernel) ⟨(Nat.le_of_ble_eq_true rfl), (Nat.le_of_ble_eq_true rfl)⟩) (lx_preL hG hM) rfl rfl hl.1 rfl (lv_room (Nat.le_of_ble_eq_true rfl)) dz_1413 ⟨(by show _ ≤ 601024; omega), (by show _ ≤ 7293033; omega)⟩) (fun H locs hM => ?_)
  refine lv_istore (lv' := [(5, .int v2), (0, .ref b), (1, .ref (u 0)), (2, .ref (w 0)), (3, .ref (u 52001)), (4, .int (nI (6 * n)))]) hx hb dz_1416 hl (by decide) rfl (fun ls hl => ?_)
  refine lv_aload_n hx hb dz_1418 rfl (lv_at hl 3 rfl) ?_
  refine lv_aload_n hx hb dz_1419 rfl (lv_at hl 1 rfl) ?_
  refine lv_iload hx hb dz_1420 (lv_at hl 5 rfl) ?_
  refine lv_iconst (v := 1) hx hb dz_1422 (by decide) ?_
  refine lv_iadd hx hb dz_1423 ?_
  refine ow_topi (y := nI (6 * n + 1)) (nI_add (6 * n) 1) ?_
  refine va_sld hx hb hX hbl hbA hM.2.2.2.2.2 (vp_in_nI (n := 6 * n + 1) (N := L) (by omega) (by omega)) dz_1424 ?_
  refine ow_topi (y := x1) ((congrArg xs (nI_clamp (by omega))).trans e1) ?_
  obtain ⟨v4, zm3, hcq, hq⟩ := tw_cl1 hq
  refine lx_refi hM (va_runV (As := [.int x1]) (rest := []) ⟨hx, hb, hml, hown, hts⟩ (km_X13_inverse l D q5 w hM.2.2.2.1.1 K x1 zm zm3 v4 hcq) (cwV 1 hts (lx_gV (lx_all wM_good rfl) (lx_mem hM1 (hZ _ zq_238)) (hZ _ zq_239) (hZ _ zq_240) (hZ _ zq_241) (hZ _ zq_8) rfl rfl rfl rfl) rfl rfl rfl cd_X13_inverse ⟨(Nat.le_of_ble_eq_true rfl), (Nat.le_of_ble_eq_true rfl)⟩) (lx_preM hG hM) rfl rfl hl.1 rfl (lv_room (Nat.le_of_ble_eq_true rfl)) dz_1425 ⟨(by show _ ≤ 601024; omega), (by show _ ≤ 7293033; omega)⟩) (fun H locs hM => ?_)
  refine lv_istore (lv' := [(6, .int v4), (5, .int v2), (0, .ref b), (1, .ref (u 0)), (2, .ref (w 0)), (3, .ref (u 52001)), (4, .int (nI (6 * n)))]) hx hb dz_1428 hl (by decide) rfl (fun ls hl => ?_)
  refine lv_goto (tgt := 1682) hx hb dz_1430 (by decide) ?_
  exact kk _ _ H locs ls hM (lv_sub hl [2, 3, 4, 5, 6] rfl) hq
theorem dz_1433 : decode cL_law 1433 = .ok (.aload_n 1, 1) := dw_at dwl_11 (p := 113) rfl (by decide +kernel)
theorem dz_1434 : decode cL_law 1434 = .ok (.aload_n 0, 1) := dw_at dwl_11 (p := 114) rfl (by decide +kernel)
theorem dz_1435 : decode cL_law 1435 = .ok (.iload 4, 2) := dw_at dwl_11 (p := 115) rfl (by decide +kernel)
theorem dz_1437 : decode cL_law 1437 = .ok (.iconst 1, 1) := dw_at dwl_11 (p := 117) rfl (by decide +kernel)
theorem dz_1438 : decode cL_law 1438 = .ok (.iadd, 1) := dw_at dwl_11 (p := 118) rfl (by decide +kernel)
theorem dz_1439 : decode cL_law 1439 = .ok (.iaload, 1) := dw_at dwl_11 (p := 119) rfl (by decide +kernel)
theorem dz_1440 : decode cL_law 1440 = .ok (.aload_n 0, 1) := dw_at dwl_12 (p := 0) rfl (by decide +kernel)
theorem dz_1441 : decode cL_law 1441 = .ok (.iload 4, 2) := dw_at dwl_12 (p := 1) rfl (by decide +kernel)
theorem dz_1443 : decode cL_law 1443 = .ok (.iconst 2, 1) := dw_at dwl_12 (p := 3) rfl (by decide +kernel)
theorem dz_1444 : decode cL_law 1444 = .ok (.iadd, 1) := dw_at dwl_12 (p := 4) rfl (by decide +kernel)
theorem dz_1445 : decode cL_law 1445 = .ok (.iaload, 1) := dw_at dwl_12 (p := 5) rfl (by decide +kernel)
theorem dz_1446 : decode cL_law 1446 = .ok (.aload_n 3, 1) := dw_at dwl_12 (p := 6) rfl (by decide +kernel)
theorem dz_1447 : decode cL_law 1447 = .ok (.invokestatic 245, 3) := dw_at dwl_12 (p := 7) rfl (by decide +kernel)
theorem dz_1450 : decode cL_law 1450 = .ok (.istore 5, 2) := dw_at dwl_12 (p := 10) rfl (by decide +kernel)
theorem dz_1452 : decode cL_law 1452 = .ok (.aload_n 2, 1) := dw_at dwl_12 (p := 12) rfl (by decide +kernel)
theorem dz_1453 : decode cL_law 1453 = .ok (.aload_n 0, 1) := dw_at dwl_12 (p := 13) rfl (by decide +kernel)
theorem dz_1454 : decode cL_law 1454 = .ok (.iload 4, 2) := dw_at dwl_12 (p := 14) rfl (by decide +kernel)
theorem dz_1456 : decode cL_law 1456 = .ok (.iconst 1, 1) := dw_at dwl_12 (p := 16) rfl (by decide +kernel)
theorem dz_1457 : decode cL_law 1457 = .ok (.iadd, 1) := dw_at dwl_12 (p := 17) rfl (by decide +kernel)
theorem dz_1458 : decode cL_law 1458 = .ok (.iaload, 1) := dw_at dwl_12 (p := 18) rfl (by decide +kernel)
theorem dz_1459 : decode cL_law 1459 = .ok (.aload_n 0, 1) := dw_at dwl_12 (p := 19) rfl (by decide +kernel)
theorem dz_1460 : decode cL_law 1460 = .ok (.iload 4, 2) := dw_at dwl_12 (p := 20) rfl (by decide +kernel)
theorem dz_1462 : decode cL_law 1462 = .ok (.iconst 2, 1) := dw_at dwl_12 (p := 22) rfl (by decide +kernel)
theorem dz_1463 : decode cL_law 1463 = .ok (.iadd, 1) := dw_at dwl_12 (p := 23) rfl (by decide +kernel)
theorem dz_1464 : decode cL_law 1464 = .ok (.iaload, 1) := dw_at dwl_12 (p := 24) rfl (by decide +kernel)
theorem dz_1465 : decode cL_law 1465 = .ok (.invokevirtual 247, 3) := dw_at dwl_12 (p := 25) rfl (by decide +kernel)
theorem dz_1468 : decode cL_law 1468 = .ok (.istore 6, 2) := dw_at dwl_12 (p := 28) rfl (by decide +kernel)
theorem dz_1470 : decode cL_law 1470 = .ok (.goto 212, 3) := dw_at dwl_12 (p := 30) rfl (by decide +kernel)
def ltp_normal (vl : Nat → Nat) (K : Nat) (x1 : Int32) (x2 : Int32) (x3 : Int32) (x4 : Int32) (x5 : Int32) (zc zm : ow_MS) : Option ow_LwS :=
 cs1 (le_L_normal vl K 0 x1 x2 zc) fun v2 zc1 => cs1 (qe_X13_normal K x1 x2 zm) fun v4 zm3 => some (vl, zc1, zm3)
set_option maxHeartbeats 4000000 in
set_option maxRecDepth 100000 in
theorem lxc_normal {p : Program} {l : Launch} {e : Env} {s : State} {m : MethodId} {args : Array Value} {below : List Frame} {meth : Method} {c : Code} {b L K n : Nat} {xs : Nat → Int32} {D : va_G} {q : Nat → ClassId} {q5 : ow_Q5} {vl u w sa : Nat → Nat} {zc zm : ow_MS} {S1 : ow_LwS} {Ts : List Cond} {Q : State → Prop} {H : Heap} {locs : List Loc} {ls : Array Slot} {cells slots : Nat} (hx : p.tables.exec = Jvm.exec) (hb : c.code = cL_law) (hml : c.maxLocals = 8) (hown : s.vm.findClass RL = some m.cls) (hts : ∀ w ∈ Ts, w.before args s = true) (hX : va_X b L xs s s.heap) (hbl : b < s.heap.size) (hZ : ∀ w ∈ wZ, w ∈ Ts) (hL1 : ∀ w ∈ wLL, w ∈ Ts) (hC1 : ∀ w ∈ wC, w ∈ Ts) (hM1 : ∀ w ∈ wM, w ∈ Ts) (hG : lx_G l s D q q5 sa) (hLn : L ≤ 3072) (hn : 6 * n + 6 ≤ L) (hq : ltp_normal vl K (xs (6 * n + 1)) (xs (6 * n + 2)) (xs (6 * n + 3)) (xs (6 * n + 4)) (xs (6 * n + 5)) zc zm = some S1) (hM : lx_M D q q5 s vl u w zc zm H locs) (hl : lv_has ls 8 [(0, .ref b), (1, .ref (u 0)), (2, .ref (w 0)), (3, .ref (u 52001)), (4, .int (nI (6 * n)))]) (hc : cells + 2 ≤ 601024) (hs : slots + 12 ≤ 7293033) (kk : ∀ (zc1 zm1 : ow_MS) (H1 : Heap) (locs1 : List Loc) (ls1 : Array Slot), lx_M D q q5 s vl u w zc1 zm1 H1 locs1 → lv_has ls1 8 [(0, .ref b), (1, .ref (u 0)), (2, .ref (w 0)), (3, .ref (u 52001)), (4, .int (nI (6 * n)))] → some (vl, zc1, zm1) = some S1 → W p l e room_1 s m args below meth c H1 locs1 (cells + 2) (slots + 12) Q (F0 m 1682 ls1 [])) : W p l e room_1 s m args below meth c H locs cells slots Q (F0 m 1433 ls []) := by
  have hbA : ¬ lx_A s b := Nat.not_le.mpr hbl
  generalize e1 : xs (6 * n + 1) = x1 at hq
  generalize e2 : xs (6 * n + 2) = x2 at hq
  generalize e3 : xs (6 * n + 3) = x3 at hq
  generalize e4 : xs (6 * n + 4) = x4 at hq
  generalize e5 : xs (6 * n + 5) = x5 at hq
  unfold ltp_normal at hq
  refine lv_aload_n hx hb dz_1433 rfl (lv_at hl 1 rfl) ?_
  refine lv_aload_n hx hb dz_1434 rfl (lv_at hl 0 rfl) ?_
  refine lv_iload hx hb dz_1435 (lv_at hl 4 rfl) ?_
  refine lv_iconst (v := 1) hx hb dz_1437 (by decide) ?_
  refine lv_iadd hx hb dz_1438 ?_
  refine ow_topi (y := nI (6 * n + 1)) (nI_add (6 * n) 1) ?_
  refine va_sld hx hb hX hbl hbA hM.2.2.2.2.2 (vp_in_nI (n := 6 * n + 1) (N := L) (by omega) (by omega)) dz_1439 ?_
  refine ow_topi (y := x1) ((congrArg xs (nI_clamp (by omega))).trans e1) ?_
  refine lv_aload_n hx hb dz_1440 rfl (lv_at hl 0 rfl) ?_
  refine lv_iload hx hb dz_1441 (lv_at hl 4 rfl) ?_
  refine lv_iconst (v := 2) hx hb dz_1443 (by decide) ?_
  refine lv_iadd hx hb dz_1444 ?_
  refine ow_topi (y := nI (6 * n + 2)) (nI_add (6 * n) 2) ?_
  refine va_sld hx hb hX hbl hbA hM.2.2.2.2.2 (vp_in_nI (n := 6 * n + 2) (N := L) (by omega) (by omega)) dz_1445 ?_
  refine ow_topi (y := x2) ((congrArg xs (nI_clamp (by omega))).trans e2) ?_
  refine lv_aload_n hx hb dz_1446 rfl (lv_at hl 3 rfl) ?_
  obtain ⟨v2, zc1, hcq, hq⟩ := tw_cl1 hq
  refine lx_wrap hM (vx_runSX (As := [.ref (u 0), .int x1, .int x2, .ref (u 52001)]) (rest := []) ⟨hx, hb, hml, hown, hts⟩ (kl_L_normal l D q vl u hM.2.2.1.1 hG.1 sa K 0 x1 x2 (by unfold cw_X11 ci_X11; exact List.mem_singleton.mpr rfl) zc zc1 v2 hcq) (vx_cwSW 4 hts (lx_gS (lx_all wLL_good rfl) (lx_mem hL1 (hZ _ zq_242)) (hZ _ zq_243) (hZ _ zq_244) (hZ _ zq_3) rfl rfl rfl) rfl rfl rfl (by decide +kernel) ⟨(Nat.le_of_ble_eq_true rfl), (Nat.le_of_ble_eq_true rfl)⟩) (lx_preL hG hM) rfl rfl hl.1 rfl (lv_room (Nat.le_of_ble_eq_true rfl)) dz_1447 ⟨(by show _ ≤ 601024; omega), (by show _ ≤ 7293033; omega)⟩) (fun H locs hM => ?_)
  refine lv_istore (lv' := [(5, .int v2), (0, .ref b), (1, .ref (u 0)), (2, .ref (w 0)), (3, .ref (u 52001)), (4, .int (nI (6 * n)))]) hx hb dz_1450 hl (by decide) rfl (fun ls hl => ?_)
  refine lv_aload_n hx hb dz_1452 rfl (lv_at hl 3 rfl) ?_
  refine lv_aload_n hx hb dz_1453 rfl (lv_at hl 1 rfl) ?_
  refine lv_iload hx hb dz_1454 (lv_at hl 5 rfl) ?_
  refine lv_iconst (v := 1) hx hb dz_1456 (by decide) ?_
  refine lv_iadd hx hb dz_1457 ?_
  refine ow_topi (y := nI (6 * n + 1)) (nI_add (6 * n) 1) ?_
  refine va_sld hx hb hX hbl hbA hM.2.2.2.2.2 (vp_in_nI (n := 6 * n + 1) (N := L) (by omega) (by omega)) dz_1458 ?_
  refine ow_topi (y := x1) ((congrArg xs (nI_clamp (by omega))).trans e1) ?_
  refine lv_aload_n hx hb dz_1459 rfl (lv_at hl 1 rfl) ?_
  refine lv_iload hx hb dz_1460 (lv_at hl 5 rfl) ?_
  refine lv_iconst (v := 2) hx hb dz_1462 (by decide) ?_
  refine lv_iadd hx hb dz_1463 ?_
  refine ow_topi (y := nI (6 * n + 2)) (nI_add (6 * n) 2) ?_
  refine va_sld hx hb hX hbl hbA hM.2.2.2.2.2 (vp_in_nI (n := 6 * n + 2) (N := L) (by omega) (by omega)) dz_1464 ?_
  refine ow_topi (y := x2) ((congrArg xs (nI_clamp (by omega))).trans e2) ?_
  obtain ⟨v4, zm3, hcq, hq⟩ := tw_cl1 hq
  refine lx_refi hM (va_runV (As := [.int x1, .int x2]) (rest := []) ⟨hx, hb, hml, hown, hts⟩ (km_X13_normal l D q5 w hM.2.2.2.1.1 K x1 x2 zm zm3 v4 hcq) (cwV 2 hts (lx_gV (lx_all wM_good rfl) (lx_mem hM1 (hZ _ zq_245)) (hZ _ zq_246) (hZ _ zq_247) (hZ _ zq_248) (hZ _ zq_8) rfl rfl rfl rfl) rfl rfl rfl cd_X13_normal ⟨(Nat.le_of_ble_eq_true rfl), (Nat.le_of_ble_eq_true rfl)⟩) (lx_preM hG hM) rfl rfl hl.1 rfl (lv_room (Nat.le_of_ble_eq_true rfl)) dz_1465 ⟨(by show _ ≤ 601024; omega), (by show _ ≤ 7293033; omega)⟩) (fun H locs hM => ?_)
  refine lv_istore (lv' := [(6, .int v4), (5, .int v2), (0, .ref b), (1, .ref (u 0)), (2, .ref (w 0)), (3, .ref (u 52001)), (4, .int (nI (6 * n)))]) hx hb dz_1468 hl (by decide) rfl (fun ls hl => ?_)
  refine lv_goto (tgt := 1682) hx hb dz_1470 (by decide) ?_
  exact kk _ _ H locs ls hM (lv_sub hl [2, 3, 4, 5, 6] rfl) hq
theorem dz_1473 : decode cL_law 1473 = .ok (.aload_n 1, 1) := dw_at dwl_12 (p := 33) rfl (by decide +kernel)
theorem dz_1474 : decode cL_law 1474 = .ok (.aload_n 0, 1) := dw_at dwl_12 (p := 34) rfl (by decide +kernel)
theorem dz_1475 : decode cL_law 1475 = .ok (.iload 4, 2) := dw_at dwl_12 (p := 35) rfl (by decide +kernel)
theorem dz_1477 : decode cL_law 1477 = .ok (.iconst 1, 1) := dw_at dwl_12 (p := 37) rfl (by decide +kernel)
theorem dz_1478 : decode cL_law 1478 = .ok (.iadd, 1) := dw_at dwl_12 (p := 38) rfl (by decide +kernel)
theorem dz_1479 : decode cL_law 1479 = .ok (.iaload, 1) := dw_at dwl_12 (p := 39) rfl (by decide +kernel)
theorem dz_1480 : decode cL_law 1480 = .ok (.aload_n 0, 1) := dw_at dwl_12 (p := 40) rfl (by decide +kernel)
theorem dz_1481 : decode cL_law 1481 = .ok (.iload 4, 2) := dw_at dwl_12 (p := 41) rfl (by decide +kernel)
theorem dz_1483 : decode cL_law 1483 = .ok (.iconst 2, 1) := dw_at dwl_12 (p := 43) rfl (by decide +kernel)
theorem dz_1484 : decode cL_law 1484 = .ok (.iadd, 1) := dw_at dwl_12 (p := 44) rfl (by decide +kernel)
theorem dz_1485 : decode cL_law 1485 = .ok (.iaload, 1) := dw_at dwl_12 (p := 45) rfl (by decide +kernel)
theorem dz_1486 : decode cL_law 1486 = .ok (.aload_n 0, 1) := dw_at dwl_12 (p := 46) rfl (by decide +kernel)
theorem dz_1487 : decode cL_law 1487 = .ok (.iload 4, 2) := dw_at dwl_12 (p := 47) rfl (by decide +kernel)
theorem dz_1489 : decode cL_law 1489 = .ok (.iconst 3, 1) := dw_at dwl_12 (p := 49) rfl (by decide +kernel)
theorem dz_1490 : decode cL_law 1490 = .ok (.iadd, 1) := dw_at dwl_12 (p := 50) rfl (by decide +kernel)
theorem dz_1491 : decode cL_law 1491 = .ok (.iaload, 1) := dw_at dwl_12 (p := 51) rfl (by decide +kernel)
theorem dz_1492 : decode cL_law 1492 = .ok (.aload_n 3, 1) := dw_at dwl_12 (p := 52) rfl (by decide +kernel)
theorem dz_1493 : decode cL_law 1493 = .ok (.invokestatic 248, 3) := dw_at dwl_12 (p := 53) rfl (by decide +kernel)
theorem dz_1496 : decode cL_law 1496 = .ok (.istore 5, 2) := dw_at dwl_12 (p := 56) rfl (by decide +kernel)
theorem dz_1498 : decode cL_law 1498 = .ok (.aload_n 2, 1) := dw_at dwl_12 (p := 58) rfl (by decide +kernel)
theorem dz_1499 : decode cL_law 1499 = .ok (.aload_n 0, 1) := dw_at dwl_12 (p := 59) rfl (by decide +kernel)
theorem dz_1500 : decode cL_law 1500 = .ok (.iload 4, 2) := dw_at dwl_12 (p := 60) rfl (by decide +kernel)
theorem dz_1502 : decode cL_law 1502 = .ok (.iconst 1, 1) := dw_at dwl_12 (p := 62) rfl (by decide +kernel)
theorem dz_1503 : decode cL_law 1503 = .ok (.iadd, 1) := dw_at dwl_12 (p := 63) rfl (by decide +kernel)
theorem dz_1504 : decode cL_law 1504 = .ok (.iaload, 1) := dw_at dwl_12 (p := 64) rfl (by decide +kernel)
theorem dz_1505 : decode cL_law 1505 = .ok (.aload_n 0, 1) := dw_at dwl_12 (p := 65) rfl (by decide +kernel)
theorem dz_1506 : decode cL_law 1506 = .ok (.iload 4, 2) := dw_at dwl_12 (p := 66) rfl (by decide +kernel)
theorem dz_1508 : decode cL_law 1508 = .ok (.iconst 2, 1) := dw_at dwl_12 (p := 68) rfl (by decide +kernel)
theorem dz_1509 : decode cL_law 1509 = .ok (.iadd, 1) := dw_at dwl_12 (p := 69) rfl (by decide +kernel)
theorem dz_1510 : decode cL_law 1510 = .ok (.iaload, 1) := dw_at dwl_12 (p := 70) rfl (by decide +kernel)
theorem dz_1511 : decode cL_law 1511 = .ok (.aload_n 0, 1) := dw_at dwl_12 (p := 71) rfl (by decide +kernel)
theorem dz_1512 : decode cL_law 1512 = .ok (.iload 4, 2) := dw_at dwl_12 (p := 72) rfl (by decide +kernel)
theorem dz_1514 : decode cL_law 1514 = .ok (.iconst 3, 1) := dw_at dwl_12 (p := 74) rfl (by decide +kernel)
theorem dz_1515 : decode cL_law 1515 = .ok (.iadd, 1) := dw_at dwl_12 (p := 75) rfl (by decide +kernel)
theorem dz_1516 : decode cL_law 1516 = .ok (.iaload, 1) := dw_at dwl_12 (p := 76) rfl (by decide +kernel)
theorem dz_1517 : decode cL_law 1517 = .ok (.invokevirtual 250, 3) := dw_at dwl_12 (p := 77) rfl (by decide +kernel)
theorem dz_1520 : decode cL_law 1520 = .ok (.istore 6, 2) := dw_at dwl_12 (p := 80) rfl (by decide +kernel)
theorem dz_1522 : decode cL_law 1522 = .ok (.goto 160, 3) := dw_at dwl_12 (p := 82) rfl (by decide +kernel)
def ltp_factor (vl : Nat → Nat) (K : Nat) (x1 : Int32) (x2 : Int32) (x3 : Int32) (x4 : Int32) (x5 : Int32) (zc zm : ow_MS) : Option ow_LwS :=
 cs1 (le_L_factor vl K 0 x1 x2 x3 zc) fun v2 zc1 => cs1 (qe_X13_factor K x1 x2 x3 zm) fun v4 zm3 => some (vl, zc1, zm3)
set_option maxHeartbeats 4000000 in
set_option maxRecDepth 100000 in
theorem lxc_factor {p : Program} {l : Launch} {e : Env} {s : State} {m : MethodId} {args : Array Value} {below : List Frame} {meth : Method} {c : Code} {b L K n : Nat} {xs : Nat → Int32} {D : va_G} {q : Nat → ClassId} {q5 : ow_Q5} {vl u w sa : Nat → Nat} {zc zm : ow_MS} {S1 : ow_LwS} {Ts : List Cond} {Q : State → Prop} {H : Heap} {locs : List Loc} {ls : Array Slot} {cells slots : Nat} (hx : p.tables.exec = Jvm.exec) (hb : c.code = cL_law) (hml : c.maxLocals = 8) (hown : s.vm.findClass RL = some m.cls) (hts : ∀ w ∈ Ts, w.before args s = true) (hX : va_X b L xs s s.heap) (hbl : b < s.heap.size) (hZ : ∀ w ∈ wZ, w ∈ Ts) (hL1 : ∀ w ∈ wLL, w ∈ Ts) (hC1 : ∀ w ∈ wC, w ∈ Ts) (hM1 : ∀ w ∈ wM, w ∈ Ts) (hG : lx_G l s D q q5 sa) (hLn : L ≤ 3072) (hn : 6 * n + 6 ≤ L) (hq : ltp_factor vl K (xs (6 * n + 1)) (xs (6 * n + 2)) (xs (6 * n + 3)) (xs (6 * n + 4)) (xs (6 * n + 5)) zc zm = some S1) (hM : lx_M D q q5 s vl u w zc zm H locs) (hl : lv_has ls 8 [(0, .ref b), (1, .ref (u 0)), (2, .ref (w 0)), (3, .ref (u 52001)), (4, .int (nI (6 * n)))]) (hc : cells + 1 ≤ 601024) (hs : slots + 6 ≤ 7293033) (kk : ∀ (zc1 zm1 : ow_MS) (H1 : Heap) (locs1 : List Loc) (ls1 : Array Slot), lx_M D q q5 s vl u w zc1 zm1 H1 locs1 → lv_has ls1 8 [(0, .ref b), (1, .ref (u 0)), (2, .ref (w 0)), (3, .ref (u 52001)), (4, .int (nI (6 * n)))] → some (vl, zc1, zm1) = some S1 → W p l e room_1 s m args below meth c H1 locs1 (cells + 1) (slots + 6) Q (F0 m 1682 ls1 [])) : W p l e room_1 s m args below meth c H locs cells slots Q (F0 m 1473 ls []) := by
  have hbA : ¬ lx_A s b := Nat.not_le.mpr hbl
  generalize e1 : xs (6 * n + 1) = x1 at hq
  generalize e2 : xs (6 * n + 2) = x2 at hq
  generalize e3 : xs (6 * n + 3) = x3 at hq
  generalize e4 : xs (6 * n + 4) = x4 at hq
  generalize e5 : xs (6 * n + 5) = x5 at hq
  unfold ltp_factor at hq
  refine lv_aload_n hx hb dz_1473 rfl (lv_at hl 1 rfl) ?_
  refine lv_aload_n hx hb dz_1474 rfl (lv_at hl 0 rfl) ?_
  refine lv_iload hx hb dz_1475 (lv_at hl 4 rfl) ?_
  refine lv_iconst (v := 1) hx hb dz_1477 (by decide) ?_
  refine lv_iadd hx hb dz_1478 ?_
  refine ow_topi (y := nI (6 * n + 1)) (nI_add (6 * n) 1) ?_
  refine va_sld hx hb hX hbl hbA hM.2.2.2.2.2 (vp_in_nI (n := 6 * n + 1) (N := L) (by omega) (by omega)) dz_1479 ?_
  refine ow_topi (y := x1) ((congrArg xs (nI_clamp (by omega))).trans e1) ?_
  refine lv_aload_n hx hb dz_1480 rfl (lv_at hl 0 rfl) ?_
  refine lv_iload hx hb dz_1481 (lv_at hl 4 rfl) ?_
  refine lv_iconst (v := 2) hx hb dz_1483 (by decide) ?_
  refine lv_iadd hx hb dz_1484 ?_
  refine ow_topi (y := nI (6 * n + 2)) (nI_add (6 * n) 2) ?_
  refine va_sld hx hb hX hbl hbA hM.2.2.2.2.2 (vp_in_nI (n := 6 * n + 2) (N := L) (by omega) (by omega)) dz_1485 ?_
  refine ow_topi (y := x2) ((congrArg xs (nI_clamp (by omega))).trans e2) ?_
  refine lv_aload_n hx hb dz_1486 rfl (lv_at hl 0 rfl) ?_
  refine lv_iload hx hb dz_1487 (lv_at hl 4 rfl) ?_
  refine lv_iconst (v := 3) hx hb dz_1489 (by decide) ?_
  refine lv_iadd hx hb dz_1490 ?_
  refine ow_topi (y := nI (6 * n + 3)) (nI_add (6 * n) 3) ?_
  refine va_sld hx hb hX hbl hbA hM.2.2.2.2.2 (vp_in_nI (n := 6 * n + 3) (N := L) (by omega) (by omega)) dz_1491 ?_
  refine ow_topi (y := x3) ((congrArg xs (nI_clamp (by omega))).trans e3) ?_
  refine lv_aload_n hx hb dz_1492 rfl (lv_at hl 3 rfl) ?_
  obtain ⟨v2, zc1, hcq, hq⟩ := tw_cl1 hq
  refine lx_wrap hM (vx_runSX (As := [.ref (u 0), .int x1, .int x2, .int x3, .ref (u 52001)]) (rest := []) ⟨hx, hb, hml, hown, hts⟩ (kl_L_factor l D q vl u hM.2.2.1.1 hG.1 sa K 0 x1 x2 x3 (by unfold cw_X11 ci_X11; exact List.mem_singleton.mpr rfl) zc zc1 v2 hcq) (vx_cwSW 5 hts (lx_gS (lx_all wLL_good rfl) (lx_mem hL1 (hZ _ zq_249)) (hZ _ zq_250) (hZ _ zq_251) (hZ _ zq_3) rfl rfl rfl) rfl rfl rfl (by decide +kernel) ⟨(Nat.le_of_ble_eq_true rfl), (Nat.le_of_ble_eq_true rfl)⟩) (lx_preL hG hM) rfl rfl hl.1 rfl (lv_room (Nat.le_of_ble_eq_true rfl)) dz_1493 ⟨(by show _ ≤ 601024; omega), (by show _ ≤ 7293033; omega)⟩) (fun H locs hM => ?_)
  refine lv_istore (lv' := [(5, .int v2), (0, .ref b), (1, .ref (u 0)), (2, .ref (w 0)), (3, .ref (u 52001)), (4, .int (nI (6 * n)))]) hx hb dz_1496 hl (by decide) rfl (fun ls hl => ?_)
  refine lv_aload_n hx hb dz_1498 rfl (lv_at hl 3 rfl) ?_
  refine lv_aload_n hx hb dz_1499 rfl (lv_at hl 1 rfl) ?_
  refine lv_iload hx hb dz_1500 (lv_at hl 5 rfl) ?_
  refine lv_iconst (v := 1) hx hb dz_1502 (by decide) ?_
  refine lv_iadd hx hb dz_1503 ?_
  refine ow_topi (y := nI (6 * n + 1)) (nI_add (6 * n) 1) ?_
  refine va_sld hx hb hX hbl hbA hM.2.2.2.2.2 (vp_in_nI (n := 6 * n + 1) (N := L) (by omega) (by omega)) dz_1504 ?_
  refine ow_topi (y := x1) ((congrArg xs (nI_clamp (by omega))).trans e1) ?_
  refine lv_aload_n hx hb dz_1505 rfl (lv_at hl 1 rfl) ?_
  refine lv_iload hx hb dz_1506 (lv_at hl 5 rfl) ?_
  refine lv_iconst (v := 2) hx hb dz_1508 (by decide) ?_
  refine lv_iadd hx hb dz_1509 ?_
  refine ow_topi (y := nI (6 * n + 2)) (nI_add (6 * n) 2) ?_
  refine va_sld hx hb hX hbl hbA hM.2.2.2.2.2 (vp_in_nI (n := 6 * n + 2) (N := L) (by omega) (by omega)) dz_1510 ?_
  refine ow_topi (y := x2) ((congrArg xs (nI_clamp (by omega))).trans e2) ?_
  refine lv_aload_n hx hb dz_1511 rfl (lv_at hl 1 rfl) ?_
  refine lv_iload hx hb dz_1512 (lv_at hl 5 rfl) ?_
  refine lv_iconst (v := 3) hx hb dz_1514 (by decide) ?_
  refine lv_iadd hx hb dz_1515 ?_
  refine ow_topi (y := nI (6 * n + 3)) (nI_add (6 * n) 3) ?_
  refine va_sld hx hb hX hbl hbA hM.2.2.2.2.2 (vp_in_nI (n := 6 * n + 3) (N := L) (by omega) (by omega)) dz_1516 ?_
  refine ow_topi (y := x3) ((congrArg xs (nI_clamp (by omega))).trans e3) ?_
  obtain ⟨v4, zm3, hcq, hq⟩ := tw_cl1 hq
  refine lx_refi hM (va_runV (As := [.int x1, .int x2, .int x3]) (rest := []) ⟨hx, hb, hml, hown, hts⟩ (km_X13_factor l D q5 w hM.2.2.2.1.1 K x1 x2 x3 zm zm3 v4 hcq) (cwV 3 hts (lx_gV (lx_all wM_good rfl) (lx_mem hM1 (hZ _ zq_252)) (hZ _ zq_253) (hZ _ zq_254) (hZ _ zq_255) (hZ _ zq_8) rfl rfl rfl rfl) rfl rfl rfl cd_X13_factor ⟨(Nat.le_of_ble_eq_true rfl), (Nat.le_of_ble_eq_true rfl)⟩) (lx_preM hG hM) rfl rfl hl.1 rfl (lv_room (Nat.le_of_ble_eq_true rfl)) dz_1517 ⟨(by show _ ≤ 601024; omega), (by show _ ≤ 7293033; omega)⟩) (fun H locs hM => ?_)
  refine lv_istore (lv' := [(6, .int v4), (5, .int v2), (0, .ref b), (1, .ref (u 0)), (2, .ref (w 0)), (3, .ref (u 52001)), (4, .int (nI (6 * n)))]) hx hb dz_1520 hl (by decide) rfl (fun ls hl => ?_)
  refine lv_goto (tgt := 1682) hx hb dz_1522 (by decide) ?_
  exact kk _ _ H locs ls hM (lv_sub hl [2, 3, 4, 5, 6] rfl) hq
theorem dz_1525 : decode cL_law 1525 = .ok (.aload_n 1, 1) := dw_at dwl_12 (p := 85) rfl (by decide +kernel)
theorem dz_1526 : decode cL_law 1526 = .ok (.aload_n 0, 1) := dw_at dwl_12 (p := 86) rfl (by decide +kernel)
theorem dz_1527 : decode cL_law 1527 = .ok (.iload 4, 2) := dw_at dwl_12 (p := 87) rfl (by decide +kernel)
theorem dz_1529 : decode cL_law 1529 = .ok (.iconst 1, 1) := dw_at dwl_12 (p := 89) rfl (by decide +kernel)
theorem dz_1530 : decode cL_law 1530 = .ok (.iadd, 1) := dw_at dwl_12 (p := 90) rfl (by decide +kernel)
theorem dz_1531 : decode cL_law 1531 = .ok (.iaload, 1) := dw_at dwl_12 (p := 91) rfl (by decide +kernel)
theorem dz_1532 : decode cL_law 1532 = .ok (.aload_n 0, 1) := dw_at dwl_12 (p := 92) rfl (by decide +kernel)
theorem dz_1533 : decode cL_law 1533 = .ok (.iload 4, 2) := dw_at dwl_12 (p := 93) rfl (by decide +kernel)
theorem dz_1535 : decode cL_law 1535 = .ok (.iconst 2, 1) := dw_at dwl_12 (p := 95) rfl (by decide +kernel)
theorem dz_1536 : decode cL_law 1536 = .ok (.iadd, 1) := dw_at dwl_12 (p := 96) rfl (by decide +kernel)
theorem dz_1537 : decode cL_law 1537 = .ok (.iaload, 1) := dw_at dwl_12 (p := 97) rfl (by decide +kernel)
theorem dz_1538 : decode cL_law 1538 = .ok (.invokevirtual 251, 3) := dw_at dwl_12 (p := 98) rfl (by decide +kernel)
theorem dz_1541 : decode cL_law 1541 = .ok (.pop, 1) := dw_at dwl_12 (p := 101) rfl (by decide +kernel)
theorem dz_1542 : decode cL_law 1542 = .ok (.aload_n 2, 1) := dw_at dwl_12 (p := 102) rfl (by decide +kernel)
theorem dz_1543 : decode cL_law 1543 = .ok (.aload_n 0, 1) := dw_at dwl_12 (p := 103) rfl (by decide +kernel)
theorem dz_1544 : decode cL_law 1544 = .ok (.iload 4, 2) := dw_at dwl_12 (p := 104) rfl (by decide +kernel)
theorem dz_1546 : decode cL_law 1546 = .ok (.iconst 1, 1) := dw_at dwl_12 (p := 106) rfl (by decide +kernel)
theorem dz_1547 : decode cL_law 1547 = .ok (.iadd, 1) := dw_at dwl_12 (p := 107) rfl (by decide +kernel)
theorem dz_1548 : decode cL_law 1548 = .ok (.iaload, 1) := dw_at dwl_12 (p := 108) rfl (by decide +kernel)
theorem dz_1549 : decode cL_law 1549 = .ok (.aload_n 0, 1) := dw_at dwl_12 (p := 109) rfl (by decide +kernel)
theorem dz_1550 : decode cL_law 1550 = .ok (.iload 4, 2) := dw_at dwl_12 (p := 110) rfl (by decide +kernel)
theorem dz_1552 : decode cL_law 1552 = .ok (.iconst 2, 1) := dw_at dwl_12 (p := 112) rfl (by decide +kernel)
theorem dz_1553 : decode cL_law 1553 = .ok (.iadd, 1) := dw_at dwl_12 (p := 113) rfl (by decide +kernel)
theorem dz_1554 : decode cL_law 1554 = .ok (.iaload, 1) := dw_at dwl_12 (p := 114) rfl (by decide +kernel)
theorem dz_1555 : decode cL_law 1555 = .ok (.invokevirtual 254, 3) := dw_at dwl_12 (p := 115) rfl (by decide +kernel)
theorem dz_1558 : decode cL_law 1558 = .ok (.pop, 1) := dw_at dwl_12 (p := 118) rfl (by decide +kernel)
theorem dz_1559 : decode cL_law 1559 = .ok (.goto 123, 3) := dw_at dwl_12 (p := 119) rfl (by decide +kernel)
def ltp_equal (vl : Nat → Nat) (K : Nat) (x1 : Int32) (x2 : Int32) (x3 : Int32) (x4 : Int32) (x5 : Int32) (zc zm : ow_MS) : Option ow_LwS :=
 cs1 (ce_X11_equal vl K 0 x1 x2 zc) fun v2 zc1 => cs1 (qe_X13_equal K x1 x2 zm) fun v4 zm3 => some (vl, zc1, zm3)
set_option maxHeartbeats 4000000 in
set_option maxRecDepth 100000 in
theorem lxc_equal {p : Program} {l : Launch} {e : Env} {s : State} {m : MethodId} {args : Array Value} {below : List Frame} {meth : Method} {c : Code} {b L K n : Nat} {xs : Nat → Int32} {D : va_G} {q : Nat → ClassId} {q5 : ow_Q5} {vl u w sa : Nat → Nat} {zc zm : ow_MS} {S1 : ow_LwS} {Ts : List Cond} {Q : State → Prop} {H : Heap} {locs : List Loc} {ls : Array Slot} {cells slots : Nat} (hx : p.tables.exec = Jvm.exec) (hb : c.code = cL_law) (hml : c.maxLocals = 8) (hown : s.vm.findClass RL = some m.cls) (hts : ∀ w ∈ Ts, w.before args s = true) (hX : va_X b L xs s s.heap) (hbl : b < s.heap.size) (hZ : ∀ w ∈ wZ, w ∈ Ts) (hL1 : ∀ w ∈ wLL, w ∈ Ts) (hC1 : ∀ w ∈ wC, w ∈ Ts) (hM1 : ∀ w ∈ wM, w ∈ Ts) (hG : lx_G l s D q q5 sa) (hLn : L ≤ 3072) (hn : 6 * n + 6 ≤ L) (hq : ltp_equal vl K (xs (6 * n + 1)) (xs (6 * n + 2)) (xs (6 * n + 3)) (xs (6 * n + 4)) (xs (6 * n + 5)) zc zm = some S1) (hM : lx_M D q q5 s vl u w zc zm H locs) (hl : lv_has ls 8 [(0, .ref b), (1, .ref (u 0)), (2, .ref (w 0)), (3, .ref (u 52001)), (4, .int (nI (6 * n)))]) (hc : cells + 0 ≤ 601024) (hs : slots + 0 ≤ 7293033) (kk : ∀ (zc1 zm1 : ow_MS) (H1 : Heap) (locs1 : List Loc) (ls1 : Array Slot), lx_M D q q5 s vl u w zc1 zm1 H1 locs1 → lv_has ls1 8 [(0, .ref b), (1, .ref (u 0)), (2, .ref (w 0)), (3, .ref (u 52001)), (4, .int (nI (6 * n)))] → some (vl, zc1, zm1) = some S1 → W p l e room_1 s m args below meth c H1 locs1 (cells + 0) (slots + 0) Q (F0 m 1682 ls1 [])) : W p l e room_1 s m args below meth c H locs cells slots Q (F0 m 1525 ls []) := by
  have hbA : ¬ lx_A s b := Nat.not_le.mpr hbl
  generalize e1 : xs (6 * n + 1) = x1 at hq
  generalize e2 : xs (6 * n + 2) = x2 at hq
  generalize e3 : xs (6 * n + 3) = x3 at hq
  generalize e4 : xs (6 * n + 4) = x4 at hq
  generalize e5 : xs (6 * n + 5) = x5 at hq
  unfold ltp_equal at hq
  refine lv_aload_n hx hb dz_1525 rfl (lv_at hl 1 rfl) ?_
  refine lv_aload_n hx hb dz_1526 rfl (lv_at hl 0 rfl) ?_
  refine lv_iload hx hb dz_1527 (lv_at hl 4 rfl) ?_
  refine lv_iconst (v := 1) hx hb dz_1529 (by decide) ?_
  refine lv_iadd hx hb dz_1530 ?_
  refine ow_topi (y := nI (6 * n + 1)) (nI_add (6 * n) 1) ?_
  refine va_sld hx hb hX hbl hbA hM.2.2.2.2.2 (vp_in_nI (n := 6 * n + 1) (N := L) (by omega) (by omega)) dz_1531 ?_
  refine ow_topi (y := x1) ((congrArg xs (nI_clamp (by omega))).trans e1) ?_
  refine lv_aload_n hx hb dz_1532 rfl (lv_at hl 0 rfl) ?_
  refine lv_iload hx hb dz_1533 (lv_at hl 4 rfl) ?_
  refine lv_iconst (v := 2) hx hb dz_1535 (by decide) ?_
  refine lv_iadd hx hb dz_1536 ?_
  refine ow_topi (y := nI (6 * n + 2)) (nI_add (6 * n) 2) ?_
  refine va_sld hx hb hX hbl hbA hM.2.2.2.2.2 (vp_in_nI (n := 6 * n + 2) (N := L) (by omega) (by omega)) dz_1537 ?_
  refine ow_topi (y := x2) ((congrArg xs (nI_clamp (by omega))).trans e2) ?_
  obtain ⟨v2, zc1, hcq, hq⟩ := tw_cl1 hq
  refine lx_cls hM (va_runV (As := [.int x1, .int x2]) (rest := []) ⟨hx, hb, hml, hown, hts⟩ (kc_X11_equal l D q vl u hM.2.2.1.1 K 0 x1 x2 (by unfold cw_X11 ci_X11; exact List.mem_singleton.mpr rfl) zc zc1 v2 hcq) (cwV 2 hts (lx_gV (lx_all wC_good rfl) (lx_mem hC1 (hZ _ zq_256)) (hZ _ zq_257) (hZ _ zq_258) (hZ _ zq_259) (hZ _ zq_38) rfl rfl rfl rfl) rfl rfl rfl cdd_X11_equal ⟨(Nat.le_of_ble_eq_true rfl), (Nat.le_of_ble_eq_true rfl)⟩) (lx_preC hG hM) rfl rfl hl.1 rfl (lv_room (Nat.le_of_ble_eq_true rfl)) dz_1538 ⟨(by show _ ≤ 601024; omega), (by show _ ≤ 7293033; omega)⟩) (fun H locs hM => ?_)
  refine lv_pop hx hb dz_1541 rfl ?_
  refine lv_aload_n hx hb dz_1542 rfl (lv_at hl 2 rfl) ?_
  refine lv_aload_n hx hb dz_1543 rfl (lv_at hl 0 rfl) ?_
  refine lv_iload hx hb dz_1544 (lv_at hl 4 rfl) ?_
  refine lv_iconst (v := 1) hx hb dz_1546 (by decide) ?_
  refine lv_iadd hx hb dz_1547 ?_
  refine ow_topi (y := nI (6 * n + 1)) (nI_add (6 * n) 1) ?_
  refine va_sld hx hb hX hbl hbA hM.2.2.2.2.2 (vp_in_nI (n := 6 * n + 1) (N := L) (by omega) (by omega)) dz_1548 ?_
  refine ow_topi (y := x1) ((congrArg xs (nI_clamp (by omega))).trans e1) ?_
  refine lv_aload_n hx hb dz_1549 rfl (lv_at hl 0 rfl) ?_
  refine lv_iload hx hb dz_1550 (lv_at hl 4 rfl) ?_
  refine lv_iconst (v := 2) hx hb dz_1552 (by decide) ?_
  refine lv_iadd hx hb dz_1553 ?_
  refine ow_topi (y := nI (6 * n + 2)) (nI_add (6 * n) 2) ?_
  refine va_sld hx hb hX hbl hbA hM.2.2.2.2.2 (vp_in_nI (n := 6 * n + 2) (N := L) (by omega) (by omega)) dz_1554 ?_
  refine ow_topi (y := x2) ((congrArg xs (nI_clamp (by omega))).trans e2) ?_
  obtain ⟨v4, zm3, hcq, hq⟩ := tw_cl1 hq
  refine lx_refi hM (va_runV (As := [.int x1, .int x2]) (rest := []) ⟨hx, hb, hml, hown, hts⟩ (km_X13_equal l D q5 w hM.2.2.2.1.1 K x1 x2 zm zm3 v4 hcq) (cwV 2 hts (lx_gV (lx_all wM_good rfl) (lx_mem hM1 (hZ _ zq_260)) (hZ _ zq_261) (hZ _ zq_262) (hZ _ zq_263) (hZ _ zq_8) rfl rfl rfl rfl) rfl rfl rfl cd_X13_equal ⟨(Nat.le_of_ble_eq_true rfl), (Nat.le_of_ble_eq_true rfl)⟩) (lx_preM hG hM) rfl rfl hl.1 rfl (lv_room (Nat.le_of_ble_eq_true rfl)) dz_1555 ⟨(by show _ ≤ 601024; omega), (by show _ ≤ 7293033; omega)⟩) (fun H locs hM => ?_)
  refine lv_pop hx hb dz_1558 rfl ?_
  refine lv_goto (tgt := 1682) hx hb dz_1559 (by decide) ?_
  exact kk _ _ H locs ls hM (lv_sub hl [0, 1, 2, 3, 4] rfl) hq
theorem dz_1562 : decode cL_law 1562 = .ok (.aload_n 1, 1) := dw_at dwl_13 (p := 2) rfl (by decide +kernel)
theorem dz_1563 : decode cL_law 1563 = .ok (.aload_n 0, 1) := dw_at dwl_13 (p := 3) rfl (by decide +kernel)
theorem dz_1564 : decode cL_law 1564 = .ok (.iload 4, 2) := dw_at dwl_13 (p := 4) rfl (by decide +kernel)
theorem dz_1566 : decode cL_law 1566 = .ok (.iconst 1, 1) := dw_at dwl_13 (p := 6) rfl (by decide +kernel)
theorem dz_1567 : decode cL_law 1567 = .ok (.iadd, 1) := dw_at dwl_13 (p := 7) rfl (by decide +kernel)
theorem dz_1568 : decode cL_law 1568 = .ok (.iaload, 1) := dw_at dwl_13 (p := 8) rfl (by decide +kernel)
theorem dz_1569 : decode cL_law 1569 = .ok (.aload_n 3, 1) := dw_at dwl_13 (p := 9) rfl (by decide +kernel)
theorem dz_1570 : decode cL_law 1570 = .ok (.invokestatic 255, 3) := dw_at dwl_13 (p := 10) rfl (by decide +kernel)
theorem dz_1573 : decode cL_law 1573 = .ok (.istore 5, 2) := dw_at dwl_13 (p := 13) rfl (by decide +kernel)
theorem dz_1575 : decode cL_law 1575 = .ok (.aload_n 2, 1) := dw_at dwl_13 (p := 15) rfl (by decide +kernel)
theorem dz_1576 : decode cL_law 1576 = .ok (.aload_n 0, 1) := dw_at dwl_13 (p := 16) rfl (by decide +kernel)
theorem dz_1577 : decode cL_law 1577 = .ok (.iload 4, 2) := dw_at dwl_13 (p := 17) rfl (by decide +kernel)
theorem dz_1579 : decode cL_law 1579 = .ok (.iconst 1, 1) := dw_at dwl_13 (p := 19) rfl (by decide +kernel)
theorem dz_1580 : decode cL_law 1580 = .ok (.iadd, 1) := dw_at dwl_13 (p := 20) rfl (by decide +kernel)
theorem dz_1581 : decode cL_law 1581 = .ok (.iaload, 1) := dw_at dwl_13 (p := 21) rfl (by decide +kernel)
theorem dz_1582 : decode cL_law 1582 = .ok (.invokevirtual 257, 3) := dw_at dwl_13 (p := 22) rfl (by decide +kernel)
theorem dz_1585 : decode cL_law 1585 = .ok (.istore 6, 2) := dw_at dwl_13 (p := 25) rfl (by decide +kernel)
theorem dz_1587 : decode cL_law 1587 = .ok (.goto 95, 3) := dw_at dwl_13 (p := 27) rfl (by decide +kernel)
def ltp_summit (vl : Nat → Nat) (K : Nat) (x1 : Int32) (x2 : Int32) (x3 : Int32) (x4 : Int32) (x5 : Int32) (zc zm : ow_MS) : Option ow_LwS :=
 cs1 (le_L_summit vl K 0 x1 zc) fun v2 zc1 => cs1 (qe_X13_summit K x1 zm) fun v4 zm3 => some (vl, zc1, zm3)
set_option maxHeartbeats 4000000 in
set_option maxRecDepth 100000 in
theorem lxc_summit {p : Program} {l : Launch} {e : Env} {s : State} {m : MethodId} {args : Array Value} {below : List Frame} {meth : Method} {c : Code} {b L K n : Nat} {xs : Nat → Int32} {D : va_G} {q : Nat → ClassId} {q5 : ow_Q5} {vl u w sa : Nat → Nat} {zc zm : ow_MS} {S1 : ow_LwS} {Ts : List Cond} {Q : State → Prop} {H : Heap} {locs : List Loc} {ls : Array Slot} {cells slots : Nat} (hx : p.tables.exec = Jvm.exec) (hb : c.code = cL_law) (hml : c.maxLocals = 8) (hown : s.vm.findClass RL = some m.cls) (hts : ∀ w ∈ Ts, w.before args s = true) (hX : va_X b L xs s s.heap) (hbl : b < s.heap.size) (hZ : ∀ w ∈ wZ, w ∈ Ts) (hL1 : ∀ w ∈ wLL, w ∈ Ts) (hC1 : ∀ w ∈ wC, w ∈ Ts) (hM1 : ∀ w ∈ wM, w ∈ Ts) (hG : lx_G l s D q q5 sa) (hLn : L ≤ 3072) (hn : 6 * n + 6 ≤ L) (hq : ltp_summit vl K (xs (6 * n + 1)) (xs (6 * n + 2)) (xs (6 * n + 3)) (xs (6 * n + 4)) (xs (6 * n + 5)) zc zm = some S1) (hM : lx_M D q q5 s vl u w zc zm H locs) (hl : lv_has ls 8 [(0, .ref b), (1, .ref (u 0)), (2, .ref (w 0)), (3, .ref (u 52001)), (4, .int (nI (6 * n)))]) (hc : cells + 2 ≤ 601024) (hs : slots + 12 ≤ 7293033) (kk : ∀ (zc1 zm1 : ow_MS) (H1 : Heap) (locs1 : List Loc) (ls1 : Array Slot), lx_M D q q5 s vl u w zc1 zm1 H1 locs1 → lv_has ls1 8 [(0, .ref b), (1, .ref (u 0)), (2, .ref (w 0)), (3, .ref (u 52001)), (4, .int (nI (6 * n)))] → some (vl, zc1, zm1) = some S1 → W p l e room_1 s m args below meth c H1 locs1 (cells + 2) (slots + 12) Q (F0 m 1682 ls1 [])) : W p l e room_1 s m args below meth c H locs cells slots Q (F0 m 1562 ls []) := by
  have hbA : ¬ lx_A s b := Nat.not_le.mpr hbl
  generalize e1 : xs (6 * n + 1) = x1 at hq
  generalize e2 : xs (6 * n + 2) = x2 at hq
  generalize e3 : xs (6 * n + 3) = x3 at hq
  generalize e4 : xs (6 * n + 4) = x4 at hq
  generalize e5 : xs (6 * n + 5) = x5 at hq
  unfold ltp_summit at hq
  refine lv_aload_n hx hb dz_1562 rfl (lv_at hl 1 rfl) ?_
  refine lv_aload_n hx hb dz_1563 rfl (lv_at hl 0 rfl) ?_
  refine lv_iload hx hb dz_1564 (lv_at hl 4 rfl) ?_
  refine lv_iconst (v := 1) hx hb dz_1566 (by decide) ?_
  refine lv_iadd hx hb dz_1567 ?_
  refine ow_topi (y := nI (6 * n + 1)) (nI_add (6 * n) 1) ?_
  refine va_sld hx hb hX hbl hbA hM.2.2.2.2.2 (vp_in_nI (n := 6 * n + 1) (N := L) (by omega) (by omega)) dz_1568 ?_
  refine ow_topi (y := x1) ((congrArg xs (nI_clamp (by omega))).trans e1) ?_
  refine lv_aload_n hx hb dz_1569 rfl (lv_at hl 3 rfl) ?_
  obtain ⟨v2, zc1, hcq, hq⟩ := tw_cl1 hq
  refine lx_wrap hM (vx_runSX (As := [.ref (u 0), .int x1, .ref (u 52001)]) (rest := []) ⟨hx, hb, hml, hown, hts⟩ (kl_L_summit l D q vl u hM.2.2.1.1 hG.1 sa K 0 x1 (by unfold cw_X11 ci_X11; exact List.mem_singleton.mpr rfl) zc zc1 v2 hcq) (vx_cwSW 3 hts (lx_gS (lx_all wLL_good rfl) (lx_mem hL1 (hZ _ zq_264)) (hZ _ zq_265) (hZ _ zq_266) (hZ _ zq_3) rfl rfl rfl) rfl rfl rfl (by decide +kernel) ⟨(Nat.le_of_ble_eq_true rfl), (Nat.le_of_ble_eq_true rfl)⟩) (lx_preL hG hM) rfl rfl hl.1 rfl (lv_room (Nat.le_of_ble_eq_true rfl)) dz_1570 ⟨(by show _ ≤ 601024; omega), (by show _ ≤ 7293033; omega)⟩) (fun H locs hM => ?_)
  refine lv_istore (lv' := [(5, .int v2), (0, .ref b), (1, .ref (u 0)), (2, .ref (w 0)), (3, .ref (u 52001)), (4, .int (nI (6 * n)))]) hx hb dz_1573 hl (by decide) rfl (fun ls hl => ?_)
  refine lv_aload_n hx hb dz_1575 rfl (lv_at hl 3 rfl) ?_
  refine lv_aload_n hx hb dz_1576 rfl (lv_at hl 1 rfl) ?_
  refine lv_iload hx hb dz_1577 (lv_at hl 5 rfl) ?_
  refine lv_iconst (v := 1) hx hb dz_1579 (by decide) ?_
  refine lv_iadd hx hb dz_1580 ?_
  refine ow_topi (y := nI (6 * n + 1)) (nI_add (6 * n) 1) ?_
  refine va_sld hx hb hX hbl hbA hM.2.2.2.2.2 (vp_in_nI (n := 6 * n + 1) (N := L) (by omega) (by omega)) dz_1581 ?_
  refine ow_topi (y := x1) ((congrArg xs (nI_clamp (by omega))).trans e1) ?_
  obtain ⟨v4, zm3, hcq, hq⟩ := tw_cl1 hq
  refine lx_refi hM (va_runV (As := [.int x1]) (rest := []) ⟨hx, hb, hml, hown, hts⟩ (km_X13_summit l D q5 w hM.2.2.2.1.1 K x1 zm zm3 v4 hcq) (cwV 1 hts (lx_gV (lx_all wM_good rfl) (lx_mem hM1 (hZ _ zq_267)) (hZ _ zq_268) (hZ _ zq_269) (hZ _ zq_270) (hZ _ zq_8) rfl rfl rfl rfl) rfl rfl rfl cd_X13_summit ⟨(Nat.le_of_ble_eq_true rfl), (Nat.le_of_ble_eq_true rfl)⟩) (lx_preM hG hM) rfl rfl hl.1 rfl (lv_room (Nat.le_of_ble_eq_true rfl)) dz_1582 ⟨(by show _ ≤ 601024; omega), (by show _ ≤ 7293033; omega)⟩) (fun H locs hM => ?_)
  refine lv_istore (lv' := [(6, .int v4), (5, .int v2), (0, .ref b), (1, .ref (u 0)), (2, .ref (w 0)), (3, .ref (u 52001)), (4, .int (nI (6 * n)))]) hx hb dz_1585 hl (by decide) rfl (fun ls hl => ?_)
  refine lv_goto (tgt := 1682) hx hb dz_1587 (by decide) ?_
  exact kk _ _ H locs ls hM (lv_sub hl [2, 3, 4, 5, 6] rfl) hq
theorem dz_1590 : decode cL_law 1590 = .ok (.aload_n 1, 1) := dw_at dwl_13 (p := 30) rfl (by decide +kernel)
theorem dz_1591 : decode cL_law 1591 = .ok (.aload_n 0, 1) := dw_at dwl_13 (p := 31) rfl (by decide +kernel)
theorem dz_1592 : decode cL_law 1592 = .ok (.iload 4, 2) := dw_at dwl_13 (p := 32) rfl (by decide +kernel)
theorem dz_1594 : decode cL_law 1594 = .ok (.iconst 1, 1) := dw_at dwl_13 (p := 34) rfl (by decide +kernel)
theorem dz_1595 : decode cL_law 1595 = .ok (.iadd, 1) := dw_at dwl_13 (p := 35) rfl (by decide +kernel)
theorem dz_1596 : decode cL_law 1596 = .ok (.iaload, 1) := dw_at dwl_13 (p := 36) rfl (by decide +kernel)
theorem dz_1597 : decode cL_law 1597 = .ok (.aload_n 0, 1) := dw_at dwl_13 (p := 37) rfl (by decide +kernel)
theorem dz_1598 : decode cL_law 1598 = .ok (.iload 4, 2) := dw_at dwl_13 (p := 38) rfl (by decide +kernel)
theorem dz_1600 : decode cL_law 1600 = .ok (.iconst 2, 1) := dw_at dwl_13 (p := 40) rfl (by decide +kernel)
theorem dz_1601 : decode cL_law 1601 = .ok (.iadd, 1) := dw_at dwl_13 (p := 41) rfl (by decide +kernel)
theorem dz_1602 : decode cL_law 1602 = .ok (.iaload, 1) := dw_at dwl_13 (p := 42) rfl (by decide +kernel)
theorem dz_1603 : decode cL_law 1603 = .ok (.aload_n 3, 1) := dw_at dwl_13 (p := 43) rfl (by decide +kernel)
theorem dz_1604 : decode cL_law 1604 = .ok (.invokestatic 258, 3) := dw_at dwl_13 (p := 44) rfl (by decide +kernel)
theorem dz_1607 : decode cL_law 1607 = .ok (.istore 5, 2) := dw_at dwl_13 (p := 47) rfl (by decide +kernel)
theorem dz_1609 : decode cL_law 1609 = .ok (.aload_n 2, 1) := dw_at dwl_13 (p := 49) rfl (by decide +kernel)
theorem dz_1610 : decode cL_law 1610 = .ok (.aload_n 0, 1) := dw_at dwl_13 (p := 50) rfl (by decide +kernel)
theorem dz_1611 : decode cL_law 1611 = .ok (.iload 4, 2) := dw_at dwl_13 (p := 51) rfl (by decide +kernel)
theorem dz_1613 : decode cL_law 1613 = .ok (.iconst 1, 1) := dw_at dwl_13 (p := 53) rfl (by decide +kernel)
theorem dz_1614 : decode cL_law 1614 = .ok (.iadd, 1) := dw_at dwl_13 (p := 54) rfl (by decide +kernel)
theorem dz_1615 : decode cL_law 1615 = .ok (.iaload, 1) := dw_at dwl_13 (p := 55) rfl (by decide +kernel)
theorem dz_1616 : decode cL_law 1616 = .ok (.aload_n 0, 1) := dw_at dwl_13 (p := 56) rfl (by decide +kernel)
theorem dz_1617 : decode cL_law 1617 = .ok (.iload 4, 2) := dw_at dwl_13 (p := 57) rfl (by decide +kernel)
theorem dz_1619 : decode cL_law 1619 = .ok (.iconst 2, 1) := dw_at dwl_13 (p := 59) rfl (by decide +kernel)
theorem dz_1620 : decode cL_law 1620 = .ok (.iadd, 1) := dw_at dwl_13 (p := 60) rfl (by decide +kernel)
theorem dz_1621 : decode cL_law 1621 = .ok (.iaload, 1) := dw_at dwl_13 (p := 61) rfl (by decide +kernel)
theorem dz_1622 : decode cL_law 1622 = .ok (.invokevirtual 260, 3) := dw_at dwl_13 (p := 62) rfl (by decide +kernel)
theorem dz_1625 : decode cL_law 1625 = .ok (.istore 6, 2) := dw_at dwl_13 (p := 65) rfl (by decide +kernel)
theorem dz_1627 : decode cL_law 1627 = .ok (.goto 55, 3) := dw_at dwl_13 (p := 67) rfl (by decide +kernel)
def ltp_conjugate (vl : Nat → Nat) (K : Nat) (x1 : Int32) (x2 : Int32) (x3 : Int32) (x4 : Int32) (x5 : Int32) (zc zm : ow_MS) : Option ow_LwS :=
 cs1 (le_L_conjugate vl K 0 x1 x2 zc) fun v2 zc1 => cs1 (qe_X13_conjugate K x1 x2 zm) fun v4 zm3 => some (vl, zc1, zm3)
set_option maxHeartbeats 4000000 in
set_option maxRecDepth 100000 in
theorem lxc_conjugate {p : Program} {l : Launch} {e : Env} {s : State} {m : MethodId} {args : Array Value} {below : List Frame} {meth : Method} {c : Code} {b L K n : Nat} {xs : Nat → Int32} {D : va_G} {q : Nat → ClassId} {q5 : ow_Q5} {vl u w sa : Nat → Nat} {zc zm : ow_MS} {S1 : ow_LwS} {Ts : List Cond} {Q : State → Prop} {H : Heap} {locs : List Loc} {ls : Array Slot} {cells slots : Nat} (hx : p.tables.exec = Jvm.exec) (hb : c.code = cL_law) (hml : c.maxLocals = 8) (hown : s.vm.findClass RL = some m.cls) (hts : ∀ w ∈ Ts, w.before args s = true) (hX : va_X b L xs s s.heap) (hbl : b < s.heap.size) (hZ : ∀ w ∈ wZ, w ∈ Ts) (hL1 : ∀ w ∈ wLL, w ∈ Ts) (hC1 : ∀ w ∈ wC, w ∈ Ts) (hM1 : ∀ w ∈ wM, w ∈ Ts) (hG : lx_G l s D q q5 sa) (hLn : L ≤ 3072) (hn : 6 * n + 6 ≤ L) (hq : ltp_conjugate vl K (xs (6 * n + 1)) (xs (6 * n + 2)) (xs (6 * n + 3)) (xs (6 * n + 4)) (xs (6 * n + 5)) zc zm = some S1) (hM : lx_M D q q5 s vl u w zc zm H locs) (hl : lv_has ls 8 [(0, .ref b), (1, .ref (u 0)), (2, .ref (w 0)), (3, .ref (u 52001)), (4, .int (nI (6 * n)))]) (hc : cells + 4 ≤ 601024) (hs : slots + 24 ≤ 7293033) (kk : ∀ (zc1 zm1 : ow_MS) (H1 : Heap) (locs1 : List Loc) (ls1 : Array Slot), lx_M D q q5 s vl u w zc1 zm1 H1 locs1 → lv_has ls1 8 [(0, .ref b), (1, .ref (u 0)), (2, .ref (w 0)), (3, .ref (u 52001)), (4, .int (nI (6 * n)))] → some (vl, zc1, zm1) = some S1 → W p l e room_1 s m args below meth c H1 locs1 (cells + 4) (slots + 24) Q (F0 m 1682 ls1 [])) : W p l e room_1 s m args below meth c H locs cells slots Q (F0 m 1590 ls []) := by
  have hbA : ¬ lx_A s b := Nat.not_le.mpr hbl
  generalize e1 : xs (6 * n + 1) = x1 at hq
  generalize e2 : xs (6 * n + 2) = x2 at hq
  generalize e3 : xs (6 * n + 3) = x3 at hq
  generalize e4 : xs (6 * n + 4) = x4 at hq
  generalize e5 : xs (6 * n + 5) = x5 at hq
  unfold ltp_conjugate at hq
  refine lv_aload_n hx hb dz_1590 rfl (lv_at hl 1 rfl) ?_
  refine lv_aload_n hx hb dz_1591 rfl (lv_at hl 0 rfl) ?_
  refine lv_iload hx hb dz_1592 (lv_at hl 4 rfl) ?_
  refine lv_iconst (v := 1) hx hb dz_1594 (by decide) ?_
  refine lv_iadd hx hb dz_1595 ?_
  refine ow_topi (y := nI (6 * n + 1)) (nI_add (6 * n) 1) ?_
  refine va_sld hx hb hX hbl hbA hM.2.2.2.2.2 (vp_in_nI (n := 6 * n + 1) (N := L) (by omega) (by omega)) dz_1596 ?_
  refine ow_topi (y := x1) ((congrArg xs (nI_clamp (by omega))).trans e1) ?_
  refine lv_aload_n hx hb dz_1597 rfl (lv_at hl 0 rfl) ?_
  refine lv_iload hx hb dz_1598 (lv_at hl 4 rfl) ?_
  refine lv_iconst (v := 2) hx hb dz_1600 (by decide) ?_
  refine lv_iadd hx hb dz_1601 ?_
  refine ow_topi (y := nI (6 * n + 2)) (nI_add (6 * n) 2) ?_
  refine va_sld hx hb hX hbl hbA hM.2.2.2.2.2 (vp_in_nI (n := 6 * n + 2) (N := L) (by omega) (by omega)) dz_1602 ?_
  refine ow_topi (y := x2) ((congrArg xs (nI_clamp (by omega))).trans e2) ?_
  refine lv_aload_n hx hb dz_1603 rfl (lv_at hl 3 rfl) ?_
  obtain ⟨v2, zc1, hcq, hq⟩ := tw_cl1 hq
  refine lx_wrap hM (vx_runSX (As := [.ref (u 0), .int x1, .int x2, .ref (u 52001)]) (rest := []) ⟨hx, hb, hml, hown, hts⟩ (kl_L_conjugate l D q vl u hM.2.2.1.1 hG.1 sa K 0 x1 x2 (by unfold cw_X11 ci_X11; exact List.mem_singleton.mpr rfl) zc zc1 v2 hcq) (vx_cwSW 4 hts (lx_gS (lx_all wLL_good rfl) (lx_mem hL1 (hZ _ zq_271)) (hZ _ zq_272) (hZ _ zq_273) (hZ _ zq_3) rfl rfl rfl) rfl rfl rfl (by decide +kernel) ⟨(Nat.le_of_ble_eq_true rfl), (Nat.le_of_ble_eq_true rfl)⟩) (lx_preL hG hM) rfl rfl hl.1 rfl (lv_room (Nat.le_of_ble_eq_true rfl)) dz_1604 ⟨(by show _ ≤ 601024; omega), (by show _ ≤ 7293033; omega)⟩) (fun H locs hM => ?_)
  refine lv_istore (lv' := [(5, .int v2), (0, .ref b), (1, .ref (u 0)), (2, .ref (w 0)), (3, .ref (u 52001)), (4, .int (nI (6 * n)))]) hx hb dz_1607 hl (by decide) rfl (fun ls hl => ?_)
  refine lv_aload_n hx hb dz_1609 rfl (lv_at hl 3 rfl) ?_
  refine lv_aload_n hx hb dz_1610 rfl (lv_at hl 1 rfl) ?_
  refine lv_iload hx hb dz_1611 (lv_at hl 5 rfl) ?_
  refine lv_iconst (v := 1) hx hb dz_1613 (by decide) ?_
  refine lv_iadd hx hb dz_1614 ?_
  refine ow_topi (y := nI (6 * n + 1)) (nI_add (6 * n) 1) ?_
  refine va_sld hx hb hX hbl hbA hM.2.2.2.2.2 (vp_in_nI (n := 6 * n + 1) (N := L) (by omega) (by omega)) dz_1615 ?_
  refine ow_topi (y := x1) ((congrArg xs (nI_clamp (by omega))).trans e1) ?_
  refine lv_aload_n hx hb dz_1616 rfl (lv_at hl 1 rfl) ?_
  refine lv_iload hx hb dz_1617 (lv_at hl 5 rfl) ?_
  refine lv_iconst (v := 2) hx hb dz_1619 (by decide) ?_
  refine lv_iadd hx hb dz_1620 ?_
  refine ow_topi (y := nI (6 * n + 2)) (nI_add (6 * n) 2) ?_
  refine va_sld hx hb hX hbl hbA hM.2.2.2.2.2 (vp_in_nI (n := 6 * n + 2) (N := L) (by omega) (by omega)) dz_1621 ?_
  refine ow_topi (y := x2) ((congrArg xs (nI_clamp (by omega))).trans e2) ?_
  obtain ⟨v4, zm3, hcq, hq⟩ := tw_cl1 hq
  refine lx_refi hM (va_runV (As := [.int x1, .int x2]) (rest := []) ⟨hx, hb, hml, hown, hts⟩ (km_X13_conjugate l D q5 w hM.2.2.2.1.1 K x1 x2 zm zm3 v4 hcq) (cwV 2 hts (lx_gV (lx_all wM_good rfl) (lx_mem hM1 (hZ _ zq_274)) (hZ _ zq_275) (hZ _ zq_276) (hZ _ zq_277) (hZ _ zq_8) rfl rfl rfl rfl) rfl rfl rfl cd_X13_conjugate ⟨(Nat.le_of_ble_eq_true rfl), (Nat.le_of_ble_eq_true rfl)⟩) (lx_preM hG hM) rfl rfl hl.1 rfl (lv_room (Nat.le_of_ble_eq_true rfl)) dz_1622 ⟨(by show _ ≤ 601024; omega), (by show _ ≤ 7293033; omega)⟩) (fun H locs hM => ?_)
  refine lv_istore (lv' := [(6, .int v4), (5, .int v2), (0, .ref b), (1, .ref (u 0)), (2, .ref (w 0)), (3, .ref (u 52001)), (4, .int (nI (6 * n)))]) hx hb dz_1625 hl (by decide) rfl (fun ls hl => ?_)
  refine lv_goto (tgt := 1682) hx hb dz_1627 (by decide) ?_
  exact kk _ _ H locs ls hM (lv_sub hl [2, 3, 4, 5, 6] rfl) hq
theorem dz_1630 : decode cL_law 1630 = .ok (.aload_n 1, 1) := dw_at dwl_13 (p := 70) rfl (by decide +kernel)
theorem dz_1631 : decode cL_law 1631 = .ok (.aload_n 0, 1) := dw_at dwl_13 (p := 71) rfl (by decide +kernel)
theorem dz_1632 : decode cL_law 1632 = .ok (.iload 4, 2) := dw_at dwl_13 (p := 72) rfl (by decide +kernel)
theorem dz_1634 : decode cL_law 1634 = .ok (.iconst 1, 1) := dw_at dwl_13 (p := 74) rfl (by decide +kernel)
theorem dz_1635 : decode cL_law 1635 = .ok (.iadd, 1) := dw_at dwl_13 (p := 75) rfl (by decide +kernel)
theorem dz_1636 : decode cL_law 1636 = .ok (.iaload, 1) := dw_at dwl_13 (p := 76) rfl (by decide +kernel)
theorem dz_1637 : decode cL_law 1637 = .ok (.aload_n 0, 1) := dw_at dwl_13 (p := 77) rfl (by decide +kernel)
theorem dz_1638 : decode cL_law 1638 = .ok (.iload 4, 2) := dw_at dwl_13 (p := 78) rfl (by decide +kernel)
theorem dz_1640 : decode cL_law 1640 = .ok (.iconst 2, 1) := dw_at dwl_13 (p := 80) rfl (by decide +kernel)
theorem dz_1641 : decode cL_law 1641 = .ok (.iadd, 1) := dw_at dwl_13 (p := 81) rfl (by decide +kernel)
theorem dz_1642 : decode cL_law 1642 = .ok (.iaload, 1) := dw_at dwl_13 (p := 82) rfl (by decide +kernel)
theorem dz_1643 : decode cL_law 1643 = .ok (.aload_n 0, 1) := dw_at dwl_13 (p := 83) rfl (by decide +kernel)
theorem dz_1644 : decode cL_law 1644 = .ok (.iload 4, 2) := dw_at dwl_13 (p := 84) rfl (by decide +kernel)
theorem dz_1646 : decode cL_law 1646 = .ok (.iconst 3, 1) := dw_at dwl_13 (p := 86) rfl (by decide +kernel)
theorem dz_1647 : decode cL_law 1647 = .ok (.iadd, 1) := dw_at dwl_13 (p := 87) rfl (by decide +kernel)
theorem dz_1648 : decode cL_law 1648 = .ok (.iaload, 1) := dw_at dwl_13 (p := 88) rfl (by decide +kernel)
theorem dz_1649 : decode cL_law 1649 = .ok (.aload_n 3, 1) := dw_at dwl_13 (p := 89) rfl (by decide +kernel)
theorem dz_1650 : decode cL_law 1650 = .ok (.invokestatic 261, 3) := dw_at dwl_13 (p := 90) rfl (by decide +kernel)
theorem dz_1653 : decode cL_law 1653 = .ok (.istore 5, 2) := dw_at dwl_13 (p := 93) rfl (by decide +kernel)
theorem dz_1655 : decode cL_law 1655 = .ok (.aload_n 2, 1) := dw_at dwl_13 (p := 95) rfl (by decide +kernel)
theorem dz_1656 : decode cL_law 1656 = .ok (.aload_n 0, 1) := dw_at dwl_13 (p := 96) rfl (by decide +kernel)
theorem dz_1657 : decode cL_law 1657 = .ok (.iload 4, 2) := dw_at dwl_13 (p := 97) rfl (by decide +kernel)
theorem dz_1659 : decode cL_law 1659 = .ok (.iconst 1, 1) := dw_at dwl_13 (p := 99) rfl (by decide +kernel)
theorem dz_1660 : decode cL_law 1660 = .ok (.iadd, 1) := dw_at dwl_13 (p := 100) rfl (by decide +kernel)
theorem dz_1661 : decode cL_law 1661 = .ok (.iaload, 1) := dw_at dwl_13 (p := 101) rfl (by decide +kernel)
theorem dz_1662 : decode cL_law 1662 = .ok (.aload_n 0, 1) := dw_at dwl_13 (p := 102) rfl (by decide +kernel)
theorem dz_1663 : decode cL_law 1663 = .ok (.iload 4, 2) := dw_at dwl_13 (p := 103) rfl (by decide +kernel)
theorem dz_1665 : decode cL_law 1665 = .ok (.iconst 2, 1) := dw_at dwl_13 (p := 105) rfl (by decide +kernel)
theorem dz_1666 : decode cL_law 1666 = .ok (.iadd, 1) := dw_at dwl_13 (p := 106) rfl (by decide +kernel)
theorem dz_1667 : decode cL_law 1667 = .ok (.iaload, 1) := dw_at dwl_13 (p := 107) rfl (by decide +kernel)
theorem dz_1668 : decode cL_law 1668 = .ok (.aload_n 0, 1) := dw_at dwl_13 (p := 108) rfl (by decide +kernel)
theorem dz_1669 : decode cL_law 1669 = .ok (.iload 4, 2) := dw_at dwl_13 (p := 109) rfl (by decide +kernel)
theorem dz_1671 : decode cL_law 1671 = .ok (.iconst 3, 1) := dw_at dwl_13 (p := 111) rfl (by decide +kernel)
theorem dz_1672 : decode cL_law 1672 = .ok (.iadd, 1) := dw_at dwl_13 (p := 112) rfl (by decide +kernel)
theorem dz_1673 : decode cL_law 1673 = .ok (.iaload, 1) := dw_at dwl_13 (p := 113) rfl (by decide +kernel)
theorem dz_1674 : decode cL_law 1674 = .ok (.invokevirtual 263, 3) := dw_at dwl_13 (p := 114) rfl (by decide +kernel)
theorem dz_1677 : decode cL_law 1677 = .ok (.istore 6, 2) := dw_at dwl_13 (p := 117) rfl (by decide +kernel)
theorem dz_1679 : decode cL_law 1679 = .ok (.goto 3, 3) := dw_at dwl_13 (p := 119) rfl (by decide +kernel)
def ltp_two (vl : Nat → Nat) (K : Nat) (x1 : Int32) (x2 : Int32) (x3 : Int32) (x4 : Int32) (x5 : Int32) (zc zm : ow_MS) : Option ow_LwS :=
 cs1 (le_L_two vl K 0 x1 x2 x3 zc) fun v2 zc1 => cs1 (qe_X13_two K x1 x2 x3 zm) fun v4 zm3 => some (vl, zc1, zm3)
set_option maxHeartbeats 4000000 in
set_option maxRecDepth 100000 in
theorem lxc_two {p : Program} {l : Launch} {e : Env} {s : State} {m : MethodId} {args : Array Value} {below : List Frame} {meth : Method} {c : Code} {b L K n : Nat} {xs : Nat → Int32} {D : va_G} {q : Nat → ClassId} {q5 : ow_Q5} {vl u w sa : Nat → Nat} {zc zm : ow_MS} {S1 : ow_LwS} {Ts : List Cond} {Q : State → Prop} {H : Heap} {locs : List Loc} {ls : Array Slot} {cells slots : Nat} (hx : p.tables.exec = Jvm.exec) (hb : c.code = cL_law) (hml : c.maxLocals = 8) (hown : s.vm.findClass RL = some m.cls) (hts : ∀ w ∈ Ts, w.before args s = true) (hX : va_X b L xs s s.heap) (hbl : b < s.heap.size) (hZ : ∀ w ∈ wZ, w ∈ Ts) (hL1 : ∀ w ∈ wLL, w ∈ Ts) (hC1 : ∀ w ∈ wC, w ∈ Ts) (hM1 : ∀ w ∈ wM, w ∈ Ts) (hG : lx_G l s D q q5 sa) (hLn : L ≤ 3072) (hn : 6 * n + 6 ≤ L) (hq : ltp_two vl K (xs (6 * n + 1)) (xs (6 * n + 2)) (xs (6 * n + 3)) (xs (6 * n + 4)) (xs (6 * n + 5)) zc zm = some S1) (hM : lx_M D q q5 s vl u w zc zm H locs) (hl : lv_has ls 8 [(0, .ref b), (1, .ref (u 0)), (2, .ref (w 0)), (3, .ref (u 52001)), (4, .int (nI (6 * n)))]) (hc : cells + 2 ≤ 601024) (hs : slots + 12 ≤ 7293033) (kk : ∀ (zc1 zm1 : ow_MS) (H1 : Heap) (locs1 : List Loc) (ls1 : Array Slot), lx_M D q q5 s vl u w zc1 zm1 H1 locs1 → lv_has ls1 8 [(0, .ref b), (1, .ref (u 0)), (2, .ref (w 0)), (3, .ref (u 52001)), (4, .int (nI (6 * n)))] → some (vl, zc1, zm1) = some S1 → W p l e room_1 s m args below meth c H1 locs1 (cells + 2) (slots + 12) Q (F0 m 1682 ls1 [])) : W p l e room_1 s m args below meth c H locs cells slots Q (F0 m 1630 ls []) := by
  have hbA : ¬ lx_A s b := Nat.not_le.mpr hbl
  generalize e1 : xs (6 * n + 1) = x1 at hq
  generalize e2 : xs (6 * n + 2) = x2 at hq
  generalize e3 : xs (6 * n + 3) = x3 at hq
  generalize e4 : xs (6 * n + 4) = x4 at hq
  generalize e5 : xs (6 * n + 5) = x5 at hq
  unfold ltp_two at hq
  refine lv_aload_n hx hb dz_1630 rfl (lv_at hl 1 rfl) ?_
  refine lv_aload_n hx hb dz_1631 rfl (lv_at hl 0 rfl) ?_
  refine lv_iload hx hb dz_1632 (lv_at hl 4 rfl) ?_
  refine lv_iconst (v := 1) hx hb dz_1634 (by decide) ?_
  refine lv_iadd hx hb dz_1635 ?_
  refine ow_topi (y := nI (6 * n + 1)) (nI_add (6 * n) 1) ?_
  refine va_sld hx hb hX hbl hbA hM.2.2.2.2.2 (vp_in_nI (n := 6 * n + 1) (N := L) (by omega) (by omega)) dz_1636 ?_
  refine ow_topi (y := x1) ((congrArg xs (nI_clamp (by omega))).trans e1) ?_
  refine lv_aload_n hx hb dz_1637 rfl (lv_at hl 0 rfl) ?_
  refine lv_iload hx hb dz_1638 (lv_at hl 4 rfl) ?_
  refine lv_iconst (v := 2) hx hb dz_1640 (by decide) ?_
  refine lv_iadd hx hb dz_1641 ?_
  refine ow_topi (y := nI (6 * n + 2)) (nI_add (6 * n) 2) ?_
  refine va_sld hx hb hX hbl hbA hM.2.2.2.2.2 (vp_in_nI (n := 6 * n + 2) (N := L) (by omega) (by omega)) dz_1642 ?_
  refine ow_topi (y := x2) ((congrArg xs (nI_clamp (by omega))).trans e2) ?_
  refine lv_aload_n hx hb dz_1643 rfl (lv_at hl 0 rfl) ?_
  refine lv_iload hx hb dz_1644 (lv_at hl 4 rfl) ?_
  refine lv_iconst (v := 3) hx hb dz_1646 (by decide) ?_
  refine lv_iadd hx hb dz_1647 ?_
  refine ow_topi (y := nI (6 * n + 3)) (nI_add (6 * n) 3) ?_
  refine va_sld hx hb hX hbl hbA hM.2.2.2.2.2 (vp_in_nI (n := 6 * n + 3) (N := L) (by omega) (by omega)) dz_1648 ?_
  refine ow_topi (y := x3) ((congrArg xs (nI_clamp (by omega))).trans e3) ?_
  refine lv_aload_n hx hb dz_1649 rfl (lv_at hl 3 rfl) ?_
  obtain ⟨v2, zc1, hcq, hq⟩ := tw_cl1 hq
  refine lx_wrap hM (vx_runSX (As := [.ref (u 0), .int x1, .int x2, .int x3, .ref (u 52001)]) (rest := []) ⟨hx, hb, hml, hown, hts⟩ (kl_L_two l D q vl u hM.2.2.1.1 hG.1 sa K 0 x1 x2 x3 (by unfold cw_X11 ci_X11; exact List.mem_singleton.mpr rfl) zc zc1 v2 hcq) (vx_cwSW 5 hts (lx_gS (lx_all wLL_good rfl) (lx_mem hL1 (hZ _ zq_278)) (hZ _ zq_279) (hZ _ zq_280) (hZ _ zq_3) rfl rfl rfl) rfl rfl rfl (by decide +kernel) ⟨(Nat.le_of_ble_eq_true rfl), (Nat.le_of_ble_eq_true rfl)⟩) (lx_preL hG hM) rfl rfl hl.1 rfl (lv_room (Nat.le_of_ble_eq_true rfl)) dz_1650 ⟨(by show _ ≤ 601024; omega), (by show _ ≤ 7293033; omega)⟩) (fun H locs hM => ?_)
  refine lv_istore (lv' := [(5, .int v2), (0, .ref b), (1, .ref (u 0)), (2, .ref (w 0)), (3, .ref (u 52001)), (4, .int (nI (6 * n)))]) hx hb dz_1653 hl (by decide) rfl (fun ls hl => ?_)
  refine lv_aload_n hx hb dz_1655 rfl (lv_at hl 3 rfl) ?_
  refine lv_aload_n hx hb dz_1656 rfl (lv_at hl 1 rfl) ?_
  refine lv_iload hx hb dz_1657 (lv_at hl 5 rfl) ?_
  refine lv_iconst (v := 1) hx hb dz_1659 (by decide) ?_
  refine lv_iadd hx hb dz_1660 ?_
  refine ow_topi (y := nI (6 * n + 1)) (nI_add (6 * n) 1) ?_
  refine va_sld hx hb hX hbl hbA hM.2.2.2.2.2 (vp_in_nI (n := 6 * n + 1) (N := L) (by omega) (by omega)) dz_1661 ?_
  refine ow_topi (y := x1) ((congrArg xs (nI_clamp (by omega))).trans e1) ?_
  refine lv_aload_n hx hb dz_1662 rfl (lv_at hl 1 rfl) ?_
  refine lv_iload hx hb dz_1663 (lv_at hl 5 rfl) ?_
  refine lv_iconst (v := 2) hx hb dz_1665 (by decide) ?_
  refine lv_iadd hx hb dz_1666 ?_
  refine ow_topi (y := nI (6 * n + 2)) (nI_add (6 * n) 2) ?_
  refine va_sld hx hb hX hbl hbA hM.2.2.2.2.2 (vp_in_nI (n := 6 * n + 2) (N := L) (by omega) (by omega)) dz_1667 ?_
  refine ow_topi (y := x2) ((congrArg xs (nI_clamp (by omega))).trans e2) ?_
  refine lv_aload_n hx hb dz_1668 rfl (lv_at hl 1 rfl) ?_
  refine lv_iload hx hb dz_1669 (lv_at hl 5 rfl) ?_
  refine lv_iconst (v := 3) hx hb dz_1671 (by decide) ?_
  refine lv_iadd hx hb dz_1672 ?_
  refine ow_topi (y := nI (6 * n + 3)) (nI_add (6 * n) 3) ?_
  refine va_sld hx hb hX hbl hbA hM.2.2.2.2.2 (vp_in_nI (n := 6 * n + 3) (N := L) (by omega) (by omega)) dz_1673 ?_
  refine ow_topi (y := x3) ((congrArg xs (nI_clamp (by omega))).trans e3) ?_
  obtain ⟨v4, zm3, hcq, hq⟩ := tw_cl1 hq
  refine lx_refi hM (va_runV (As := [.int x1, .int x2, .int x3]) (rest := []) ⟨hx, hb, hml, hown, hts⟩ (km_X13_two l D q5 w hM.2.2.2.1.1 K x1 x2 x3 zm zm3 v4 hcq) (cwV 3 hts (lx_gV (lx_all wM_good rfl) (lx_mem hM1 (hZ _ zq_281)) (hZ _ zq_282) (hZ _ zq_283) (hZ _ zq_284) (hZ _ zq_8) rfl rfl rfl rfl) rfl rfl rfl cd_X13_two ⟨(Nat.le_of_ble_eq_true rfl), (Nat.le_of_ble_eq_true rfl)⟩) (lx_preM hG hM) rfl rfl hl.1 rfl (lv_room (Nat.le_of_ble_eq_true rfl)) dz_1674 ⟨(by show _ ≤ 601024; omega), (by show _ ≤ 7293033; omega)⟩) (fun H locs hM => ?_)
  refine lv_istore (lv' := [(6, .int v4), (5, .int v2), (0, .ref b), (1, .ref (u 0)), (2, .ref (w 0)), (3, .ref (u 52001)), (4, .int (nI (6 * n)))]) hx hb dz_1677 hl (by decide) rfl (fun ls hl => ?_)
  refine lv_goto (tgt := 1682) hx hb dz_1679 (by decide) ?_
  exact kk _ _ H locs ls hM (lv_sub hl [2, 3, 4, 5, 6] rfl) hq
