def lawL : List UInt8 := [0xbb, 0x00, 0x08, 0x59, 0xb7, 0x00, 0x7f, 0x4c, 0xbb, 0x00, 0x80, 0x59, 0xb7, 0x00, 0x82, 0x4d, 0x04, 0xbc, 0x0b, 0x4e, 0x03, 0x36, 0x04, 0x15, 0x04, 0x2a, 0xbe, 0x10, 0x06, 0x64, 0xa3, 0x06, 0x85, 0x2a, 0x15, 0x04, 0x2e, 0x10, 0x3f, 0x7e, 0xaa, 0x00, 0x00, 0x00, 0x00, 0x00, 0x06, 0x75, 0x00, 0x00, 0x00, 0x00, 0x00, 0x00, 0x00, 0x26, 0x00, 0x00, 0x00, 0xac, 0x00, 0x00, 0x00, 0xf8, 0x00, 0x00, 0x01, 0x1c, 0x00, 0x00, 0x01, 0x2c, 0x00, 0x00, 0x01, 0x48, 0x00, 0x00, 0x01, 0x61, 0x00, 0x00, 0x01, 0x7a, 0x00, 0x00, 0x01, 0xa2, 0x00, 0x00, 0x01, 0xd6, 0x00, 0x00, 0x02, 0x0a, 0x00, 0x00, 0x02, 0x2f, 0x00, 0x00, 0x02, 0x4b, 0x00, 0x00, 0x02, 0x73, 0x00, 0x00, 0x02, 0x9b, 0x00, 0x00, 0x02, 0xc3, 0x00, 0x00, 0x02, 0xeb, 0x00, 0x00, 0x03, 0x2b, 0x00, 0x00, 0x03, 0x53, 0x00, 0x00, 0x03, 0x6f, 0x00, 0x00, 0x03, 0x8b, 0x00, 0x00, 0x03, 0xb3, 0x00, 0x00, 0x03, 0xcf, 0x00, 0x00, 0x03, 0xeb, 0x00, 0x00, 0x04, 0x13, 0x00, 0x00, 0x04, 0x3b, 0x00, 0x00, 0x04, 0x57, 0x00, 0x00, 0x04, 0x7f, 0x00, 0x00, 0x04, 0xa7, 0x00, 0x00, 0x04, 0xcf, 0x00, 0x00, 0x04, 0xf7, 0x00, 0x00, 0x05, 0x1c, 0x00, 0x00, 0x05, 0x38, 0x00, 0x00, 0x05, 0x60, 0x00, 0x00, 0x05, 0x7c, 0x00, 0x00, 0x05, 0xa4, 0x00, 0x00, 0x05, 0xd8, 0x00, 0x00, 0x05, 0xfd, 0x00, 0x00, 0x06, 0x19, 0x00, 0x00, 0x06, 0x41, 0x2b, 0x2a, 0x15, 0x04, 0x04, 0x60, 0x2e, 0x2a, 0x15, 0x04, 0x05, 0x60, 0x2e, 0x2a, 0x15, 0x04, 0x06, 0x60, 0x2e, 0x2a, 0x15, 0x04, 0x07, 0x60, 0x2e, 0x2a, 0x15, 0x04, 0x08, 0x60, 0x2e, 0x2d, 0xb8, 0x00, 0x83, 0x36, 0x05, 0x2c, 0x2a, 0x15, 0x04, 0x04, 0x60, 0x2e, 0x2a, 0x15, 0x04, 0x05, 0x60, 0x2e, 0x2a, 0x15, 0x04, 0x06, 0x60, 0x2e, 0x2a, 0x15, 0x04, 0x07, 0x60, 0x2e, 0x2a, 0x15, 0x04, 0x08, 0x60, 0x2e, 0xb6, 0x00, 0x88, 0x36, 0x06, 0xa7, 0x05, 0x80, 0x2b, 0x2a, 0x15, 0x04, 0x04, 0x60, 0x2e, 0xb8, 0x00, 0x89, 0x36, 0x05, 0x2c, 0x2a, 0x15, 0x04, 0x04, 0x60, 0x2e, 0xb6, 0x00, 0x8c, 0x2c, 0xb6, 0x00, 0x8d, 0x15, 0x05, 0x9f, 0x00, 0x05, 0x03, 0xac, 0xa7, 0x05, 0x5c, 0x2b, 0x2d, 0xb8, 0x00, 0x90, 0x36, 0x05, 0x2c, 0xb6, 0x00, 0x93, 0x36, 0x06, 0xa7, 0x05, 0x4c, 0x2b, 0x2a, 0x15, 0x04, 0x04, 0x60, 0x2e, 0x2d, 0xb8, 0x00, 0x94, 0x36, 0x05, 0x2c, 0x2a, 0x15, 0x04, 0x04, 0x60, 0x2e, 0xb6, 0x00, 0x97, 0x36, 0x06, 0xa7, 0x05, 0x30, 0x2b, 0x2a, 0x15, 0x04, 0x04, 0x60, 0x2e, 0xb6, 0x00, 0x98, 0x57, 0x2c, 0x2a, 0x15, 0x04, 0x04, 0x60, 0x2e, 0xb6, 0x00, 0x9c, 0x57, 0xa7, 0x05, 0x17, 0x2b, 0x2a, 0x15, 0x04, 0x04, 0x60, 0x2e, 0xb6, 0x00, 0x9d, 0x57, 0x2c, 0x2a, 0x15, 0x04, 0x04, 0x60, 0x2e, 0xb6, 0x00, 0xa0, 0x57, 0xa7, 0x04, 0xfe, 0x2b, 0x2a, 0x15, 0x04, 0x04, 0x60, 0x2e, 0x2a, 0x15, 0x04, 0x05, 0x60, 0x2e, 0x2d, 0xb8, 0x00, 0xa1, 0x36, 0x05, 0x2c, 0x2a, 0x15, 0x04, 0x04, 0x60, 0x2e, 0x2a, 0x15, 0x04, 0x05, 0x60, 0x2e, 0xb6, 0x00, 0xa4, 0x36, 0x06, 0xa7, 0x04, 0xd6, 0x2b, 0x2a, 0x15, 0x04, 0x04, 0x60, 0x2e, 0x2a, 0x15, 0x04, 0x05, 0x60, 0x2e, 0x2a, 0x15, 0x04, 0x06, 0x60, 0x2e, 0x2d, 0xb8, 0x00, 0xa5, 0x36, 0x05, 0x2c, 0x2a, 0x15, 0x04, 0x04, 0x60, 0x2e, 0x2a, 0x15, 0x04, 0x05, 0x60, 0x2e, 0x2a, 0x15, 0x04, 0x06, 0x60, 0x2e, 0xb6, 0x00, 0xa8, 0x36, 0x06, 0xa7, 0x04, 0xa2, 0x2b, 0x2a, 0x15, 0x04, 0x04, 0x60, 0x2e, 0x2a, 0x15, 0x04, 0x05, 0x60, 0x2e, 0x2a, 0x15, 0x04, 0x06, 0x60, 0x2e, 0x2d, 0xb8, 0x00, 0xa9, 0x36, 0x05, 0x2c, 0x2a, 0x15, 0x04, 0x04, 0x60, 0x2e, 0x2a, 0x15, 0x04, 0x05, 0x60, 0x2e, 0x2a, 0x15, 0x04, 0x06, 0x60, 0x2e, 0xb6, 0x00, 0xab, 0x36, 0x06, 0xa7, 0x04, 0x6e, 0x2b, 0x2a, 0x15, 0x04, 0x04, 0x60, 0x2e, 0x2a, 0x15, 0x04, 0x05, 0x60, 0x2e, 0xb6, 0x00, 0xac, 0x57, 0x2c, 0x2a, 0x15, 0x04, 0x04, 0x60, 0x2e, 0x2a, 0x15, 0x04, 0x05, 0x60, 0x2e, 0xb6, 0x00, 0xb0, 0x57, 0xa7, 0x04, 0x49, 0x2b, 0x2a, 0x15, 0x04, 0x04, 0x60, 0x2e, 0x2d, 0xb8, 0x00, 0xb1, 0x36, 0x05, 0x2c, 0x2a, 0x15, 0x04, 0x04, 0x60, 0x2e, 0xb6, 0x00, 0xb3, 0x36, 0x06, 0xa7, 0x04, 0x2d, 0x2b, 0x2a, 0x15, 0x04, 0x04, 0x60, 0x2e, 0x2a, 0x15, 0x04, 0x05, 0x60, 0x2e, 0x2d, 0xb8, 0x00, 0xb4, 0x36, 0x05, 0x2c, 0x2a, 0x15, 0x04, 0x04, 0x60, 0x2e, 0x2a, 0x15, 0x04, 0x05, 0x60, 0x2e, 0xb6, 0x00, 0xb6, 0x36, 0x06, 0xa7, 0x04, 0x05, 0x2b, 0x2a, 0x15, 0x04, 0x04, 0x60, 0x2e, 0x2a, 0x15, 0x04, 0x05, 0x60, 0x2e, 0x2d, 0xb8, 0x00, 0xb7, 0x36, 0x05, 0x2c, 0x2a, 0x15, 0x04, 0x04, 0x60, 0x2e, 0x2a, 0x15, 0x04, 0x05, 0x60, 0x2e, 0xb6, 0x00, 0xb9, 0x36, 0x06, 0xa7, 0x03, 0xdd, 0x2b, 0x2a, 0x15, 0x04, 0x04, 0x60, 0x2e, 0x2a, 0x15, 0x04, 0x05, 0x60, 0x2e, 0x2d, 0xb8, 0x00, 0xba, 0x36, 0x05, 0x2c, 0x2a, 0x15, 0x04, 0x04, 0x60, 0x2e, 0x2a, 0x15, 0x04, 0x05, 0x60, 0x2e, 0xb6, 0x00, 0xbc, 0x36, 0x06, 0xa7, 0x03, 0xb5, 0x2b, 0x2a, 0x15, 0x04, 0x04, 0x60, 0x2e, 0x2a, 0x15, 0x04, 0x05, 0x60, 0x2e, 0x2d, 0xb8, 0x00, 0xbd, 0x36, 0x05, 0x2c, 0x2a, 0x15, 0x04, 0x04, 0x60, 0x2e, 0x2a, 0x15, 0x04, 0x05, 0x60, 0x2e, 0xb6, 0x00, 0xbf, 0x36, 0x06, 0xa7, 0x03, 0x8d, 0x2b, 0x2a, 0x15, 0x04, 0x04, 0x60, 0x2e, 0x2a, 0x15, 0x04, 0x05, 0x60, 0x2e, 0x2a, 0x15, 0x04, 0x06, 0x60, 0x2e, 0x2a, 0x15, 0x04, 0x07, 0x60, 0x2e, 0x2d, 0xb8, 0x00, 0xc0, 0x36, 0x05, 0x2c, 0x2a, 0x15, 0x04, 0x04, 0x60, 0x2e, 0x2a, 0x15, 0x04, 0x05, 0x60, 0x2e, 0x2a, 0x15, 0x04, 0x06, 0x60, 0x2e, 0x2a, 0x15, 0x04, 0x07, 0x60, 0x2e, 0xb6, 0x00, 0xc3, 0x36, 0x06, 0xa7, 0x03, 0x4d, 0x2b, 0x2a, 0x15, 0x04, 0x04, 0x60, 0x2e, 0x2a, 0x15, 0x04, 0x05, 0x60, 0x2e, 0x2d, 0xb8, 0x00, 0xc4, 0x36, 0x05, 0x2c, 0x2a, 0x15, 0x04, 0x04, 0x60, 0x2e, 0x2a, 0x15, 0x04, 0x05, 0x60, 0x2e, 0xb6, 0x00, 0xc6, 0x36, 0x06, 0xa7, 0x03, 0x25, 0x2b, 0x2a, 0x15, 0x04, 0x04, 0x60, 0x2e, 0x2d, 0xb8, 0x00, 0xc7, 0x36, 0x05, 0x2c, 0x2a, 0x15, 0x04, 0x04, 0x60, 0x2e, 0xb6, 0x00, 0xc9, 0x36, 0x06, 0xa7, 0x03, 0x09, 0x2b, 0x2a, 0x15, 0x04, 0x04, 0x60, 0x2e, 0x2d, 0xb8, 0x00, 0xca, 0x36, 0x05, 0x2c, 0x2a, 0x15, 0x04, 0x04, 0x60, 0x2e, 0xb6, 0x00, 0xcc, 0x36, 0x06, 0xa7, 0x02, 0xed, 0x2b, 0x2a, 0x15, 0x04, 0x04, 0x60, 0x2e, 0x2a, 0x15, 0x04, 0x05, 0x60, 0x2e, 0x2d, 0xb8, 0x00, 0xcd, 0x36, 0x05, 0x2c, 0x2a, 0x15, 0x04, 0x04, 0x60, 0x2e, 0x2a, 0x15, 0x04, 0x05, 0x60, 0x2e, 0xb6, 0x00, 0xcf, 0x36, 0x06, 0xa7, 0x02, 0xc5, 0x2b, 0x2a, 0x15, 0x04, 0x04, 0x60, 0x2e, 0x2d, 0xb8, 0x00, 0xd0, 0x36, 0x05, 0x2c, 0x2a, 0x15, 0x04, 0x04, 0x60, 0x2e, 0xb6, 0x00, 0xd2, 0x36, 0x06, 0xa7, 0x02, 0xa9, 0x2b, 0x2a, 0x15, 0x04, 0x04, 0x60, 0x2e, 0x2d, 0xb8, 0x00, 0xd3, 0x36, 0x05, 0x2c, 0x2a, 0x15, 0x04, 0x04, 0x60, 0x2e, 0xb6, 0x00, 0xd5, 0x36, 0x06, 0xa7, 0x02, 0x8d, 0x2b, 0x2a, 0x15, 0x04, 0x04, 0x60, 0x2e, 0x2a, 0x15, 0x04, 0x05, 0x60, 0x2e, 0x2d, 0xb8, 0x00, 0xd6, 0x36, 0x05, 0x2c, 0x2a, 0x15, 0x04, 0x04, 0x60, 0x2e, 0x2a, 0x15, 0x04, 0x05, 0x60, 0x2e, 0xb6, 0x00, 0xd8, 0x36, 0x06, 0xa7, 0x02, 0x65, 0x2b, 0x2a, 0x15, 0x04, 0x04, 0x60, 0x2e, 0x2a, 0x15, 0x04, 0x05, 0x60, 0x2e, 0x2d, 0xb8, 0x00, 0xd9, 0x36, 0x05, 0x2c, 0x2a, 0x15, 0x04, 0x04, 0x60, 0x2e, 0x2a, 0x15, 0x04, 0x05, 0x60, 0x2e, 0xb6, 0x00, 0xdb, 0x36, 0x06, 0xa7, 0x02, 0x3d, 0x2b, 0x2a, 0x15, 0x04, 0x04, 0x60, 0x2e, 0x2d, 0xb8, 0x00, 0xdc, 0x36, 0x05, 0x2c, 0x2a, 0x15, 0x04, 0x04, 0x60, 0x2e, 0xb6, 0x00, 0xde, 0x36, 0x06, 0xa7, 0x02, 0x21, 0x2b, 0x2a, 0x15, 0x04, 0x04, 0x60, 0x2e, 0x2a, 0x15, 0x04, 0x05, 0x60, 0x2e, 0x2d, 0xb8, 0x00, 0xdf, 0x36, 0x05, 0x2c, 0x2a, 0x15, 0x04, 0x04, 0x60, 0x2e, 0x2a, 0x15, 0x04, 0x05, 0x60, 0x2e, 0xb6, 0x00, 0xe1, 0x36, 0x06, 0xa7, 0x01, 0xf9, 0x2b, 0x2a, 0x15, 0x04, 0x04, 0x60, 0x2e, 0x2a, 0x15, 0x04, 0x05, 0x60, 0x2e, 0x2d, 0xb8, 0x00, 0xe2, 0x36, 0x05, 0x2c, 0x2a, 0x15, 0x04, 0x04, 0x60, 0x2e, 0x2a, 0x15, 0x04, 0x05, 0x60, 0x2e, 0xb6, 0x00, 0xe4, 0x37, 0x06, 0xa7, 0x01, 0xd1, 0x2b, 0x2a, 0x15, 0x04, 0x04, 0x60, 0x2e, 0x2a, 0x15, 0x04, 0x05, 0x60, 0x2e, 0x2d, 0xb8, 0x00, 0xe5, 0x36, 0x05, 0x2c, 0x2a, 0x15, 0x04, 0x04, 0x60, 0x2e, 0x2a, 0x15, 0x04, 0x05, 0x60, 0x2e, 0xb6, 0x00, 0xe7, 0x36, 0x06, 0xa7, 0x01, 0xa9, 0x2b, 0x2a, 0x15, 0x04, 0x04, 0x60, 0x2e, 0x2a, 0x15, 0x04, 0x05, 0x60, 0x2e, 0x2d, 0xb8, 0x00, 0xe8, 0x36, 0x05, 0x2c, 0x2a, 0x15, 0x04, 0x04, 0x60, 0x2e, 0x2a, 0x15, 0x04, 0x05, 0x60, 0x2e, 0xb6, 0x00, 0xea, 0x36, 0x06, 0xa7, 0x01, 0x81, 0x2b, 0x2a, 0x15, 0x04, 0x04, 0x60, 0x2e, 0x2a, 0x15, 0x04, 0x05, 0x60, 0x2e, 0xb6, 0x00, 0xeb, 0x57, 0x2c, 0x2a, 0x15, 0x04, 0x04, 0x60, 0x2e, 0x2a, 0x15, 0x04, 0x05, 0x60, 0x2e, 0xb6, 0x00, 0xee, 0x57, 0xa7, 0x01, 0x5c, 0x2b, 0x2a, 0x15, 0x04, 0x04, 0x60, 0x2e, 0x2d, 0xb8, 0x00, 0xef, 0x36, 0x05, 0x2c, 0x2a, 0x15, 0x04, 0x04, 0x60, 0x2e, 0xb6, 0x00, 0xf1, 0x36, 0x06, 0xa7, 0x01, 0x40, 0x2b, 0x2a, 0x15, 0x04, 0x04, 0x60, 0x2e, 0x2a, 0x15, 0x04, 0x05, 0x60, 0x2e, 0x2d, 0xb8, 0x00, 0xf2, 0x36, 0x05, 0x2c, 0x2a, 0x15, 0x04, 0x04, 0x60, 0x2e, 0x2a, 0x15, 0x04, 0x05, 0x60, 0x2e, 0xb6, 0x00, 0xf4, 0x36, 0x06, 0xa7, 0x01, 0x18, 0x2b, 0x2a, 0x15, 0x04, 0x04, 0x60, 0x2e, 0x2d, 0xb8, 0x00, 0xf5, 0x36, 0x05, 0x2c, 0x2a, 0x15, 0x04, 0x04, 0x60, 0x2e, 0xb6, 0x00, 0xf7, 0x36, 0x06, 0xa7, 0x00, 0xfc, 0x2b, 0x2a, 0x15, 0x04, 0x04, 0x60, 0x2e, 0x2a, 0x15, 0x04, 0x05, 0x60, 0x2e, 0x2d, 0xb8, 0x00, 0xf8, 0x36, 0x05, 0x2c, 0x2a, 0x15, 0x04, 0x04, 0x60, 0x2e, 0x2a, 0x15, 0x04, 0x05, 0x60, 0x2e, 0xb6, 0x00, 0xfa, 0x36, 0x06, 0xa7, 0x00, 0xd4, 0x2b, 0x2a, 0x15, 0x04, 0x04, 0x60, 0x2e, 0x2a, 0x15, 0x04, 0x05, 0x60, 0x2e, 0x2a, 0x15, 0x04, 0x06, 0x60, 0x2e, 0x2d, 0xb8, 0x00, 0xfb, 0x36, 0x05, 0x2c, 0x2a, 0x15, 0x04, 0x04, 0x60, 0x2e, 0x2a, 0x15, 0x04, 0x05, 0x60, 0x2e, 0x2a, 0x15, 0x04, 0x06, 0x60, 0x2e, 0xb6, 0x00, 0xfd, 0x36, 0x06, 0xa7, 0x00, 0xa0, 0x2b, 0x2a, 0x15, 0x04, 0x04, 0x60, 0x2e, 0x2a, 0x15, 0x04, 0x05, 0x60, 0x2e, 0xb6, 0x00, 0xfe, 0x57, 0x2c, 0x2a, 0x15, 0x04, 0x04, 0x60, 0x2e, 0x2a, 0x15, 0x04, 0x05, 0x60, 0x2e, 0xb6, 0x01, 0x01, 0x57, 0xa7, 0x00, 0x7b, 0x2b, 0x2a, 0x15, 0x04, 0x04, 0x60, 0x2e, 0x2d, 0xb8, 0x01, 0x02, 0x36, 0x05, 0x2c, 0x2a, 0x15, 0x04, 0x04, 0x60, 0x2e, 0xb6, 0x01, 0x04, 0x36, 0x06, 0xa7, 0x00, 0x5f, 0x2b, 0x2a, 0x15, 0x04, 0x04, 0x60, 0x2e, 0x2a, 0x15, 0x04, 0x05, 0x60, 0x2e, 0x2d, 0xb8, 0x01, 0x05, 0x36, 0x05, 0x2c, 0x2a, 0x15, 0x04, 0x04, 0x60, 0x2e, 0x2a, 0x15, 0x04, 0x05, 0x60, 0x2e, 0xb6, 0x01, 0x07, 0x36, 0x06, 0xa7, 0x00, 0x37, 0x2b, 0x2a, 0x15, 0x04, 0x04, 0x60, 0x2e, 0x2a, 0x15, 0x04, 0x05, 0x60, 0x2e, 0x2a, 0x15, 0x04, 0x06, 0x60, 0x2e, 0x2d, 0xb8, 0x01, 0x08, 0x36, 0x05, 0x2c, 0x2a, 0x15, 0x04, 0x04, 0x60, 0x2e, 0x2a, 0x15, 0x04, 0x05, 0x60, 0x2e, 0x2a, 0x15, 0x04, 0x06, 0x60, 0x2e, 0xb6, 0x01, 0x0a, 0x36, 0x06, 0xa7, 0x00, 0x03, 0x84, 0x04, 0x06, 0xa7, 0xf9, 0x77, 0x04, 0xac]
theorem cl_eqL : cL_law = ByteArray.mk lawL.toArray := rfl
def wl_1 : List UInt8 := [0x00, 0x00, 0x03, 0x2b, 0x00, 0x00, 0x03, 0x53, 0x00, 0x00, 0x03, 0x6f, 0x00, 0x00, 0x03, 0x8b, 0x00, 0x00, 0x03, 0xb3, 0x00, 0x00, 0x03, 0xcf, 0x00, 0x00, 0x03, 0xeb, 0x00, 0x00, 0x04, 0x13, 0x00, 0x00, 0x04, 0x3b, 0x00, 0x00, 0x04, 0x57, 0x00, 0x00, 0x04, 0x7f, 0x00, 0x00, 0x04, 0xa7, 0x00, 0x00, 0x04, 0xcf, 0x00, 0x00, 0x04, 0xf7, 0x00, 0x00, 0x05, 0x1c, 0x00, 0x00, 0x05, 0x38, 0x00, 0x00, 0x05, 0x60, 0x00, 0x00, 0x05, 0x7c, 0x00, 0x00, 0x05, 0xa4, 0x00, 0x00, 0x05, 0xd8, 0x00, 0x00, 0x05, 0xfd, 0x00, 0x00, 0x06, 0x19, 0x00, 0x00, 0x06, 0x41, 0x2b, 0x2a, 0x15, 0x04, 0x04, 0x60, 0x2e, 0x2a, 0x15, 0x04, 0x05, 0x60, 0x2e, 0x2a, 0x15, 0x04, 0x06, 0x60, 0x2e, 0x2a, 0x15, 0x04, 0x07, 0x60, 0x2e, 0x2a, 0x15, 0x04, 0x08, 0x60, 0x2e, 0x2d, 0xb8, 0x00, 0x83, 0x36]
theorem dwl_1 : dw_ok cL_law (ByteArray.mk wl_1.toArray) 120 := by
  rw [cl_eqL]
  exact dw_win (by decide +kernel) (by decide +kernel)
def wl_2 : List UInt8 := [0x08, 0x60, 0x2e, 0x2d, 0xb8, 0x00, 0x83, 0x36, 0x05, 0x2c, 0x2a, 0x15, 0x04, 0x04, 0x60, 0x2e, 0x2a, 0x15, 0x04, 0x05, 0x60, 0x2e, 0x2a, 0x15, 0x04, 0x06, 0x60, 0x2e, 0x2a, 0x15, 0x04, 0x07, 0x60, 0x2e, 0x2a, 0x15, 0x04, 0x08, 0x60, 0x2e, 0xb6, 0x00, 0x88, 0x36, 0x06, 0xa7, 0x05, 0x80, 0x2b, 0x2a, 0x15, 0x04, 0x04, 0x60, 0x2e, 0xb8, 0x00, 0x89, 0x36, 0x05, 0x2c, 0x2a, 0x15, 0x04, 0x04, 0x60, 0x2e, 0xb6, 0x00, 0x8c, 0x2c, 0xb6, 0x00, 0x8d, 0x15, 0x05, 0x9f, 0x00, 0x05, 0x03, 0xac, 0xa7, 0x05, 0x5c, 0x2b, 0x2d, 0xb8, 0x00, 0x90, 0x36, 0x05, 0x2c, 0xb6, 0x00, 0x93, 0x36, 0x06, 0xa7, 0x05, 0x4c, 0x2b, 0x2a, 0x15, 0x04, 0x04, 0x60, 0x2e, 0x2d, 0xb8, 0x00, 0x94, 0x36, 0x05, 0x2c, 0x2a, 0x15, 0x04, 0x04, 0x60, 0x2e, 0xb6, 0x00, 0x97, 0x36, 0x06, 0xa7, 0x05, 0x30]
theorem dwl_2 : dw_ok cL_law (ByteArray.mk wl_2.toArray) 240 := by
  rw [cl_eqL]
  exact dw_win (by decide +kernel) (by decide +kernel)
def wl_3 : List UInt8 := [0xb6, 0x00, 0x97, 0x36, 0x06, 0xa7, 0x05, 0x30, 0x2b, 0x2a, 0x15, 0x04, 0x04, 0x60, 0x2e, 0xb6, 0x00, 0x98, 0x57, 0x2c, 0x2a, 0x15, 0x04, 0x04, 0x60, 0x2e, 0xb6, 0x00, 0x9c, 0x57, 0xa7, 0x05, 0x17, 0x2b, 0x2a, 0x15, 0x04, 0x04, 0x60, 0x2e, 0xb6, 0x00, 0x9d, 0x57, 0x2c, 0x2a, 0x15, 0x04, 0x04, 0x60, 0x2e, 0xb6, 0x00, 0xa0, 0x57, 0xa7, 0x04, 0xfe, 0x2b, 0x2a, 0x15, 0x04, 0x04, 0x60, 0x2e, 0x2a, 0x15, 0x04, 0x05, 0x60, 0x2e, 0x2d, 0xb8, 0x00, 0xa1, 0x36, 0x05, 0x2c, 0x2a, 0x15, 0x04, 0x04, 0x60, 0x2e, 0x2a, 0x15, 0x04, 0x05, 0x60, 0x2e, 0xb6, 0x00, 0xa4, 0x36, 0x06, 0xa7, 0x04, 0xd6, 0x2b, 0x2a, 0x15, 0x04, 0x04, 0x60, 0x2e, 0x2a, 0x15, 0x04, 0x05, 0x60, 0x2e, 0x2a, 0x15, 0x04, 0x06, 0x60, 0x2e, 0x2d, 0xb8, 0x00, 0xa5, 0x36, 0x05, 0x2c, 0x2a, 0x15, 0x04, 0x04]
theorem dwl_3 : dw_ok cL_law (ByteArray.mk wl_3.toArray) 360 := by
  rw [cl_eqL]
  exact dw_win (by decide +kernel) (by decide +kernel)
def wl_4 : List UInt8 := [0xa5, 0x36, 0x05, 0x2c, 0x2a, 0x15, 0x04, 0x04, 0x60, 0x2e, 0x2a, 0x15, 0x04, 0x05, 0x60, 0x2e, 0x2a, 0x15, 0x04, 0x06, 0x60, 0x2e, 0xb6, 0x00, 0xa8, 0x36, 0x06, 0xa7, 0x04, 0xa2, 0x2b, 0x2a, 0x15, 0x04, 0x04, 0x60, 0x2e, 0x2a, 0x15, 0x04, 0x05, 0x60, 0x2e, 0x2a, 0x15, 0x04, 0x06, 0x60, 0x2e, 0x2d, 0xb8, 0x00, 0xa9, 0x36, 0x05, 0x2c, 0x2a, 0x15, 0x04, 0x04, 0x60, 0x2e, 0x2a, 0x15, 0x04, 0x05, 0x60, 0x2e, 0x2a, 0x15, 0x04, 0x06, 0x60, 0x2e, 0xb6, 0x00, 0xab, 0x36, 0x06, 0xa7, 0x04, 0x6e, 0x2b, 0x2a, 0x15, 0x04, 0x04, 0x60, 0x2e, 0x2a, 0x15, 0x04, 0x05, 0x60, 0x2e, 0xb6, 0x00, 0xac, 0x57, 0x2c, 0x2a, 0x15, 0x04, 0x04, 0x60, 0x2e, 0x2a, 0x15, 0x04, 0x05, 0x60, 0x2e, 0xb6, 0x00, 0xb0, 0x57, 0xa7, 0x04, 0x49, 0x2b, 0x2a, 0x15, 0x04, 0x04, 0x60, 0x2e, 0x2d, 0xb8]
theorem dwl_4 : dw_ok cL_law (ByteArray.mk wl_4.toArray) 480 := by
  rw [cl_eqL]
  exact dw_win (by decide +kernel) (by decide +kernel)
def wl_5 : List UInt8 := [0x2a, 0x15, 0x04, 0x04, 0x60, 0x2e, 0x2d, 0xb8, 0x00, 0xb1, 0x36, 0x05, 0x2c, 0x2a, 0x15, 0x04, 0x04, 0x60, 0x2e, 0xb6, 0x00, 0xb3, 0x36, 0x06, 0xa7, 0x04, 0x2d, 0x2b, 0x2a, 0x15, 0x04, 0x04, 0x60, 0x2e, 0x2a, 0x15, 0x04, 0x05, 0x60, 0x2e, 0x2d, 0xb8, 0x00, 0xb4, 0x36, 0x05, 0x2c, 0x2a, 0x15, 0x04, 0x04, 0x60, 0x2e, 0x2a, 0x15, 0x04, 0x05, 0x60, 0x2e, 0xb6, 0x00, 0xb6, 0x36, 0x06, 0xa7, 0x04, 0x05, 0x2b, 0x2a, 0x15, 0x04, 0x04, 0x60, 0x2e, 0x2a, 0x15, 0x04, 0x05, 0x60, 0x2e, 0x2d, 0xb8, 0x00, 0xb7, 0x36, 0x05, 0x2c, 0x2a, 0x15, 0x04, 0x04, 0x60, 0x2e, 0x2a, 0x15, 0x04, 0x05, 0x60, 0x2e, 0xb6, 0x00, 0xb9, 0x36, 0x06, 0xa7, 0x03, 0xdd, 0x2b, 0x2a, 0x15, 0x04, 0x04, 0x60, 0x2e, 0x2a, 0x15, 0x04, 0x05, 0x60, 0x2e, 0x2d, 0xb8, 0x00, 0xba, 0x36, 0x05, 0x2c, 0x2a]
theorem dwl_5 : dw_ok cL_law (ByteArray.mk wl_5.toArray) 600 := by
  rw [cl_eqL]
  exact dw_win (by decide +kernel) (by decide +kernel)
def wl_6 : List UInt8 := [0x2d, 0xb8, 0x00, 0xba, 0x36, 0x05, 0x2c, 0x2a, 0x15, 0x04, 0x04, 0x60, 0x2e, 0x2a, 0x15, 0x04, 0x05, 0x60, 0x2e, 0xb6, 0x00, 0xbc, 0x36, 0x06, 0xa7, 0x03, 0xb5, 0x2b, 0x2a, 0x15, 0x04, 0x04, 0x60, 0x2e, 0x2a, 0x15, 0x04, 0x05, 0x60, 0x2e, 0x2d, 0xb8, 0x00, 0xbd, 0x36, 0x05, 0x2c, 0x2a, 0x15, 0x04, 0x04, 0x60, 0x2e, 0x2a, 0x15, 0x04, 0x05, 0x60, 0x2e, 0xb6, 0x00, 0xbf, 0x36, 0x06, 0xa7, 0x03, 0x8d, 0x2b, 0x2a, 0x15, 0x04, 0x04, 0x60, 0x2e, 0x2a, 0x15, 0x04, 0x05, 0x60, 0x2e, 0x2a, 0x15, 0x04, 0x06, 0x60, 0x2e, 0x2a, 0x15, 0x04, 0x07, 0x60, 0x2e, 0x2d, 0xb8, 0x00, 0xc0, 0x36, 0x05, 0x2c, 0x2a, 0x15, 0x04, 0x04, 0x60, 0x2e, 0x2a, 0x15, 0x04, 0x05, 0x60, 0x2e, 0x2a, 0x15, 0x04, 0x06, 0x60, 0x2e, 0x2a, 0x15, 0x04, 0x07, 0x60, 0x2e, 0xb6, 0x00, 0xc3, 0x36, 0x06]
theorem dwl_6 : dw_ok cL_law (ByteArray.mk wl_6.toArray) 720 := by
  rw [cl_eqL]
  exact dw_win (by decide +kernel) (by decide +kernel)
def wl_7 : List UInt8 := [0x07, 0x60, 0x2e, 0xb6, 0x00, 0xc3, 0x36, 0x06, 0xa7, 0x03, 0x4d, 0x2b, 0x2a, 0x15, 0x04, 0x04, 0x60, 0x2e, 0x2a, 0x15, 0x04, 0x05, 0x60, 0x2e, 0x2d, 0xb8, 0x00, 0xc4, 0x36, 0x05, 0x2c, 0x2a, 0x15, 0x04, 0x04, 0x60, 0x2e, 0x2a, 0x15, 0x04, 0x05, 0x60, 0x2e, 0xb6, 0x00, 0xc6, 0x36, 0x06, 0xa7, 0x03, 0x25, 0x2b, 0x2a, 0x15, 0x04, 0x04, 0x60, 0x2e, 0x2d, 0xb8, 0x00, 0xc7, 0x36, 0x05, 0x2c, 0x2a, 0x15, 0x04, 0x04, 0x60, 0x2e, 0xb6, 0x00, 0xc9, 0x36, 0x06, 0xa7, 0x03, 0x09, 0x2b, 0x2a, 0x15, 0x04, 0x04, 0x60, 0x2e, 0x2d, 0xb8, 0x00, 0xca, 0x36, 0x05, 0x2c, 0x2a, 0x15, 0x04, 0x04, 0x60, 0x2e, 0xb6, 0x00, 0xcc, 0x36, 0x06, 0xa7, 0x02, 0xed, 0x2b, 0x2a, 0x15, 0x04, 0x04, 0x60, 0x2e, 0x2a, 0x15, 0x04, 0x05, 0x60, 0x2e, 0x2d, 0xb8, 0x00, 0xcd, 0x36, 0x05, 0x2c, 0x2a]
theorem dwl_7 : dw_ok cL_law (ByteArray.mk wl_7.toArray) 840 := by
  rw [cl_eqL]
  exact dw_win (by decide +kernel) (by decide +kernel)
def wl_8 : List UInt8 := [0x2d, 0xb8, 0x00, 0xcd, 0x36, 0x05, 0x2c, 0x2a, 0x15, 0x04, 0x04, 0x60, 0x2e, 0x2a, 0x15, 0x04, 0x05, 0x60, 0x2e, 0xb6, 0x00, 0xcf, 0x36, 0x06, 0xa7, 0x02, 0xc5, 0x2b, 0x2a, 0x15, 0x04, 0x04, 0x60, 0x2e, 0x2d, 0xb8, 0x00, 0xd0, 0x36, 0x05, 0x2c, 0x2a, 0x15, 0x04, 0x04, 0x60, 0x2e, 0xb6, 0x00, 0xd2, 0x36, 0x06, 0xa7, 0x02, 0xa9, 0x2b, 0x2a, 0x15, 0x04, 0x04, 0x60, 0x2e, 0x2d, 0xb8, 0x00, 0xd3, 0x36, 0x05, 0x2c, 0x2a, 0x15, 0x04, 0x04, 0x60, 0x2e, 0xb6, 0x00, 0xd5, 0x36, 0x06, 0xa7, 0x02, 0x8d, 0x2b, 0x2a, 0x15, 0x04, 0x04, 0x60, 0x2e, 0x2a, 0x15, 0x04, 0x05, 0x60, 0x2e, 0x2d, 0xb8, 0x00, 0xd6, 0x36, 0x05, 0x2c, 0x2a, 0x15, 0x04, 0x04, 0x60, 0x2e, 0x2a, 0x15, 0x04, 0x05, 0x60, 0x2e, 0xb6, 0x00, 0xd8, 0x36, 0x06, 0xa7, 0x02, 0x65, 0x2b, 0x2a, 0x15, 0x04, 0x04]
theorem dwl_8 : dw_ok cL_law (ByteArray.mk wl_8.toArray) 960 := by
  rw [cl_eqL]
  exact dw_win (by decide +kernel) (by decide +kernel)
def wl_9 : List UInt8 := [0xa7, 0x02, 0x65, 0x2b, 0x2a, 0x15, 0x04, 0x04, 0x60, 0x2e, 0x2a, 0x15, 0x04, 0x05, 0x60, 0x2e, 0x2d, 0xb8, 0x00, 0xd9, 0x36, 0x05, 0x2c, 0x2a, 0x15, 0x04, 0x04, 0x60, 0x2e, 0x2a, 0x15, 0x04, 0x05, 0x60, 0x2e, 0xb6, 0x00, 0xdb, 0x36, 0x06, 0xa7, 0x02, 0x3d, 0x2b, 0x2a, 0x15, 0x04, 0x04, 0x60, 0x2e, 0x2d, 0xb8, 0x00, 0xdc, 0x36, 0x05, 0x2c, 0x2a, 0x15, 0x04, 0x04, 0x60, 0x2e, 0xb6, 0x00, 0xde, 0x36, 0x06, 0xa7, 0x02, 0x21, 0x2b, 0x2a, 0x15, 0x04, 0x04, 0x60, 0x2e, 0x2a, 0x15, 0x04, 0x05, 0x60, 0x2e, 0x2d, 0xb8, 0x00, 0xdf, 0x36, 0x05, 0x2c, 0x2a, 0x15, 0x04, 0x04, 0x60, 0x2e, 0x2a, 0x15, 0x04, 0x05, 0x60, 0x2e, 0xb6, 0x00, 0xe1, 0x36, 0x06, 0xa7, 0x01, 0xf9, 0x2b, 0x2a, 0x15, 0x04, 0x04, 0x60, 0x2e, 0x2a, 0x15, 0x04, 0x05, 0x60, 0x2e, 0x2d, 0xb8, 0x00, 0xe2]
theorem dwl_9 : dw_ok cL_law (ByteArray.mk wl_9.toArray) 1080 := by
  rw [cl_eqL]
  exact dw_win (by decide +kernel) (by decide +kernel)
def wl_10 : List UInt8 := [0x04, 0x05, 0x60, 0x2e, 0x2d, 0xb8, 0x00, 0xe2, 0x36, 0x05, 0x2c, 0x2a, 0x15, 0x04, 0x04, 0x60, 0x2e, 0x2a, 0x15, 0x04, 0x05, 0x60, 0x2e, 0xb6, 0x00, 0xe4, 0x37, 0x06, 0xa7, 0x01, 0xd1, 0x2b, 0x2a, 0x15, 0x04, 0x04, 0x60, 0x2e, 0x2a, 0x15, 0x04, 0x05, 0x60, 0x2e, 0x2d, 0xb8, 0x00, 0xe5, 0x36, 0x05, 0x2c, 0x2a, 0x15, 0x04, 0x04, 0x60, 0x2e, 0x2a, 0x15, 0x04, 0x05, 0x60, 0x2e, 0xb6, 0x00, 0xe7, 0x36, 0x06, 0xa7, 0x01, 0xa9, 0x2b, 0x2a, 0x15, 0x04, 0x04, 0x60, 0x2e, 0x2a, 0x15, 0x04, 0x05, 0x60, 0x2e, 0x2d, 0xb8, 0x00, 0xe8, 0x36, 0x05, 0x2c, 0x2a, 0x15, 0x04, 0x04, 0x60, 0x2e, 0x2a, 0x15, 0x04, 0x05, 0x60, 0x2e, 0xb6, 0x00, 0xea, 0x36, 0x06, 0xa7, 0x01, 0x81, 0x2b, 0x2a, 0x15, 0x04, 0x04, 0x60, 0x2e, 0x2a, 0x15, 0x04, 0x05, 0x60, 0x2e, 0xb6, 0x00, 0xeb, 0x57]
theorem dwl_10 : dw_ok cL_law (ByteArray.mk wl_10.toArray) 1200 := by
  rw [cl_eqL]
  exact dw_win (by decide +kernel) (by decide +kernel)
def wl_11 : List UInt8 := [0x04, 0x05, 0x60, 0x2e, 0xb6, 0x00, 0xeb, 0x57, 0x2c, 0x2a, 0x15, 0x04, 0x04, 0x60, 0x2e, 0x2a, 0x15, 0x04, 0x05, 0x60, 0x2e, 0xb6, 0x00, 0xee, 0x57, 0xa7, 0x01, 0x5c, 0x2b, 0x2a, 0x15, 0x04, 0x04, 0x60, 0x2e, 0x2d, 0xb8, 0x00, 0xef, 0x36, 0x05, 0x2c, 0x2a, 0x15, 0x04, 0x04, 0x60, 0x2e, 0xb6, 0x00, 0xf1, 0x36, 0x06, 0xa7, 0x01, 0x40, 0x2b, 0x2a, 0x15, 0x04, 0x04, 0x60, 0x2e, 0x2a, 0x15, 0x04, 0x05, 0x60, 0x2e, 0x2d, 0xb8, 0x00, 0xf2, 0x36, 0x05, 0x2c, 0x2a, 0x15, 0x04, 0x04, 0x60, 0x2e, 0x2a, 0x15, 0x04, 0x05, 0x60, 0x2e, 0xb6, 0x00, 0xf4, 0x36, 0x06, 0xa7, 0x01, 0x18, 0x2b, 0x2a, 0x15, 0x04, 0x04, 0x60, 0x2e, 0x2d, 0xb8, 0x00, 0xf5, 0x36, 0x05, 0x2c, 0x2a, 0x15, 0x04, 0x04, 0x60, 0x2e, 0xb6, 0x00, 0xf7, 0x36, 0x06, 0xa7, 0x00, 0xfc, 0x2b, 0x2a, 0x15, 0x04]
theorem dwl_11 : dw_ok cL_law (ByteArray.mk wl_11.toArray) 1320 := by
  rw [cl_eqL]
  exact dw_win (by decide +kernel) (by decide +kernel)
def wl_12 : List UInt8 := [0x06, 0xa7, 0x00, 0xfc, 0x2b, 0x2a, 0x15, 0x04, 0x04, 0x60, 0x2e, 0x2a, 0x15, 0x04, 0x05, 0x60, 0x2e, 0x2d, 0xb8, 0x00, 0xf8, 0x36, 0x05, 0x2c, 0x2a, 0x15, 0x04, 0x04, 0x60, 0x2e, 0x2a, 0x15, 0x04, 0x05, 0x60, 0x2e, 0xb6, 0x00, 0xfa, 0x36, 0x06, 0xa7, 0x00, 0xd4, 0x2b, 0x2a, 0x15, 0x04, 0x04, 0x60, 0x2e, 0x2a, 0x15, 0x04, 0x05, 0x60, 0x2e, 0x2a, 0x15, 0x04, 0x06, 0x60, 0x2e, 0x2d, 0xb8, 0x00, 0xfb, 0x36, 0x05, 0x2c, 0x2a, 0x15, 0x04, 0x04, 0x60, 0x2e, 0x2a, 0x15, 0x04, 0x05, 0x60, 0x2e, 0x2a, 0x15, 0x04, 0x06, 0x60, 0x2e, 0xb6, 0x00, 0xfd, 0x36, 0x06, 0xa7, 0x00, 0xa0, 0x2b, 0x2a, 0x15, 0x04, 0x04, 0x60, 0x2e, 0x2a, 0x15, 0x04, 0x05, 0x60, 0x2e, 0xb6, 0x00, 0xfe, 0x57, 0x2c, 0x2a, 0x15, 0x04, 0x04, 0x60, 0x2e, 0x2a, 0x15, 0x04, 0x05, 0x60, 0x2e, 0xb6, 0x01]
theorem dwl_12 : dw_ok cL_law (ByteArray.mk wl_12.toArray) 1440 := by
  rw [cl_eqL]
  exact dw_win (by decide +kernel) (by decide +kernel)
def wl_13 : List UInt8 := [0x2a, 0x15, 0x04, 0x05, 0x60, 0x2e, 0xb6, 0x01, 0x01, 0x57, 0xa7, 0x00, 0x7b, 0x2b, 0x2a, 0x15, 0x04, 0x04, 0x60, 0x2e, 0x2d, 0xb8, 0x01, 0x02, 0x36, 0x05, 0x2c, 0x2a, 0x15, 0x04, 0x04, 0x60, 0x2e, 0xb6, 0x01, 0x04, 0x36, 0x06, 0xa7, 0x00, 0x5f, 0x2b, 0x2a, 0x15, 0x04, 0x04, 0x60, 0x2e, 0x2a, 0x15, 0x04, 0x05, 0x60, 0x2e, 0x2d, 0xb8, 0x01, 0x05, 0x36, 0x05, 0x2c, 0x2a, 0x15, 0x04, 0x04, 0x60, 0x2e, 0x2a, 0x15, 0x04, 0x05, 0x60, 0x2e, 0xb6, 0x01, 0x07, 0x36, 0x06, 0xa7, 0x00, 0x37, 0x2b, 0x2a, 0x15, 0x04, 0x04, 0x60, 0x2e, 0x2a, 0x15, 0x04, 0x05, 0x60, 0x2e, 0x2a, 0x15, 0x04, 0x06, 0x60, 0x2e, 0x2d, 0xb8, 0x01, 0x08, 0x36, 0x05, 0x2c, 0x2a, 0x15, 0x04, 0x04, 0x60, 0x2e, 0x2a, 0x15, 0x04, 0x05, 0x60, 0x2e, 0x2a, 0x15, 0x04, 0x06, 0x60, 0x2e, 0xb6, 0x01, 0x0a]
theorem dwl_13 : dw_ok cL_law (ByteArray.mk wl_13.toArray) 1560 := by
  rw [cl_eqL]
  exact dw_win (by decide +kernel) (by decide +kernel)
def wl_14 : List UInt8 := [0x15, 0x04, 0x06, 0x60, 0x2e, 0xb6, 0x01, 0x0a, 0x36, 0x06, 0xa7, 0x00, 0x03, 0x84, 0x04, 0x06, 0xa7, 0xf9, 0x77, 0x04, 0xac]
theorem dwl_14 : dw_ok cL_law (ByteArray.mk wl_14.toArray) 1680 := by
  rw [cl_eqL]
  exact dw_win (by decide +kernel) (by decide +kernel)
theorem dz_212 : decode cL_law 212 = .ok (.aload_n 1, 1) := dw_at dwl_1 (p := 92) rfl (by decide +kernel)
theorem dz_213 : decode cL_law 213 = .ok (.aload_n 0, 1) := dw_at dwl_1 (p := 93) rfl (by decide +kernel)
theorem dz_214 : decode cL_law 214 = .ok (.iload 4, 2) := dw_at dwl_1 (p := 94) rfl (by decide +kernel)
theorem dz_216 : decode cL_law 216 = .ok (.iconst 1, 1) := dw_at dwl_1 (p := 96) rfl (by decide +kernel)
theorem dz_217 : decode cL_law 217 = .ok (.iadd, 1) := dw_at dwl_1 (p := 97) rfl (by decide +kernel)
theorem dz_218 : decode cL_law 218 = .ok (.iaload, 1) := dw_at dwl_1 (p := 98) rfl (by decide +kernel)
theorem dz_219 : decode cL_law 219 = .ok (.aload_n 0, 1) := dw_at dwl_1 (p := 99) rfl (by decide +kernel)
theorem dz_220 : decode cL_law 220 = .ok (.iload 4, 2) := dw_at dwl_1 (p := 100) rfl (by decide +kernel)
theorem dz_222 : decode cL_law 222 = .ok (.iconst 2, 1) := dw_at dwl_1 (p := 102) rfl (by decide +kernel)
theorem dz_223 : decode cL_law 223 = .ok (.iadd, 1) := dw_at dwl_1 (p := 103) rfl (by decide +kernel)
theorem dz_224 : decode cL_law 224 = .ok (.iaload, 1) := dw_at dwl_1 (p := 104) rfl (by decide +kernel)
theorem dz_225 : decode cL_law 225 = .ok (.aload_n 0, 1) := dw_at dwl_1 (p := 105) rfl (by decide +kernel)
theorem dz_226 : decode cL_law 226 = .ok (.iload 4, 2) := dw_at dwl_1 (p := 106) rfl (by decide +kernel)
theorem dz_228 : decode cL_law 228 = .ok (.iconst 3, 1) := dw_at dwl_1 (p := 108) rfl (by decide +kernel)
theorem dz_229 : decode cL_law 229 = .ok (.iadd, 1) := dw_at dwl_1 (p := 109) rfl (by decide +kernel)
theorem dz_230 : decode cL_law 230 = .ok (.iaload, 1) := dw_at dwl_1 (p := 110) rfl (by decide +kernel)
theorem dz_231 : decode cL_law 231 = .ok (.aload_n 0, 1) := dw_at dwl_1 (p := 111) rfl (by decide +kernel)
theorem dz_232 : decode cL_law 232 = .ok (.iload 4, 2) := dw_at dwl_1 (p := 112) rfl (by decide +kernel)
theorem dz_234 : decode cL_law 234 = .ok (.iconst 4, 1) := dw_at dwl_1 (p := 114) rfl (by decide +kernel)
theorem dz_235 : decode cL_law 235 = .ok (.iadd, 1) := dw_at dwl_1 (p := 115) rfl (by decide +kernel)
theorem dz_236 : decode cL_law 236 = .ok (.iaload, 1) := dw_at dwl_1 (p := 116) rfl (by decide +kernel)
theorem dz_237 : decode cL_law 237 = .ok (.aload_n 0, 1) := dw_at dwl_1 (p := 117) rfl (by decide +kernel)
theorem dz_238 : decode cL_law 238 = .ok (.iload 4, 2) := dw_at dwl_1 (p := 118) rfl (by decide +kernel)
theorem dz_240 : decode cL_law 240 = .ok (.iconst 5, 1) := dw_at dwl_2 (p := 0) rfl (by decide +kernel)
theorem dz_241 : decode cL_law 241 = .ok (.iadd, 1) := dw_at dwl_2 (p := 1) rfl (by decide +kernel)
theorem dz_242 : decode cL_law 242 = .ok (.iaload, 1) := dw_at dwl_2 (p := 2) rfl (by decide +kernel)
theorem dz_243 : decode cL_law 243 = .ok (.aload_n 3, 1) := dw_at dwl_2 (p := 3) rfl (by decide +kernel)
theorem dz_244 : decode cL_law 244 = .ok (.invokestatic 131, 3) := dw_at dwl_2 (p := 4) rfl (by decide +kernel)
theorem dz_247 : decode cL_law 247 = .ok (.istore 5, 2) := dw_at dwl_2 (p := 7) rfl (by decide +kernel)
theorem dz_249 : decode cL_law 249 = .ok (.aload_n 2, 1) := dw_at dwl_2 (p := 9) rfl (by decide +kernel)
theorem dz_250 : decode cL_law 250 = .ok (.aload_n 0, 1) := dw_at dwl_2 (p := 10) rfl (by decide +kernel)
theorem dz_251 : decode cL_law 251 = .ok (.iload 4, 2) := dw_at dwl_2 (p := 11) rfl (by decide +kernel)
theorem dz_253 : decode cL_law 253 = .ok (.iconst 1, 1) := dw_at dwl_2 (p := 13) rfl (by decide +kernel)
theorem dz_254 : decode cL_law 254 = .ok (.iadd, 1) := dw_at dwl_2 (p := 14) rfl (by decide +kernel)
theorem dz_255 : decode cL_law 255 = .ok (.iaload, 1) := dw_at dwl_2 (p := 15) rfl (by decide +kernel)
theorem dz_256 : decode cL_law 256 = .ok (.aload_n 0, 1) := dw_at dwl_2 (p := 16) rfl (by decide +kernel)
theorem dz_257 : decode cL_law 257 = .ok (.iload 4, 2) := dw_at dwl_2 (p := 17) rfl (by decide +kernel)
theorem dz_259 : decode cL_law 259 = .ok (.iconst 2, 1) := dw_at dwl_2 (p := 19) rfl (by decide +kernel)
theorem dz_260 : decode cL_law 260 = .ok (.iadd, 1) := dw_at dwl_2 (p := 20) rfl (by decide +kernel)
theorem dz_261 : decode cL_law 261 = .ok (.iaload, 1) := dw_at dwl_2 (p := 21) rfl (by decide +kernel)
theorem dz_262 : decode cL_law 262 = .ok (.aload_n 0, 1) := dw_at dwl_2 (p := 22) rfl (by decide +kernel)
theorem dz_263 : decode cL_law 263 = .ok (.iload 4, 2) := dw_at dwl_2 (p := 23) rfl (by decide +kernel)
theorem dz_265 : decode cL_law 265 = .ok (.iconst 3, 1) := dw_at dwl_2 (p := 25) rfl (by decide +kernel)
theorem dz_266 : decode cL_law 266 = .ok (.iadd, 1) := dw_at dwl_2 (p := 26) rfl (by decide +kernel)
theorem dz_267 : decode cL_law 267 = .ok (.iaload, 1) := dw_at dwl_2 (p := 27) rfl (by decide +kernel)
theorem dz_268 : decode cL_law 268 = .ok (.aload_n 0, 1) := dw_at dwl_2 (p := 28) rfl (by decide +kernel)
theorem dz_269 : decode cL_law 269 = .ok (.iload 4, 2) := dw_at dwl_2 (p := 29) rfl (by decide +kernel)
theorem dz_271 : decode cL_law 271 = .ok (.iconst 4, 1) := dw_at dwl_2 (p := 31) rfl (by decide +kernel)
theorem dz_272 : decode cL_law 272 = .ok (.iadd, 1) := dw_at dwl_2 (p := 32) rfl (by decide +kernel)
theorem dz_273 : decode cL_law 273 = .ok (.iaload, 1) := dw_at dwl_2 (p := 33) rfl (by decide +kernel)
theorem dz_274 : decode cL_law 274 = .ok (.aload_n 0, 1) := dw_at dwl_2 (p := 34) rfl (by decide +kernel)
theorem dz_275 : decode cL_law 275 = .ok (.iload 4, 2) := dw_at dwl_2 (p := 35) rfl (by decide +kernel)
theorem dz_277 : decode cL_law 277 = .ok (.iconst 5, 1) := dw_at dwl_2 (p := 37) rfl (by decide +kernel)
theorem dz_278 : decode cL_law 278 = .ok (.iadd, 1) := dw_at dwl_2 (p := 38) rfl (by decide +kernel)
theorem dz_279 : decode cL_law 279 = .ok (.iaload, 1) := dw_at dwl_2 (p := 39) rfl (by decide +kernel)
theorem dz_280 : decode cL_law 280 = .ok (.invokevirtual 136, 3) := dw_at dwl_2 (p := 40) rfl (by decide +kernel)
theorem dz_283 : decode cL_law 283 = .ok (.istore 6, 2) := dw_at dwl_2 (p := 43) rfl (by decide +kernel)
theorem dz_285 : decode cL_law 285 = .ok (.goto 1408, 3) := dw_at dwl_2 (p := 45) rfl (by decide +kernel)
def ltp_feed (vl : Nat → Nat) (K : Nat) (x1 : Int32) (x2 : Int32) (x3 : Int32) (x4 : Int32) (x5 : Int32) (zc zm : ow_MS) : Option ow_LwS :=
 cs1 (le_L_feed vl K 0 x1 x2 x3 x4 x5 zc) fun v2 zc1 => cs1 (qe_X13_feed K x1 x2 x3 x4 x5 zm) fun v4 zm3 => some (vl, zc1, zm3)
set_option maxHeartbeats 4000000 in
set_option maxRecDepth 100000 in
theorem lxc_feed {p : Program} {l : Launch} {e : Env} {s : State} {m : MethodId} {args : Array Value} {below : List Frame} {meth : Method} {c : Code} {b L K n : Nat} {xs : Nat → Int32} {D : va_G} {q : Nat → ClassId} {q5 : ow_Q5} {vl u w sa : Nat → Nat} {zc zm : ow_MS} {S1 : ow_LwS} {Ts : List Cond} {Q : State → Prop} {H : Heap} {locs : List Loc} {ls : Array Slot} {cells slots : Nat} (hx : p.tables.exec = Jvm.exec) (hb : c.code = cL_law) (hml : c.maxLocals = 8) (hown : s.vm.findClass RL = some m.cls) (hts : ∀ w ∈ Ts, w.before args s = true) (hX : va_X b L xs s s.heap) (hbl : b < s.heap.size) (hZ : ∀ w ∈ wZ, w ∈ Ts) (hL1 : ∀ w ∈ wLL, w ∈ Ts) (hC1 : ∀ w ∈ wC, w ∈ Ts) (hM1 : ∀ w ∈ wM, w ∈ Ts) (hG : lx_G l s D q q5 sa) (hLn : L ≤ 3072) (hn : 6 * n + 6 ≤ L) (hq : ltp_feed vl K (xs (6 * n + 1)) (xs (6 * n + 2)) (xs (6 * n + 3)) (xs (6 * n + 4)) (xs (6 * n + 5)) zc zm = some S1) (hM : lx_M D q q5 s vl u w zc zm H locs) (hl : lv_has ls 8 [(0, .ref b), (1, .ref (u 0)), (2, .ref (w 0)), (3, .ref (u 52001)), (4, .int (nI (6 * n)))]) (hc : cells + 1 ≤ 601024) (hs : slots + 6 ≤ 7293033) (kk : ∀ (zc1 zm1 : ow_MS) (H1 : Heap) (locs1 : List Loc) (ls1 : Array Slot), lx_M D q q5 s vl u w zc1 zm1 H1 locs1 → lv_has ls1 8 [(0, .ref b), (1, .ref (u 0)), (2, .ref (w 0)), (3, .ref (u 52001)), (4, .int (nI (6 * n)))] → some (vl, zc1, zm1) = some S1 → W p l e room_1 s m args below meth c H1 locs1 (cells + 1) (slots + 6) Q (F0 m 1693 ls1 [])) : W p l e room_1 s m args below meth c H locs cells slots Q (F0 m 212 ls []) := by
  have hbA : ¬ lx_A s b := Nat.not_le.mpr hbl
  generalize e1 : xs (6 * n + 1) = x1 at hq
  generalize e2 : xs (6 * n + 2) = x2 at hq
  generalize e3 : xs (6 * n + 3) = x3 at hq
  generalize e4 : xs (6 * n + 4) = x4 at hq
  generalize e5 : xs (6 * n + 5) = x5 at hq
  unfold ltp_feed at hq
  refine lv_aload_n hx hb dz_212 rfl (lv_at hl 1 rfl) ?_
  refine lv_aload_n hx hb dz_213 rfl (lv_at hl 0 rfl) ?_
  refine lv_iload hx hb dz_214 (lv_at hl 4 rfl) ?_
  refine lv_iconst (v := 1) hx hb dz_216 (by decide) ?_
  refine lv_iadd hx hb dz_217 ?_
  refine ow_topi (y := nI (6 * n + 1)) (nI_add (6 * n) 1) ?_
  refine va_sld hx hb hX hbl hbA hM.2.2.2.2.2 (vp_in_nI (n := 6 * n + 1) (N := L) (by omega) (by omega)) dz_218 ?_
  refine ow_topi (y := x1) ((congrArg xs (nI_clamp (by omega))).trans e1) ?_
  refine lv_aload_n hx hb dz_219 rfl (lv_at hl 0 rfl) ?_
  refine lv_iload hx hb dz_220 (lv_at hl 4 rfl) ?_
  refine lv_iconst (v := 2) hx hb dz_222 (by decide) ?_
  refine lv_iadd hx hb dz_223 ?_
  refine ow_topi (y := nI (6 * n + 2)) (nI_add (6 * n) 2) ?_
  refine va_sld hx hb hX hbl hbA hM.2.2.2.2.2 (vp_in_nI (n := 6 * n + 2) (N := L) (by omega) (by omega)) dz_224 ?_
  refine ow_topi (y := x2) ((congrArg xs (nI_clamp (by omega))).trans e2) ?_
  refine lv_aload_n hx hb dz_225 rfl (lv_at hl 0 rfl) ?_
  refine lv_iload hx hb dz_226 (lv_at hl 4 rfl) ?_
  refine lv_iconst (v := 3) hx hb dz_228 (by decide) ?_
  refine lv_iadd hx hb dz_229 ?_
  refine ow_topi (y := nI (6 * n + 3)) (nI_add (6 * n) 3) ?_
  refine va_sld hx hb hX hbl hbA hM.2.2.2.2.2 (vp_in_nI (n := 6 * n + 3) (N := L) (by omega) (by omega)) dz_230 ?_
  refine ow_topi (y := x3) ((congrArg xs (nI_clamp (by omega))).trans e3) ?_
  refine lv_aload_n hx hb dz_231 rfl (lv_at hl 0 rfl) ?_
  refine lv_iload hx hb dz_232 (lv_at hl 4 rfl) ?_
  refine lv_iconst (v := 4) hx hb dz_234 (by decide) ?_
  refine lv_iadd hx hb dz_235 ?_
  refine ow_topi (y := nI (6 * n + 4)) (nI_add (6 * n) 4) ?_
  refine va_sld hx hb hX hbl hbA hM.2.2.2.2.2 (vp_in_nI (n := 6 * n + 4) (N := L) (by omega) (by omega)) dz_236 ?_
  refine ow_topi (y := x4) ((congrArg xs (nI_clamp (by omega))).trans e4) ?_
  refine lv_aload_n hx hb dz_237 rfl (lv_at hl 0 rfl) ?_
  refine lv_iload hx hb dz_238 (lv_at hl 4 rfl) ?_
  refine lv_iconst (v := 5) hx hb dz_240 (by decide) ?_
  refine lv_iadd hx hb dz_241 ?_
  refine ow_topi (y := nI (6 * n + 5)) (nI_add (6 * n) 5) ?_
  refine va_sld hx hb hX hbl hbA hM.2.2.2.2.2 (vp_in_nI (n := 6 * n + 5) (N := L) (by omega) (by omega)) dz_242 ?_
  refine ow_topi (y := x5) ((congrArg xs (nI_clamp (by omega))).trans e5) ?_
  refine lv_aload_n hx hb dz_243 rfl (lv_at hl 3 rfl) ?_
  obtain ⟨v2, zc1, hcq, hq⟩ := tw_cl1 hq
  refine lx_wrap hM (vx_runSX (As := [.ref (u 0), .int x1, .int x2, .int x3, .int x4, .int x5, .ref (u 52001)]) (rest := []) ⟨hx, hb, hml, hown, hts⟩ (kl_L_feed l D q vl u hM.2.2.1.1 hG.1 sa K 0 x1 x2 x3 x4 x5 (by unfold cw_X11 ci_X11; exact List.mem_singleton.mpr rfl) zc zc1 v2 hcq) (vx_cwSW 7 hts (lx_gS (lx_all wLL_good rfl) (lx_mem hL1 (hZ _ zq_0)) (hZ _ zq_1) (hZ _ zq_2) (hZ _ zq_3) rfl rfl rfl) rfl rfl rfl (by decide +kernel) ⟨(Nat.le_of_ble_eq_true rfl), (Nat.le_of_ble_eq_true rfl)⟩) (lx_preL hG hM) rfl rfl hl.1 rfl (lv_room (Nat.le_of_ble_eq_true rfl)) dz_244 ⟨(by show _ ≤ 601024; omega), (by show _ ≤ 7293033; omega)⟩) (fun H locs hM => ?_)
  refine lv_istore (lv' := [(5, .int v2), (0, .ref b), (1, .ref (u 0)), (2, .ref (w 0)), (3, .ref (u 52001)), (4, .int (nI (6 * n)))]) hx hb dz_247 hl (by decide) rfl (fun ls hl => ?_)
  refine lv_aload_n hx hb dz_249 rfl (lv_at hl 3 rfl) ?_
  refine lv_aload_n hx hb dz_250 rfl (lv_at hl 1 rfl) ?_
  refine lv_iload hx hb dz_251 (lv_at hl 5 rfl) ?_
  refine lv_iconst (v := 1) hx hb dz_253 (by decide) ?_
  refine lv_iadd hx hb dz_254 ?_
  refine ow_topi (y := nI (6 * n + 1)) (nI_add (6 * n) 1) ?_
  refine va_sld hx hb hX hbl hbA hM.2.2.2.2.2 (vp_in_nI (n := 6 * n + 1) (N := L) (by omega) (by omega)) dz_255 ?_
  refine ow_topi (y := x1) ((congrArg xs (nI_clamp (by omega))).trans e1) ?_
  refine lv_aload_n hx hb dz_256 rfl (lv_at hl 1 rfl) ?_
  refine lv_iload hx hb dz_257 (lv_at hl 5 rfl) ?_
  refine lv_iconst (v := 2) hx hb dz_259 (by decide) ?_
  refine lv_iadd hx hb dz_260 ?_
  refine ow_topi (y := nI (6 * n + 2)) (nI_add (6 * n) 2) ?_
  refine va_sld hx hb hX hbl hbA hM.2.2.2.2.2 (vp_in_nI (n := 6 * n + 2) (N := L) (by omega) (by omega)) dz_261 ?_
  refine ow_topi (y := x2) ((congrArg xs (nI_clamp (by omega))).trans e2) ?_
  refine lv_aload_n hx hb dz_262 rfl (lv_at hl 1 rfl) ?_
  refine lv_iload hx hb dz_263 (lv_at hl 5 rfl) ?_
  refine lv_iconst (v := 3) hx hb dz_265 (by decide) ?_
  refine lv_iadd hx hb dz_266 ?_
  refine ow_topi (y := nI (6 * n + 3)) (nI_add (6 * n) 3) ?_
  refine va_sld hx hb hX hbl hbA hM.2.2.2.2.2 (vp_in_nI (n := 6 * n + 3) (N := L) (by omega) (by omega)) dz_267 ?_
  refine ow_topi (y := x3) ((congrArg xs (nI_clamp (by omega))).trans e3) ?_
  refine lv_aload_n hx hb dz_268 rfl (lv_at hl 1 rfl) ?_
  refine lv_iload hx hb dz_269 (lv_at hl 5 rfl) ?_
  refine lv_iconst (v := 4) hx hb dz_271 (by decide) ?_
  refine lv_iadd hx hb dz_272 ?_
  refine ow_topi (y := nI (6 * n + 4)) (nI_add (6 * n) 4) ?_
  refine va_sld hx hb hX hbl hbA hM.2.2.2.2.2 (vp_in_nI (n := 6 * n + 4) (N := L) (by omega) (by omega)) dz_273 ?_
  refine ow_topi (y := x4) ((congrArg xs (nI_clamp (by omega))).trans e4) ?_
  refine lv_aload_n hx hb dz_274 rfl (lv_at hl 1 rfl) ?_
  refine lv_iload hx hb dz_275 (lv_at hl 5 rfl) ?_
  refine lv_iconst (v := 5) hx hb dz_277 (by decide) ?_
  refine lv_iadd hx hb dz_278 ?_
  refine ow_topi (y := nI (6 * n + 5)) (nI_add (6 * n) 5) ?_
  refine va_sld hx hb hX hbl hbA hM.2.2.2.2.2 (vp_in_nI (n := 6 * n + 5) (N := L) (by omega) (by omega)) dz_279 ?_
  refine ow_topi (y := x5) ((congrArg xs (nI_clamp (by omega))).trans e5) ?_
  obtain ⟨v4, zm3, hcq, hq⟩ := tw_cl1 hq
  refine lx_refi hM (va_runV (As := [.int x1, .int x2, .int x3, .int x4, .int x5]) (rest := []) ⟨hx, hb, hml, hown, hts⟩ (km_X13_feed l D q5 w hM.2.2.2.1.1 K x1 x2 x3 x4 x5 zm zm3 v4 hcq) (cwV 5 hts (lx_gV (lx_all wM_good rfl) (lx_mem hM1 (hZ _ zq_4)) (hZ _ zq_5) (hZ _ zq_6) (hZ _ zq_7) (hZ _ zq_8) rfl rfl rfl rfl) rfl rfl rfl cd_X13_feed ⟨(Nat.le_of_ble_eq_true rfl), (Nat.le_of_ble_eq_true rfl)⟩) (lx_preM hG hM) rfl rfl hl.1 rfl (lv_room (Nat.le_of_ble_eq_true rfl)) dz_280 ⟨(by show _ ≤ 601024; omega), (by show _ ≤ 7293033; omega)⟩) (fun H locs hM => ?_)
  refine lv_istore (lv' := [(6, .int v4), (5, .int v2), (0, .ref b), (1, .ref (u 0)), (2, .ref (w 0)), (3, .ref (u 52001)), (4, .int (nI (6 * n)))]) hx hb dz_283 hl (by decide) rfl (fun ls hl => ?_)
  refine lv_goto (tgt := 1693) hx hb dz_285 (by decide) ?_
  exact kk _ _ H locs ls hM (lv_sub hl [2, 3, 4, 5, 6] rfl) hq
theorem dz_288 : decode cL_law 288 = .ok (.aload_n 1, 1) := dw_at dwl_2 (p := 48) rfl (by decide +kernel)
theorem dz_289 : decode cL_law 289 = .ok (.aload_n 0, 1) := dw_at dwl_2 (p := 49) rfl (by decide +kernel)
theorem dz_290 : decode cL_law 290 = .ok (.iload 4, 2) := dw_at dwl_2 (p := 50) rfl (by decide +kernel)
theorem dz_292 : decode cL_law 292 = .ok (.iconst 1, 1) := dw_at dwl_2 (p := 52) rfl (by decide +kernel)
theorem dz_293 : decode cL_law 293 = .ok (.iadd, 1) := dw_at dwl_2 (p := 53) rfl (by decide +kernel)
theorem dz_294 : decode cL_law 294 = .ok (.iaload, 1) := dw_at dwl_2 (p := 54) rfl (by decide +kernel)
theorem dz_295 : decode cL_law 295 = .ok (.invokestatic 137, 3) := dw_at dwl_2 (p := 55) rfl (by decide +kernel)
theorem dz_298 : decode cL_law 298 = .ok (.istore 5, 2) := dw_at dwl_2 (p := 58) rfl (by decide +kernel)
theorem dz_300 : decode cL_law 300 = .ok (.aload_n 2, 1) := dw_at dwl_2 (p := 60) rfl (by decide +kernel)
theorem dz_301 : decode cL_law 301 = .ok (.aload_n 0, 1) := dw_at dwl_2 (p := 61) rfl (by decide +kernel)
theorem dz_302 : decode cL_law 302 = .ok (.iload 4, 2) := dw_at dwl_2 (p := 62) rfl (by decide +kernel)
theorem dz_304 : decode cL_law 304 = .ok (.iconst 1, 1) := dw_at dwl_2 (p := 64) rfl (by decide +kernel)
theorem dz_305 : decode cL_law 305 = .ok (.iadd, 1) := dw_at dwl_2 (p := 65) rfl (by decide +kernel)
theorem dz_306 : decode cL_law 306 = .ok (.iaload, 1) := dw_at dwl_2 (p := 66) rfl (by decide +kernel)
theorem dz_307 : decode cL_law 307 = .ok (.invokevirtual 140, 3) := dw_at dwl_2 (p := 67) rfl (by decide +kernel)
theorem dz_310 : decode cL_law 310 = .ok (.aload_n 2, 1) := dw_at dwl_2 (p := 70) rfl (by decide +kernel)
theorem dz_311 : decode cL_law 311 = .ok (.invokevirtual 141, 3) := dw_at dwl_2 (p := 71) rfl (by decide +kernel)
theorem dz_314 : decode cL_law 314 = .ok (.iload 5, 2) := dw_at dwl_2 (p := 74) rfl (by decide +kernel)
theorem dz_316 : decode cL_law 316 = .ok (.if_icmp .eq 5, 3) := dw_at dwl_2 (p := 76) rfl (by decide +kernel)
theorem dz_319 : decode cL_law 319 = .ok (.iconst 0, 1) := dw_at dwl_2 (p := 79) rfl (by decide +kernel)
theorem dz_321 : decode cL_law 321 = .ok (.goto 1372, 3) := dw_at dwl_2 (p := 81) rfl (by decide +kernel)
def ltp_end (vl : Nat → Nat) (K : Nat) (x1 : Int32) (x2 : Int32) (x3 : Int32) (x4 : Int32) (x5 : Int32) (zc zm : ow_MS) : Option ow_LwS :=
 cs1 (le_L_end vl K 0 x1 zc) fun v2 zc1 => cs0 (qe_X13_end K x1 zm) fun zm3 => cs1 (qe_X13_thrown K zm3) fun v5 zm4 => (if v5 = v2 then some (vl, zc1, zm4)
 else none)
set_option maxHeartbeats 4000000 in
set_option maxRecDepth 100000 in
theorem lxc_end {p : Program} {l : Launch} {e : Env} {s : State} {m : MethodId} {args : Array Value} {below : List Frame} {meth : Method} {c : Code} {b L K n : Nat} {xs : Nat → Int32} {D : va_G} {q : Nat → ClassId} {q5 : ow_Q5} {vl u w sa : Nat → Nat} {zc zm : ow_MS} {S1 : ow_LwS} {Ts : List Cond} {Q : State → Prop} {H : Heap} {locs : List Loc} {ls : Array Slot} {cells slots : Nat} (hx : p.tables.exec = Jvm.exec) (hb : c.code = cL_law) (hml : c.maxLocals = 8) (hown : s.vm.findClass RL = some m.cls) (hts : ∀ w ∈ Ts, w.before args s = true) (hX : va_X b L xs s s.heap) (hbl : b < s.heap.size) (hZ : ∀ w ∈ wZ, w ∈ Ts) (hL1 : ∀ w ∈ wLL, w ∈ Ts) (hC1 : ∀ w ∈ wC, w ∈ Ts) (hM1 : ∀ w ∈ wM, w ∈ Ts) (hG : lx_G l s D q q5 sa) (hLn : L ≤ 3072) (hn : 6 * n + 6 ≤ L) (hq : ltp_end vl K (xs (6 * n + 1)) (xs (6 * n + 2)) (xs (6 * n + 3)) (xs (6 * n + 4)) (xs (6 * n + 5)) zc zm = some S1) (hM : lx_M D q q5 s vl u w zc zm H locs) (hl : lv_has ls 8 [(0, .ref b), (1, .ref (u 0)), (2, .ref (w 0)), (3, .ref (u 52001)), (4, .int (nI (6 * n)))]) (hc : cells + 1 ≤ 601024) (hs : slots + 6 ≤ 7293033) (kk : ∀ (zc1 zm1 : ow_MS) (H1 : Heap) (locs1 : List Loc) (ls1 : Array Slot), lx_M D q q5 s vl u w zc1 zm1 H1 locs1 → lv_has ls1 8 [(0, .ref b), (1, .ref (u 0)), (2, .ref (w 0)), (3, .ref (u 52001)), (4, .int (nI (6 * n)))] → some (vl, zc1, zm1) = some S1 → W p l e room_1 s m args below meth c H1 locs1 (cells + 1) (slots + 6) Q (F0 m 1693 ls1 [])) : W p l e room_1 s m args below meth c H locs cells slots Q (F0 m 288 ls []) := by
  have hbA : ¬ lx_A s b := Nat.not_le.mpr hbl
  generalize e1 : xs (6 * n + 1) = x1 at hq
  generalize e2 : xs (6 * n + 2) = x2 at hq
  generalize e3 : xs (6 * n + 3) = x3 at hq
  generalize e4 : xs (6 * n + 4) = x4 at hq
  generalize e5 : xs (6 * n + 5) = x5 at hq
  unfold ltp_end at hq
  refine lv_aload_n hx hb dz_288 rfl (lv_at hl 1 rfl) ?_
  refine lv_aload_n hx hb dz_289 rfl (lv_at hl 0 rfl) ?_
  refine lv_iload hx hb dz_290 (lv_at hl 4 rfl) ?_
  refine lv_iconst (v := 1) hx hb dz_292 (by decide) ?_
  refine lv_iadd hx hb dz_293 ?_
  refine ow_topi (y := nI (6 * n + 1)) (nI_add (6 * n) 1) ?_
  refine va_sld hx hb hX hbl hbA hM.2.2.2.2.2 (vp_in_nI (n := 6 * n + 1) (N := L) (by omega) (by omega)) dz_294 ?_
  refine ow_topi (y := x1) ((congrArg xs (nI_clamp (by omega))).trans e1) ?_
  obtain ⟨v2, zc1, hcq, hq⟩ := tw_cl1 hq
  refine lx_wrap hM (vx_runSX (As := [.ref (u 0), .int x1]) (rest := []) ⟨hx, hb, hml, hown, hts⟩ (kl_L_end l D q vl u hM.2.2.1.1 hG.1 sa K 0 x1 (by unfold cw_X11 ci_X11; exact List.mem_singleton.mpr rfl) zc zc1 v2 hcq) (vx_cwSW 2 hts (lx_gS (lx_all wLL_good rfl) (lx_mem hL1 (hZ _ zq_13)) (hZ _ zq_14) (hZ _ zq_15) (hZ _ zq_3) rfl rfl rfl) rfl rfl rfl (by decide +kernel) ⟨(Nat.le_of_ble_eq_true rfl), (Nat.le_of_ble_eq_true rfl)⟩) (lx_preL hG hM) rfl rfl hl.1 rfl (lv_room (Nat.le_of_ble_eq_true rfl)) dz_295 ⟨(by show _ ≤ 601024; omega), (by show _ ≤ 7293033; omega)⟩) (fun H locs hM => ?_)
  refine lv_istore (lv' := [(5, .int v2), (0, .ref b), (1, .ref (u 0)), (2, .ref (w 0)), (3, .ref (u 52001)), (4, .int (nI (6 * n)))]) hx hb dz_298 hl (by decide) rfl (fun ls hl => ?_)
  refine lv_aload_n hx hb dz_300 rfl (lv_at hl 3 rfl) ?_
  refine lv_aload_n hx hb dz_301 rfl (lv_at hl 1 rfl) ?_
  refine lv_iload hx hb dz_302 (lv_at hl 5 rfl) ?_
  refine lv_iconst (v := 1) hx hb dz_304 (by decide) ?_
  refine lv_iadd hx hb dz_305 ?_
  refine ow_topi (y := nI (6 * n + 1)) (nI_add (6 * n) 1) ?_
  refine va_sld hx hb hX hbl hbA hM.2.2.2.2.2 (vp_in_nI (n := 6 * n + 1) (N := L) (by omega) (by omega)) dz_306 ?_
  refine ow_topi (y := x1) ((congrArg xs (nI_clamp (by omega))).trans e1) ?_
  obtain ⟨zm3, hcq, hq⟩ := tw_cl0 hq
  refine lx_refv hM (va_runV (As := [.int x1]) (rest := []) ⟨hx, hb, hml, hown, hts⟩ (km_X13_end l D q5 w hM.2.2.2.1.1 K x1 zm zm3 hcq) (cwV 1 hts (lx_gV (lx_all wM_good rfl) (lx_mem hM1 (hZ _ zq_16)) (hZ _ zq_17) (hZ _ zq_18) (hZ _ zq_19) (hZ _ zq_8) rfl rfl rfl rfl) rfl rfl rfl cd_X13_end ⟨(Nat.le_of_ble_eq_true rfl), (Nat.le_of_ble_eq_true rfl)⟩) (lx_preM hG hM) rfl rfl hl.1 rfl (lv_room (Nat.le_of_ble_eq_true rfl)) dz_307 ⟨(by show _ ≤ 601024; omega), (by show _ ≤ 7293033; omega)⟩) (fun H locs hM => ?_)
  refine lv_aload_n hx hb dz_310 rfl (lv_at hl 3 rfl) ?_
  obtain ⟨v5, zm4, hcq, hq⟩ := tw_cl1 hq
  refine lx_refi hM (va_runV (As := []) (rest := []) ⟨hx, hb, hml, hown, hts⟩ (km_X13_thrown l D q5 w hM.2.2.2.1.1 K zm3 zm4 v5 hcq) (cwV 0 hts (lx_gV (lx_all wM_good rfl) (lx_mem hM1 (hZ _ zq_9)) (hZ _ zq_10) (hZ _ zq_11) (hZ _ zq_12) (hZ _ zq_8) rfl rfl rfl rfl) rfl rfl rfl cd_X13_thrown ⟨(Nat.le_of_ble_eq_true rfl), (Nat.le_of_ble_eq_true rfl)⟩) (lx_preM hG hM) rfl rfl hl.1 rfl (lv_room (Nat.le_of_ble_eq_true rfl)) dz_311 ⟨(by show _ ≤ 601024; omega), (by show _ ≤ 7293033; omega)⟩) (fun H locs hM => ?_)
  refine lv_iload hx hb dz_314 (lv_at hl 0 rfl) ?_
  refine lv_icmp_eq (tgt := 321) hx hb dz_316 (by decide) (fun hc9 => ?_) (fun hc9 => ?_)
  · have hq := tw_it hq hc9
    refine lv_goto (tgt := 1693) hx hb dz_321 (by decide) ?_
    exact kk _ _ H locs ls hM (lv_sub hl [1, 2, 3, 4, 5] rfl) hq
  · have hq := tw_if hq hc9
    refine lv_iconst (v := 0) hx hb dz_319 (by decide) ?_
    exact cw_no hq
theorem dz_324 : decode cL_law 324 = .ok (.aload_n 1, 1) := dw_at dwl_2 (p := 84) rfl (by decide +kernel)
theorem dz_325 : decode cL_law 325 = .ok (.aload_n 3, 1) := dw_at dwl_2 (p := 85) rfl (by decide +kernel)
theorem dz_326 : decode cL_law 326 = .ok (.invokestatic 144, 3) := dw_at dwl_2 (p := 86) rfl (by decide +kernel)
theorem dz_329 : decode cL_law 329 = .ok (.istore 5, 2) := dw_at dwl_2 (p := 89) rfl (by decide +kernel)
theorem dz_331 : decode cL_law 331 = .ok (.aload_n 2, 1) := dw_at dwl_2 (p := 91) rfl (by decide +kernel)
theorem dz_332 : decode cL_law 332 = .ok (.invokevirtual 147, 3) := dw_at dwl_2 (p := 92) rfl (by decide +kernel)
theorem dz_335 : decode cL_law 335 = .ok (.istore 6, 2) := dw_at dwl_2 (p := 95) rfl (by decide +kernel)
theorem dz_337 : decode cL_law 337 = .ok (.goto 1356, 3) := dw_at dwl_2 (p := 97) rfl (by decide +kernel)
def ltp_diagram (vl : Nat → Nat) (K : Nat) (x1 : Int32) (x2 : Int32) (x3 : Int32) (x4 : Int32) (x5 : Int32) (zc zm : ow_MS) : Option ow_LwS :=
 cs1 (le_L_diagram vl K 0  zc) fun v2 zc1 => cs1 (qe_X13_diagram K zm) fun v4 zm3 => some (vl, zc1, zm3)
set_option maxHeartbeats 4000000 in
set_option maxRecDepth 100000 in
theorem lxc_diagram {p : Program} {l : Launch} {e : Env} {s : State} {m : MethodId} {args : Array Value} {below : List Frame} {meth : Method} {c : Code} {b L K n : Nat} {xs : Nat → Int32} {D : va_G} {q : Nat → ClassId} {q5 : ow_Q5} {vl u w sa : Nat → Nat} {zc zm : ow_MS} {S1 : ow_LwS} {Ts : List Cond} {Q : State → Prop} {H : Heap} {locs : List Loc} {ls : Array Slot} {cells slots : Nat} (hx : p.tables.exec = Jvm.exec) (hb : c.code = cL_law) (hml : c.maxLocals = 8) (hown : s.vm.findClass RL = some m.cls) (hts : ∀ w ∈ Ts, w.before args s = true) (hX : va_X b L xs s s.heap) (hbl : b < s.heap.size) (hZ : ∀ w ∈ wZ, w ∈ Ts) (hL1 : ∀ w ∈ wLL, w ∈ Ts) (hC1 : ∀ w ∈ wC, w ∈ Ts) (hM1 : ∀ w ∈ wM, w ∈ Ts) (hG : lx_G l s D q q5 sa) (hLn : L ≤ 3072) (hn : 6 * n + 6 ≤ L) (hq : ltp_diagram vl K (xs (6 * n + 1)) (xs (6 * n + 2)) (xs (6 * n + 3)) (xs (6 * n + 4)) (xs (6 * n + 5)) zc zm = some S1) (hM : lx_M D q q5 s vl u w zc zm H locs) (hl : lv_has ls 8 [(0, .ref b), (1, .ref (u 0)), (2, .ref (w 0)), (3, .ref (u 52001)), (4, .int (nI (6 * n)))]) (hc : cells + 1 ≤ 601024) (hs : slots + 6 ≤ 7293033) (kk : ∀ (zc1 zm1 : ow_MS) (H1 : Heap) (locs1 : List Loc) (ls1 : Array Slot), lx_M D q q5 s vl u w zc1 zm1 H1 locs1 → lv_has ls1 8 [(0, .ref b), (1, .ref (u 0)), (2, .ref (w 0)), (3, .ref (u 52001)), (4, .int (nI (6 * n)))] → some (vl, zc1, zm1) = some S1 → W p l e room_1 s m args below meth c H1 locs1 (cells + 1) (slots + 6) Q (F0 m 1693 ls1 [])) : W p l e room_1 s m args below meth c H locs cells slots Q (F0 m 324 ls []) := by
  have hbA : ¬ lx_A s b := Nat.not_le.mpr hbl
  generalize e1 : xs (6 * n + 1) = x1 at hq
  generalize e2 : xs (6 * n + 2) = x2 at hq
  generalize e3 : xs (6 * n + 3) = x3 at hq
  generalize e4 : xs (6 * n + 4) = x4 at hq
  generalize e5 : xs (6 * n + 5) = x5 at hq
  unfold ltp_diagram at hq
  refine lv_aload_n hx hb dz_324 rfl (lv_at hl 1 rfl) ?_
  refine lv_aload_n hx hb dz_325 rfl (lv_at hl 3 rfl) ?_
  obtain ⟨v2, zc1, hcq, hq⟩ := tw_cl1 hq
  refine lx_wrap hM (vx_runSX (As := [.ref (u 0), .ref (u 52001)]) (rest := []) ⟨hx, hb, hml, hown, hts⟩ (kl_L_diagram l D q vl u hM.2.2.1.1 hG.1 sa K 0  (by unfold cw_X11 ci_X11; exact List.mem_singleton.mpr rfl) zc zc1 v2 hcq) (vx_cwSW 2 hts (lx_gS (lx_all wLL_good rfl) (lx_mem hL1 (hZ _ zq_20)) (hZ _ zq_21) (hZ _ zq_22) (hZ _ zq_3) rfl rfl rfl) rfl rfl rfl (by decide +kernel) ⟨(Nat.le_of_ble_eq_true rfl), (Nat.le_of_ble_eq_true rfl)⟩) (lx_preL hG hM) rfl rfl hl.1 rfl (lv_room (Nat.le_of_ble_eq_true rfl)) dz_326 ⟨(by show _ ≤ 601024; omega), (by show _ ≤ 7293033; omega)⟩) (fun H locs hM => ?_)
  refine lv_istore (lv' := [(5, .int v2), (0, .ref b), (1, .ref (u 0)), (2, .ref (w 0)), (3, .ref (u 52001)), (4, .int (nI (6 * n)))]) hx hb dz_329 hl (by decide) rfl (fun ls hl => ?_)
  refine lv_aload_n hx hb dz_331 rfl (lv_at hl 3 rfl) ?_
  obtain ⟨v4, zm3, hcq, hq⟩ := tw_cl1 hq
  refine lx_refi hM (va_runV (As := []) (rest := []) ⟨hx, hb, hml, hown, hts⟩ (km_X13_diagram l D q5 w hM.2.2.2.1.1 K zm zm3 v4 hcq) (cwV 0 hts (lx_gV (lx_all wM_good rfl) (lx_mem hM1 (hZ _ zq_23)) (hZ _ zq_24) (hZ _ zq_25) (hZ _ zq_26) (hZ _ zq_8) rfl rfl rfl rfl) rfl rfl rfl cd_X13_diagram ⟨(Nat.le_of_ble_eq_true rfl), (Nat.le_of_ble_eq_true rfl)⟩) (lx_preM hG hM) rfl rfl hl.1 rfl (lv_room (Nat.le_of_ble_eq_true rfl)) dz_332 ⟨(by show _ ≤ 601024; omega), (by show _ ≤ 7293033; omega)⟩) (fun H locs hM => ?_)
  refine lv_istore (lv' := [(6, .int v4), (5, .int v2), (0, .ref b), (1, .ref (u 0)), (2, .ref (w 0)), (3, .ref (u 52001)), (4, .int (nI (6 * n)))]) hx hb dz_335 hl (by decide) rfl (fun ls hl => ?_)
  refine lv_goto (tgt := 1693) hx hb dz_337 (by decide) ?_
  exact kk _ _ H locs ls hM (lv_sub hl [2, 3, 4, 5, 6] rfl) hq
theorem dz_340 : decode cL_law 340 = .ok (.aload_n 1, 1) := dw_at dwl_2 (p := 100) rfl (by decide +kernel)
theorem dz_341 : decode cL_law 341 = .ok (.aload_n 0, 1) := dw_at dwl_2 (p := 101) rfl (by decide +kernel)
theorem dz_342 : decode cL_law 342 = .ok (.iload 4, 2) := dw_at dwl_2 (p := 102) rfl (by decide +kernel)
theorem dz_344 : decode cL_law 344 = .ok (.iconst 1, 1) := dw_at dwl_2 (p := 104) rfl (by decide +kernel)
theorem dz_345 : decode cL_law 345 = .ok (.iadd, 1) := dw_at dwl_2 (p := 105) rfl (by decide +kernel)
theorem dz_346 : decode cL_law 346 = .ok (.iaload, 1) := dw_at dwl_2 (p := 106) rfl (by decide +kernel)
theorem dz_347 : decode cL_law 347 = .ok (.aload_n 3, 1) := dw_at dwl_2 (p := 107) rfl (by decide +kernel)
theorem dz_348 : decode cL_law 348 = .ok (.invokestatic 148, 3) := dw_at dwl_2 (p := 108) rfl (by decide +kernel)
theorem dz_351 : decode cL_law 351 = .ok (.istore 5, 2) := dw_at dwl_2 (p := 111) rfl (by decide +kernel)
theorem dz_353 : decode cL_law 353 = .ok (.aload_n 2, 1) := dw_at dwl_2 (p := 113) rfl (by decide +kernel)
theorem dz_354 : decode cL_law 354 = .ok (.aload_n 0, 1) := dw_at dwl_2 (p := 114) rfl (by decide +kernel)
theorem dz_355 : decode cL_law 355 = .ok (.iload 4, 2) := dw_at dwl_2 (p := 115) rfl (by decide +kernel)
theorem dz_357 : decode cL_law 357 = .ok (.iconst 1, 1) := dw_at dwl_2 (p := 117) rfl (by decide +kernel)
theorem dz_358 : decode cL_law 358 = .ok (.iadd, 1) := dw_at dwl_2 (p := 118) rfl (by decide +kernel)
theorem dz_359 : decode cL_law 359 = .ok (.iaload, 1) := dw_at dwl_2 (p := 119) rfl (by decide +kernel)
theorem dz_360 : decode cL_law 360 = .ok (.invokevirtual 151, 3) := dw_at dwl_3 (p := 0) rfl (by decide +kernel)
theorem dz_363 : decode cL_law 363 = .ok (.istore 6, 2) := dw_at dwl_3 (p := 3) rfl (by decide +kernel)
theorem dz_365 : decode cL_law 365 = .ok (.goto 1328, 3) := dw_at dwl_3 (p := 5) rfl (by decide +kernel)
def ltp_braid (vl : Nat → Nat) (K : Nat) (x1 : Int32) (x2 : Int32) (x3 : Int32) (x4 : Int32) (x5 : Int32) (zc zm : ow_MS) : Option ow_LwS :=
 cs1 (le_L_braid vl K 0 x1 zc) fun v2 zc1 => cs1 (qe_X13_braid K x1 zm) fun v4 zm3 => some (vl, zc1, zm3)
set_option maxHeartbeats 4000000 in
set_option maxRecDepth 100000 in
theorem lxc_braid {p : Program} {l : Launch} {e : Env} {s : State} {m : MethodId} {args : Array Value} {below : List Frame} {meth : Method} {c : Code} {b L K n : Nat} {xs : Nat → Int32} {D : va_G} {q : Nat → ClassId} {q5 : ow_Q5} {vl u w sa : Nat → Nat} {zc zm : ow_MS} {S1 : ow_LwS} {Ts : List Cond} {Q : State → Prop} {H : Heap} {locs : List Loc} {ls : Array Slot} {cells slots : Nat} (hx : p.tables.exec = Jvm.exec) (hb : c.code = cL_law) (hml : c.maxLocals = 8) (hown : s.vm.findClass RL = some m.cls) (hts : ∀ w ∈ Ts, w.before args s = true) (hX : va_X b L xs s s.heap) (hbl : b < s.heap.size) (hZ : ∀ w ∈ wZ, w ∈ Ts) (hL1 : ∀ w ∈ wLL, w ∈ Ts) (hC1 : ∀ w ∈ wC, w ∈ Ts) (hM1 : ∀ w ∈ wM, w ∈ Ts) (hG : lx_G l s D q q5 sa) (hLn : L ≤ 3072) (hn : 6 * n + 6 ≤ L) (hq : ltp_braid vl K (xs (6 * n + 1)) (xs (6 * n + 2)) (xs (6 * n + 3)) (xs (6 * n + 4)) (xs (6 * n + 5)) zc zm = some S1) (hM : lx_M D q q5 s vl u w zc zm H locs) (hl : lv_has ls 8 [(0, .ref b), (1, .ref (u 0)), (2, .ref (w 0)), (3, .ref (u 52001)), (4, .int (nI (6 * n)))]) (hc : cells + 2 ≤ 601024) (hs : slots + 12 ≤ 7293033) (kk : ∀ (zc1 zm1 : ow_MS) (H1 : Heap) (locs1 : List Loc) (ls1 : Array Slot), lx_M D q q5 s vl u w zc1 zm1 H1 locs1 → lv_has ls1 8 [(0, .ref b), (1, .ref (u 0)), (2, .ref (w 0)), (3, .ref (u 52001)), (4, .int (nI (6 * n)))] → some (vl, zc1, zm1) = some S1 → W p l e room_1 s m args below meth c H1 locs1 (cells + 2) (slots + 12) Q (F0 m 1693 ls1 [])) : W p l e room_1 s m args below meth c H locs cells slots Q (F0 m 340 ls []) := by
  have hbA : ¬ lx_A s b := Nat.not_le.mpr hbl
  generalize e1 : xs (6 * n + 1) = x1 at hq
  generalize e2 : xs (6 * n + 2) = x2 at hq
  generalize e3 : xs (6 * n + 3) = x3 at hq
  generalize e4 : xs (6 * n + 4) = x4 at hq
  generalize e5 : xs (6 * n + 5) = x5 at hq
  unfold ltp_braid at hq
  refine lv_aload_n hx hb dz_340 rfl (lv_at hl 1 rfl) ?_
  refine lv_aload_n hx hb dz_341 rfl (lv_at hl 0 rfl) ?_
  refine lv_iload hx hb dz_342 (lv_at hl 4 rfl) ?_
  refine lv_iconst (v := 1) hx hb dz_344 (by decide) ?_
  refine lv_iadd hx hb dz_345 ?_
  refine ow_topi (y := nI (6 * n + 1)) (nI_add (6 * n) 1) ?_
  refine va_sld hx hb hX hbl hbA hM.2.2.2.2.2 (vp_in_nI (n := 6 * n + 1) (N := L) (by omega) (by omega)) dz_346 ?_
  refine ow_topi (y := x1) ((congrArg xs (nI_clamp (by omega))).trans e1) ?_
  refine lv_aload_n hx hb dz_347 rfl (lv_at hl 3 rfl) ?_
  obtain ⟨v2, zc1, hcq, hq⟩ := tw_cl1 hq
  refine lx_wrap hM (vx_runSX (As := [.ref (u 0), .int x1, .ref (u 52001)]) (rest := []) ⟨hx, hb, hml, hown, hts⟩ (kl_L_braid l D q vl u hM.2.2.1.1 hG.1 sa K 0 x1 (by unfold cw_X11 ci_X11; exact List.mem_singleton.mpr rfl) zc zc1 v2 hcq) (vx_cwSW 3 hts (lx_gS (lx_all wLL_good rfl) (lx_mem hL1 (hZ _ zq_27)) (hZ _ zq_28) (hZ _ zq_29) (hZ _ zq_3) rfl rfl rfl) rfl rfl rfl (by decide +kernel) ⟨(Nat.le_of_ble_eq_true rfl), (Nat.le_of_ble_eq_true rfl)⟩) (lx_preL hG hM) rfl rfl hl.1 rfl (lv_room (Nat.le_of_ble_eq_true rfl)) dz_348 ⟨(by show _ ≤ 601024; omega), (by show _ ≤ 7293033; omega)⟩) (fun H locs hM => ?_)
  refine lv_istore (lv' := [(5, .int v2), (0, .ref b), (1, .ref (u 0)), (2, .ref (w 0)), (3, .ref (u 52001)), (4, .int (nI (6 * n)))]) hx hb dz_351 hl (by decide) rfl (fun ls hl => ?_)
  refine lv_aload_n hx hb dz_353 rfl (lv_at hl 3 rfl) ?_
  refine lv_aload_n hx hb dz_354 rfl (lv_at hl 1 rfl) ?_
  refine lv_iload hx hb dz_355 (lv_at hl 5 rfl) ?_
  refine lv_iconst (v := 1) hx hb dz_357 (by decide) ?_
  refine lv_iadd hx hb dz_358 ?_
  refine ow_topi (y := nI (6 * n + 1)) (nI_add (6 * n) 1) ?_
  refine va_sld hx hb hX hbl hbA hM.2.2.2.2.2 (vp_in_nI (n := 6 * n + 1) (N := L) (by omega) (by omega)) dz_359 ?_
  refine ow_topi (y := x1) ((congrArg xs (nI_clamp (by omega))).trans e1) ?_
  obtain ⟨v4, zm3, hcq, hq⟩ := tw_cl1 hq
  refine lx_refi hM (va_runV (As := [.int x1]) (rest := []) ⟨hx, hb, hml, hown, hts⟩ (km_X13_braid l D q5 w hM.2.2.2.1.1 K x1 zm zm3 v4 hcq) (cwV 1 hts (lx_gV (lx_all wM_good rfl) (lx_mem hM1 (hZ _ zq_30)) (hZ _ zq_31) (hZ _ zq_32) (hZ _ zq_33) (hZ _ zq_8) rfl rfl rfl rfl) rfl rfl rfl cd_X13_braid ⟨(Nat.le_of_ble_eq_true rfl), (Nat.le_of_ble_eq_true rfl)⟩) (lx_preM hG hM) rfl rfl hl.1 rfl (lv_room (Nat.le_of_ble_eq_true rfl)) dz_360 ⟨(by show _ ≤ 601024; omega), (by show _ ≤ 7293033; omega)⟩) (fun H locs hM => ?_)
  refine lv_istore (lv' := [(6, .int v4), (5, .int v2), (0, .ref b), (1, .ref (u 0)), (2, .ref (w 0)), (3, .ref (u 52001)), (4, .int (nI (6 * n)))]) hx hb dz_363 hl (by decide) rfl (fun ls hl => ?_)
  refine lv_goto (tgt := 1693) hx hb dz_365 (by decide) ?_
  exact kk _ _ H locs ls hM (lv_sub hl [2, 3, 4, 5, 6] rfl) hq
theorem dz_368 : decode cL_law 368 = .ok (.aload_n 1, 1) := dw_at dwl_3 (p := 8) rfl (by decide +kernel)
theorem dz_369 : decode cL_law 369 = .ok (.aload_n 0, 1) := dw_at dwl_3 (p := 9) rfl (by decide +kernel)
theorem dz_370 : decode cL_law 370 = .ok (.iload 4, 2) := dw_at dwl_3 (p := 10) rfl (by decide +kernel)
theorem dz_372 : decode cL_law 372 = .ok (.iconst 1, 1) := dw_at dwl_3 (p := 12) rfl (by decide +kernel)
theorem dz_373 : decode cL_law 373 = .ok (.iadd, 1) := dw_at dwl_3 (p := 13) rfl (by decide +kernel)
theorem dz_374 : decode cL_law 374 = .ok (.iaload, 1) := dw_at dwl_3 (p := 14) rfl (by decide +kernel)
theorem dz_375 : decode cL_law 375 = .ok (.invokevirtual 152, 3) := dw_at dwl_3 (p := 15) rfl (by decide +kernel)
theorem dz_378 : decode cL_law 378 = .ok (.pop, 1) := dw_at dwl_3 (p := 18) rfl (by decide +kernel)
theorem dz_379 : decode cL_law 379 = .ok (.aload_n 2, 1) := dw_at dwl_3 (p := 19) rfl (by decide +kernel)
theorem dz_380 : decode cL_law 380 = .ok (.aload_n 0, 1) := dw_at dwl_3 (p := 20) rfl (by decide +kernel)
theorem dz_381 : decode cL_law 381 = .ok (.iload 4, 2) := dw_at dwl_3 (p := 21) rfl (by decide +kernel)
theorem dz_383 : decode cL_law 383 = .ok (.iconst 1, 1) := dw_at dwl_3 (p := 23) rfl (by decide +kernel)
theorem dz_384 : decode cL_law 384 = .ok (.iadd, 1) := dw_at dwl_3 (p := 24) rfl (by decide +kernel)
theorem dz_385 : decode cL_law 385 = .ok (.iaload, 1) := dw_at dwl_3 (p := 25) rfl (by decide +kernel)
theorem dz_386 : decode cL_law 386 = .ok (.invokevirtual 156, 3) := dw_at dwl_3 (p := 26) rfl (by decide +kernel)
theorem dz_389 : decode cL_law 389 = .ok (.pop, 1) := dw_at dwl_3 (p := 29) rfl (by decide +kernel)
theorem dz_390 : decode cL_law 390 = .ok (.goto 1303, 3) := dw_at dwl_3 (p := 30) rfl (by decide +kernel)
def ltp_drop (vl : Nat → Nat) (K : Nat) (x1 : Int32) (x2 : Int32) (x3 : Int32) (x4 : Int32) (x5 : Int32) (zc zm : ow_MS) : Option ow_LwS :=
 cs1 (ce_X11_drop vl K 0 x1 zc) fun v2 zc1 => cs1 (qe_X13_drop K x1 zm) fun v4 zm3 => some (vl, zc1, zm3)
set_option maxHeartbeats 4000000 in
set_option maxRecDepth 100000 in
theorem lxc_drop {p : Program} {l : Launch} {e : Env} {s : State} {m : MethodId} {args : Array Value} {below : List Frame} {meth : Method} {c : Code} {b L K n : Nat} {xs : Nat → Int32} {D : va_G} {q : Nat → ClassId} {q5 : ow_Q5} {vl u w sa : Nat → Nat} {zc zm : ow_MS} {S1 : ow_LwS} {Ts : List Cond} {Q : State → Prop} {H : Heap} {locs : List Loc} {ls : Array Slot} {cells slots : Nat} (hx : p.tables.exec = Jvm.exec) (hb : c.code = cL_law) (hml : c.maxLocals = 8) (hown : s.vm.findClass RL = some m.cls) (hts : ∀ w ∈ Ts, w.before args s = true) (hX : va_X b L xs s s.heap) (hbl : b < s.heap.size) (hZ : ∀ w ∈ wZ, w ∈ Ts) (hL1 : ∀ w ∈ wLL, w ∈ Ts) (hC1 : ∀ w ∈ wC, w ∈ Ts) (hM1 : ∀ w ∈ wM, w ∈ Ts) (hG : lx_G l s D q q5 sa) (hLn : L ≤ 3072) (hn : 6 * n + 6 ≤ L) (hq : ltp_drop vl K (xs (6 * n + 1)) (xs (6 * n + 2)) (xs (6 * n + 3)) (xs (6 * n + 4)) (xs (6 * n + 5)) zc zm = some S1) (hM : lx_M D q q5 s vl u w zc zm H locs) (hl : lv_has ls 8 [(0, .ref b), (1, .ref (u 0)), (2, .ref (w 0)), (3, .ref (u 52001)), (4, .int (nI (6 * n)))]) (hc : cells + 0 ≤ 601024) (hs : slots + 0 ≤ 7293033) (kk : ∀ (zc1 zm1 : ow_MS) (H1 : Heap) (locs1 : List Loc) (ls1 : Array Slot), lx_M D q q5 s vl u w zc1 zm1 H1 locs1 → lv_has ls1 8 [(0, .ref b), (1, .ref (u 0)), (2, .ref (w 0)), (3, .ref (u 52001)), (4, .int (nI (6 * n)))] → some (vl, zc1, zm1) = some S1 → W p l e room_1 s m args below meth c H1 locs1 (cells + 0) (slots + 0) Q (F0 m 1693 ls1 [])) : W p l e room_1 s m args below meth c H locs cells slots Q (F0 m 368 ls []) := by
  have hbA : ¬ lx_A s b := Nat.not_le.mpr hbl
  generalize e1 : xs (6 * n + 1) = x1 at hq
  generalize e2 : xs (6 * n + 2) = x2 at hq
  generalize e3 : xs (6 * n + 3) = x3 at hq
  generalize e4 : xs (6 * n + 4) = x4 at hq
  generalize e5 : xs (6 * n + 5) = x5 at hq
  unfold ltp_drop at hq
  refine lv_aload_n hx hb dz_368 rfl (lv_at hl 1 rfl) ?_
  refine lv_aload_n hx hb dz_369 rfl (lv_at hl 0 rfl) ?_
  refine lv_iload hx hb dz_370 (lv_at hl 4 rfl) ?_
  refine lv_iconst (v := 1) hx hb dz_372 (by decide) ?_
  refine lv_iadd hx hb dz_373 ?_
  refine ow_topi (y := nI (6 * n + 1)) (nI_add (6 * n) 1) ?_
  refine va_sld hx hb hX hbl hbA hM.2.2.2.2.2 (vp_in_nI (n := 6 * n + 1) (N := L) (by omega) (by omega)) dz_374 ?_
  refine ow_topi (y := x1) ((congrArg xs (nI_clamp (by omega))).trans e1) ?_
  obtain ⟨v2, zc1, hcq, hq⟩ := tw_cl1 hq
  refine lx_cls hM (va_runV (As := [.int x1]) (rest := []) ⟨hx, hb, hml, hown, hts⟩ (kc_X11_drop l D q vl u hM.2.2.1.1 K 0 x1 (by unfold cw_X11 ci_X11; exact List.mem_singleton.mpr rfl) zc zc1 v2 hcq) (cwV 1 hts (lx_gV (lx_all wC_good rfl) (lx_mem hC1 (hZ _ zq_34)) (hZ _ zq_35) (hZ _ zq_36) (hZ _ zq_37) (hZ _ zq_38) rfl rfl rfl rfl) rfl rfl rfl cdd_X11_drop ⟨(Nat.le_of_ble_eq_true rfl), (Nat.le_of_ble_eq_true rfl)⟩) (lx_preC hG hM) rfl rfl hl.1 rfl (lv_room (Nat.le_of_ble_eq_true rfl)) dz_375 ⟨(by show _ ≤ 601024; omega), (by show _ ≤ 7293033; omega)⟩) (fun H locs hM => ?_)
  refine lv_pop hx hb dz_378 rfl ?_
  refine lv_aload_n hx hb dz_379 rfl (lv_at hl 2 rfl) ?_
  refine lv_aload_n hx hb dz_380 rfl (lv_at hl 0 rfl) ?_
  refine lv_iload hx hb dz_381 (lv_at hl 4 rfl) ?_
  refine lv_iconst (v := 1) hx hb dz_383 (by decide) ?_
  refine lv_iadd hx hb dz_384 ?_
  refine ow_topi (y := nI (6 * n + 1)) (nI_add (6 * n) 1) ?_
  refine va_sld hx hb hX hbl hbA hM.2.2.2.2.2 (vp_in_nI (n := 6 * n + 1) (N := L) (by omega) (by omega)) dz_385 ?_
  refine ow_topi (y := x1) ((congrArg xs (nI_clamp (by omega))).trans e1) ?_
  obtain ⟨v4, zm3, hcq, hq⟩ := tw_cl1 hq
  refine lx_refi hM (va_runV (As := [.int x1]) (rest := []) ⟨hx, hb, hml, hown, hts⟩ (km_X13_drop l D q5 w hM.2.2.2.1.1 K x1 zm zm3 v4 hcq) (cwV 1 hts (lx_gV (lx_all wM_good rfl) (lx_mem hM1 (hZ _ zq_39)) (hZ _ zq_40) (hZ _ zq_41) (hZ _ zq_42) (hZ _ zq_8) rfl rfl rfl rfl) rfl rfl rfl cd_X13_drop ⟨(Nat.le_of_ble_eq_true rfl), (Nat.le_of_ble_eq_true rfl)⟩) (lx_preM hG hM) rfl rfl hl.1 rfl (lv_room (Nat.le_of_ble_eq_true rfl)) dz_386 ⟨(by show _ ≤ 601024; omega), (by show _ ≤ 7293033; omega)⟩) (fun H locs hM => ?_)
  refine lv_pop hx hb dz_389 rfl ?_
  refine lv_goto (tgt := 1693) hx hb dz_390 (by decide) ?_
  exact kk _ _ H locs ls hM (lv_sub hl [0, 1, 2, 3, 4] rfl) hq
theorem dz_393 : decode cL_law 393 = .ok (.aload_n 1, 1) := dw_at dwl_3 (p := 33) rfl (by decide +kernel)
theorem dz_394 : decode cL_law 394 = .ok (.aload_n 0, 1) := dw_at dwl_3 (p := 34) rfl (by decide +kernel)
theorem dz_395 : decode cL_law 395 = .ok (.iload 4, 2) := dw_at dwl_3 (p := 35) rfl (by decide +kernel)
theorem dz_397 : decode cL_law 397 = .ok (.iconst 1, 1) := dw_at dwl_3 (p := 37) rfl (by decide +kernel)
theorem dz_398 : decode cL_law 398 = .ok (.iadd, 1) := dw_at dwl_3 (p := 38) rfl (by decide +kernel)
theorem dz_399 : decode cL_law 399 = .ok (.iaload, 1) := dw_at dwl_3 (p := 39) rfl (by decide +kernel)
theorem dz_400 : decode cL_law 400 = .ok (.invokevirtual 157, 3) := dw_at dwl_3 (p := 40) rfl (by decide +kernel)
theorem dz_403 : decode cL_law 403 = .ok (.pop, 1) := dw_at dwl_3 (p := 43) rfl (by decide +kernel)
theorem dz_404 : decode cL_law 404 = .ok (.aload_n 2, 1) := dw_at dwl_3 (p := 44) rfl (by decide +kernel)
theorem dz_405 : decode cL_law 405 = .ok (.aload_n 0, 1) := dw_at dwl_3 (p := 45) rfl (by decide +kernel)
theorem dz_406 : decode cL_law 406 = .ok (.iload 4, 2) := dw_at dwl_3 (p := 46) rfl (by decide +kernel)
theorem dz_408 : decode cL_law 408 = .ok (.iconst 1, 1) := dw_at dwl_3 (p := 48) rfl (by decide +kernel)
theorem dz_409 : decode cL_law 409 = .ok (.iadd, 1) := dw_at dwl_3 (p := 49) rfl (by decide +kernel)
theorem dz_410 : decode cL_law 410 = .ok (.iaload, 1) := dw_at dwl_3 (p := 50) rfl (by decide +kernel)
theorem dz_411 : decode cL_law 411 = .ok (.invokevirtual 160, 3) := dw_at dwl_3 (p := 51) rfl (by decide +kernel)
theorem dz_414 : decode cL_law 414 = .ok (.pop, 1) := dw_at dwl_3 (p := 54) rfl (by decide +kernel)
theorem dz_415 : decode cL_law 415 = .ok (.goto 1278, 3) := dw_at dwl_3 (p := 55) rfl (by decide +kernel)
def ltp_dropBraid (vl : Nat → Nat) (K : Nat) (x1 : Int32) (x2 : Int32) (x3 : Int32) (x4 : Int32) (x5 : Int32) (zc zm : ow_MS) : Option ow_LwS :=
 cs1 (ce_X11_dropBraid vl K 0 x1 zc) fun v2 zc1 => cs1 (qe_X13_dropBraid K x1 zm) fun v4 zm3 => some (vl, zc1, zm3)
set_option maxHeartbeats 4000000 in
set_option maxRecDepth 100000 in
theorem lxc_dropBraid {p : Program} {l : Launch} {e : Env} {s : State} {m : MethodId} {args : Array Value} {below : List Frame} {meth : Method} {c : Code} {b L K n : Nat} {xs : Nat → Int32} {D : va_G} {q : Nat → ClassId} {q5 : ow_Q5} {vl u w sa : Nat → Nat} {zc zm : ow_MS} {S1 : ow_LwS} {Ts : List Cond} {Q : State → Prop} {H : Heap} {locs : List Loc} {ls : Array Slot} {cells slots : Nat} (hx : p.tables.exec = Jvm.exec) (hb : c.code = cL_law) (hml : c.maxLocals = 8) (hown : s.vm.findClass RL = some m.cls) (hts : ∀ w ∈ Ts, w.before args s = true) (hX : va_X b L xs s s.heap) (hbl : b < s.heap.size) (hZ : ∀ w ∈ wZ, w ∈ Ts) (hL1 : ∀ w ∈ wLL, w ∈ Ts) (hC1 : ∀ w ∈ wC, w ∈ Ts) (hM1 : ∀ w ∈ wM, w ∈ Ts) (hG : lx_G l s D q q5 sa) (hLn : L ≤ 3072) (hn : 6 * n + 6 ≤ L) (hq : ltp_dropBraid vl K (xs (6 * n + 1)) (xs (6 * n + 2)) (xs (6 * n + 3)) (xs (6 * n + 4)) (xs (6 * n + 5)) zc zm = some S1) (hM : lx_M D q q5 s vl u w zc zm H locs) (hl : lv_has ls 8 [(0, .ref b), (1, .ref (u 0)), (2, .ref (w 0)), (3, .ref (u 52001)), (4, .int (nI (6 * n)))]) (hc : cells + 0 ≤ 601024) (hs : slots + 0 ≤ 7293033) (kk : ∀ (zc1 zm1 : ow_MS) (H1 : Heap) (locs1 : List Loc) (ls1 : Array Slot), lx_M D q q5 s vl u w zc1 zm1 H1 locs1 → lv_has ls1 8 [(0, .ref b), (1, .ref (u 0)), (2, .ref (w 0)), (3, .ref (u 52001)), (4, .int (nI (6 * n)))] → some (vl, zc1, zm1) = some S1 → W p l e room_1 s m args below meth c H1 locs1 (cells + 0) (slots + 0) Q (F0 m 1693 ls1 [])) : W p l e room_1 s m args below meth c H locs cells slots Q (F0 m 393 ls []) := by
  have hbA : ¬ lx_A s b := Nat.not_le.mpr hbl
  generalize e1 : xs (6 * n + 1) = x1 at hq
  generalize e2 : xs (6 * n + 2) = x2 at hq
  generalize e3 : xs (6 * n + 3) = x3 at hq
  generalize e4 : xs (6 * n + 4) = x4 at hq
  generalize e5 : xs (6 * n + 5) = x5 at hq
  unfold ltp_dropBraid at hq
  refine lv_aload_n hx hb dz_393 rfl (lv_at hl 1 rfl) ?_
  refine lv_aload_n hx hb dz_394 rfl (lv_at hl 0 rfl) ?_
  refine lv_iload hx hb dz_395 (lv_at hl 4 rfl) ?_
  refine lv_iconst (v := 1) hx hb dz_397 (by decide) ?_
  refine lv_iadd hx hb dz_398 ?_
  refine ow_topi (y := nI (6 * n + 1)) (nI_add (6 * n) 1) ?_
  refine va_sld hx hb hX hbl hbA hM.2.2.2.2.2 (vp_in_nI (n := 6 * n + 1) (N := L) (by omega) (by omega)) dz_399 ?_
  refine ow_topi (y := x1) ((congrArg xs (nI_clamp (by omega))).trans e1) ?_
  obtain ⟨v2, zc1, hcq, hq⟩ := tw_cl1 hq
  refine lx_cls hM (va_runV (As := [.int x1]) (rest := []) ⟨hx, hb, hml, hown, hts⟩ (kc_X11_dropBraid l D q vl u hM.2.2.1.1 K 0 x1 (by unfold cw_X11 ci_X11; exact List.mem_singleton.mpr rfl) zc zc1 v2 hcq) (cwV 1 hts (lx_gV (lx_all wC_good rfl) (lx_mem hC1 (hZ _ zq_43)) (hZ _ zq_44) (hZ _ zq_45) (hZ _ zq_46) (hZ _ zq_38) rfl rfl rfl rfl) rfl rfl rfl cdd_X11_dropBraid ⟨(Nat.le_of_ble_eq_true rfl), (Nat.le_of_ble_eq_true rfl)⟩) (lx_preC hG hM) rfl rfl hl.1 rfl (lv_room (Nat.le_of_ble_eq_true rfl)) dz_400 ⟨(by show _ ≤ 601024; omega), (by show _ ≤ 7293033; omega)⟩) (fun H locs hM => ?_)
  refine lv_pop hx hb dz_403 rfl ?_
  refine lv_aload_n hx hb dz_404 rfl (lv_at hl 2 rfl) ?_
  refine lv_aload_n hx hb dz_405 rfl (lv_at hl 0 rfl) ?_
  refine lv_iload hx hb dz_406 (lv_at hl 4 rfl) ?_
  refine lv_iconst (v := 1) hx hb dz_408 (by decide) ?_
  refine lv_iadd hx hb dz_409 ?_
  refine ow_topi (y := nI (6 * n + 1)) (nI_add (6 * n) 1) ?_
  refine va_sld hx hb hX hbl hbA hM.2.2.2.2.2 (vp_in_nI (n := 6 * n + 1) (N := L) (by omega) (by omega)) dz_410 ?_
  refine ow_topi (y := x1) ((congrArg xs (nI_clamp (by omega))).trans e1) ?_
  obtain ⟨v4, zm3, hcq, hq⟩ := tw_cl1 hq
  refine lx_refi hM (va_runV (As := [.int x1]) (rest := []) ⟨hx, hb, hml, hown, hts⟩ (km_X13_dropBraid l D q5 w hM.2.2.2.1.1 K x1 zm zm3 v4 hcq) (cwV 1 hts (lx_gV (lx_all wM_good rfl) (lx_mem hM1 (hZ _ zq_47)) (hZ _ zq_48) (hZ _ zq_49) (hZ _ zq_50) (hZ _ zq_8) rfl rfl rfl rfl) rfl rfl rfl cd_X13_dropBraid ⟨(Nat.le_of_ble_eq_true rfl), (Nat.le_of_ble_eq_true rfl)⟩) (lx_preM hG hM) rfl rfl hl.1 rfl (lv_room (Nat.le_of_ble_eq_true rfl)) dz_411 ⟨(by show _ ≤ 601024; omega), (by show _ ≤ 7293033; omega)⟩) (fun H locs hM => ?_)
  refine lv_pop hx hb dz_414 rfl ?_
  refine lv_goto (tgt := 1693) hx hb dz_415 (by decide) ?_
  exact kk _ _ H locs ls hM (lv_sub hl [0, 1, 2, 3, 4] rfl) hq
theorem dz_418 : decode cL_law 418 = .ok (.aload_n 1, 1) := dw_at dwl_3 (p := 58) rfl (by decide +kernel)
theorem dz_419 : decode cL_law 419 = .ok (.aload_n 0, 1) := dw_at dwl_3 (p := 59) rfl (by decide +kernel)
theorem dz_420 : decode cL_law 420 = .ok (.iload 4, 2) := dw_at dwl_3 (p := 60) rfl (by decide +kernel)
theorem dz_422 : decode cL_law 422 = .ok (.iconst 1, 1) := dw_at dwl_3 (p := 62) rfl (by decide +kernel)
theorem dz_423 : decode cL_law 423 = .ok (.iadd, 1) := dw_at dwl_3 (p := 63) rfl (by decide +kernel)
theorem dz_424 : decode cL_law 424 = .ok (.iaload, 1) := dw_at dwl_3 (p := 64) rfl (by decide +kernel)
theorem dz_425 : decode cL_law 425 = .ok (.aload_n 0, 1) := dw_at dwl_3 (p := 65) rfl (by decide +kernel)
theorem dz_426 : decode cL_law 426 = .ok (.iload 4, 2) := dw_at dwl_3 (p := 66) rfl (by decide +kernel)
theorem dz_428 : decode cL_law 428 = .ok (.iconst 2, 1) := dw_at dwl_3 (p := 68) rfl (by decide +kernel)
theorem dz_429 : decode cL_law 429 = .ok (.iadd, 1) := dw_at dwl_3 (p := 69) rfl (by decide +kernel)
theorem dz_430 : decode cL_law 430 = .ok (.iaload, 1) := dw_at dwl_3 (p := 70) rfl (by decide +kernel)
theorem dz_431 : decode cL_law 431 = .ok (.aload_n 3, 1) := dw_at dwl_3 (p := 71) rfl (by decide +kernel)
theorem dz_432 : decode cL_law 432 = .ok (.invokestatic 161, 3) := dw_at dwl_3 (p := 72) rfl (by decide +kernel)
theorem dz_435 : decode cL_law 435 = .ok (.istore 5, 2) := dw_at dwl_3 (p := 75) rfl (by decide +kernel)
theorem dz_437 : decode cL_law 437 = .ok (.aload_n 2, 1) := dw_at dwl_3 (p := 77) rfl (by decide +kernel)
theorem dz_438 : decode cL_law 438 = .ok (.aload_n 0, 1) := dw_at dwl_3 (p := 78) rfl (by decide +kernel)
theorem dz_439 : decode cL_law 439 = .ok (.iload 4, 2) := dw_at dwl_3 (p := 79) rfl (by decide +kernel)
theorem dz_441 : decode cL_law 441 = .ok (.iconst 1, 1) := dw_at dwl_3 (p := 81) rfl (by decide +kernel)
theorem dz_442 : decode cL_law 442 = .ok (.iadd, 1) := dw_at dwl_3 (p := 82) rfl (by decide +kernel)
theorem dz_443 : decode cL_law 443 = .ok (.iaload, 1) := dw_at dwl_3 (p := 83) rfl (by decide +kernel)
theorem dz_444 : decode cL_law 444 = .ok (.aload_n 0, 1) := dw_at dwl_3 (p := 84) rfl (by decide +kernel)
theorem dz_445 : decode cL_law 445 = .ok (.iload 4, 2) := dw_at dwl_3 (p := 85) rfl (by decide +kernel)
theorem dz_447 : decode cL_law 447 = .ok (.iconst 2, 1) := dw_at dwl_3 (p := 87) rfl (by decide +kernel)
theorem dz_448 : decode cL_law 448 = .ok (.iadd, 1) := dw_at dwl_3 (p := 88) rfl (by decide +kernel)
theorem dz_449 : decode cL_law 449 = .ok (.iaload, 1) := dw_at dwl_3 (p := 89) rfl (by decide +kernel)
theorem dz_450 : decode cL_law 450 = .ok (.invokevirtual 164, 3) := dw_at dwl_3 (p := 90) rfl (by decide +kernel)
theorem dz_453 : decode cL_law 453 = .ok (.istore 6, 2) := dw_at dwl_3 (p := 93) rfl (by decide +kernel)
theorem dz_455 : decode cL_law 455 = .ok (.goto 1238, 3) := dw_at dwl_3 (p := 95) rfl (by decide +kernel)
def ltp_figure (vl : Nat → Nat) (K : Nat) (x1 : Int32) (x2 : Int32) (x3 : Int32) (x4 : Int32) (x5 : Int32) (zc zm : ow_MS) : Option ow_LwS :=
 cs1 (le_L_figure vl K 0 x1 x2 zc) fun v2 zc1 => cs1 (qe_X13_figure K x1 x2 zm) fun v4 zm3 => some (vl, zc1, zm3)
set_option maxHeartbeats 4000000 in
set_option maxRecDepth 100000 in
theorem lxc_figure {p : Program} {l : Launch} {e : Env} {s : State} {m : MethodId} {args : Array Value} {below : List Frame} {meth : Method} {c : Code} {b L K n : Nat} {xs : Nat → Int32} {D : va_G} {q : Nat → ClassId} {q5 : ow_Q5} {vl u w sa : Nat → Nat} {zc zm : ow_MS} {S1 : ow_LwS} {Ts : List Cond} {Q : State → Prop} {H : Heap} {locs : List Loc} {ls : Array Slot} {cells slots : Nat} (hx : p.tables.exec = Jvm.exec) (hb : c.code = cL_law) (hml : c.maxLocals = 8) (hown : s.vm.findClass RL = some m.cls) (hts : ∀ w ∈ Ts, w.before args s = true) (hX : va_X b L xs s s.heap) (hbl : b < s.heap.size) (hZ : ∀ w ∈ wZ, w ∈ Ts) (hL1 : ∀ w ∈ wLL, w ∈ Ts) (hC1 : ∀ w ∈ wC, w ∈ Ts) (hM1 : ∀ w ∈ wM, w ∈ Ts) (hG : lx_G l s D q q5 sa) (hLn : L ≤ 3072) (hn : 6 * n + 6 ≤ L) (hq : ltp_figure vl K (xs (6 * n + 1)) (xs (6 * n + 2)) (xs (6 * n + 3)) (xs (6 * n + 4)) (xs (6 * n + 5)) zc zm = some S1) (hM : lx_M D q q5 s vl u w zc zm H locs) (hl : lv_has ls 8 [(0, .ref b), (1, .ref (u 0)), (2, .ref (w 0)), (3, .ref (u 52001)), (4, .int (nI (6 * n)))]) (hc : cells + 2 ≤ 601024) (hs : slots + 12 ≤ 7293033) (kk : ∀ (zc1 zm1 : ow_MS) (H1 : Heap) (locs1 : List Loc) (ls1 : Array Slot), lx_M D q q5 s vl u w zc1 zm1 H1 locs1 → lv_has ls1 8 [(0, .ref b), (1, .ref (u 0)), (2, .ref (w 0)), (3, .ref (u 52001)), (4, .int (nI (6 * n)))] → some (vl, zc1, zm1) = some S1 → W p l e room_1 s m args below meth c H1 locs1 (cells + 2) (slots + 12) Q (F0 m 1693 ls1 [])) : W p l e room_1 s m args below meth c H locs cells slots Q (F0 m 418 ls []) := by
  have hbA : ¬ lx_A s b := Nat.not_le.mpr hbl
  generalize e1 : xs (6 * n + 1) = x1 at hq
  generalize e2 : xs (6 * n + 2) = x2 at hq
  generalize e3 : xs (6 * n + 3) = x3 at hq
  generalize e4 : xs (6 * n + 4) = x4 at hq
  generalize e5 : xs (6 * n + 5) = x5 at hq
  unfold ltp_figure at hq
  refine lv_aload_n hx hb dz_418 rfl (lv_at hl 1 rfl) ?_
  refine lv_aload_n hx hb dz_419 rfl (lv_at hl 0 rfl) ?_
  refine lv_iload hx hb dz_420 (lv_at hl 4 rfl) ?_
  refine lv_iconst (v := 1) hx hb dz_422 (by decide) ?_
  refine lv_iadd hx hb dz_423 ?_
  refine ow_topi (y := nI (6 * n + 1)) (nI_add (6 * n) 1) ?_
  refine va_sld hx hb hX hbl hbA hM.2.2.2.2.2 (vp_in_nI (n := 6 * n + 1) (N := L) (by omega) (by omega)) dz_424 ?_
  refine ow_topi (y := x1) ((congrArg xs (nI_clamp (by omega))).trans e1) ?_
  refine lv_aload_n hx hb dz_425 rfl (lv_at hl 0 rfl) ?_
  refine lv_iload hx hb dz_426 (lv_at hl 4 rfl) ?_
  refine lv_iconst (v := 2) hx hb dz_428 (by decide) ?_
  refine lv_iadd hx hb dz_429 ?_
  refine ow_topi (y := nI (6 * n + 2)) (nI_add (6 * n) 2) ?_
  refine va_sld hx hb hX hbl hbA hM.2.2.2.2.2 (vp_in_nI (n := 6 * n + 2) (N := L) (by omega) (by omega)) dz_430 ?_
  refine ow_topi (y := x2) ((congrArg xs (nI_clamp (by omega))).trans e2) ?_
  refine lv_aload_n hx hb dz_431 rfl (lv_at hl 3 rfl) ?_
  obtain ⟨v2, zc1, hcq, hq⟩ := tw_cl1 hq
  refine lx_wrap hM (vx_runSX (As := [.ref (u 0), .int x1, .int x2, .ref (u 52001)]) (rest := []) ⟨hx, hb, hml, hown, hts⟩ (kl_L_figure l D q vl u hM.2.2.1.1 hG.1 sa K 0 x1 x2 (by unfold cw_X11 ci_X11; exact List.mem_singleton.mpr rfl) zc zc1 v2 hcq) (vx_cwSW 4 hts (lx_gS (lx_all wLL_good rfl) (lx_mem hL1 (hZ _ zq_51)) (hZ _ zq_52) (hZ _ zq_53) (hZ _ zq_3) rfl rfl rfl) rfl rfl rfl (by decide +kernel) ⟨(Nat.le_of_ble_eq_true rfl), (Nat.le_of_ble_eq_true rfl)⟩) (lx_preL hG hM) rfl rfl hl.1 rfl (lv_room (Nat.le_of_ble_eq_true rfl)) dz_432 ⟨(by show _ ≤ 601024; omega), (by show _ ≤ 7293033; omega)⟩) (fun H locs hM => ?_)
  refine lv_istore (lv' := [(5, .int v2), (0, .ref b), (1, .ref (u 0)), (2, .ref (w 0)), (3, .ref (u 52001)), (4, .int (nI (6 * n)))]) hx hb dz_435 hl (by decide) rfl (fun ls hl => ?_)
  refine lv_aload_n hx hb dz_437 rfl (lv_at hl 3 rfl) ?_
  refine lv_aload_n hx hb dz_438 rfl (lv_at hl 1 rfl) ?_
  refine lv_iload hx hb dz_439 (lv_at hl 5 rfl) ?_
  refine lv_iconst (v := 1) hx hb dz_441 (by decide) ?_
  refine lv_iadd hx hb dz_442 ?_
  refine ow_topi (y := nI (6 * n + 1)) (nI_add (6 * n) 1) ?_
  refine va_sld hx hb hX hbl hbA hM.2.2.2.2.2 (vp_in_nI (n := 6 * n + 1) (N := L) (by omega) (by omega)) dz_443 ?_
  refine ow_topi (y := x1) ((congrArg xs (nI_clamp (by omega))).trans e1) ?_
  refine lv_aload_n hx hb dz_444 rfl (lv_at hl 1 rfl) ?_
  refine lv_iload hx hb dz_445 (lv_at hl 5 rfl) ?_
  refine lv_iconst (v := 2) hx hb dz_447 (by decide) ?_
  refine lv_iadd hx hb dz_448 ?_
  refine ow_topi (y := nI (6 * n + 2)) (nI_add (6 * n) 2) ?_
  refine va_sld hx hb hX hbl hbA hM.2.2.2.2.2 (vp_in_nI (n := 6 * n + 2) (N := L) (by omega) (by omega)) dz_449 ?_
  refine ow_topi (y := x2) ((congrArg xs (nI_clamp (by omega))).trans e2) ?_
  obtain ⟨v4, zm3, hcq, hq⟩ := tw_cl1 hq
  refine lx_refi hM (va_runV (As := [.int x1, .int x2]) (rest := []) ⟨hx, hb, hml, hown, hts⟩ (km_X13_figure l D q5 w hM.2.2.2.1.1 K x1 x2 zm zm3 v4 hcq) (cwV 2 hts (lx_gV (lx_all wM_good rfl) (lx_mem hM1 (hZ _ zq_54)) (hZ _ zq_55) (hZ _ zq_56) (hZ _ zq_57) (hZ _ zq_8) rfl rfl rfl rfl) rfl rfl rfl cd_X13_figure ⟨(Nat.le_of_ble_eq_true rfl), (Nat.le_of_ble_eq_true rfl)⟩) (lx_preM hG hM) rfl rfl hl.1 rfl (lv_room (Nat.le_of_ble_eq_true rfl)) dz_450 ⟨(by show _ ≤ 601024; omega), (by show _ ≤ 7293033; omega)⟩) (fun H locs hM => ?_)
  refine lv_istore (lv' := [(6, .int v4), (5, .int v2), (0, .ref b), (1, .ref (u 0)), (2, .ref (w 0)), (3, .ref (u 52001)), (4, .int (nI (6 * n)))]) hx hb dz_453 hl (by decide) rfl (fun ls hl => ?_)
  refine lv_goto (tgt := 1693) hx hb dz_455 (by decide) ?_
  exact kk _ _ H locs ls hM (lv_sub hl [2, 3, 4, 5, 6] rfl) hq
theorem dz_458 : decode cL_law 458 = .ok (.aload_n 1, 1) := dw_at dwl_3 (p := 98) rfl (by decide +kernel)
theorem dz_459 : decode cL_law 459 = .ok (.aload_n 0, 1) := dw_at dwl_3 (p := 99) rfl (by decide +kernel)
theorem dz_460 : decode cL_law 460 = .ok (.iload 4, 2) := dw_at dwl_3 (p := 100) rfl (by decide +kernel)
theorem dz_462 : decode cL_law 462 = .ok (.iconst 1, 1) := dw_at dwl_3 (p := 102) rfl (by decide +kernel)
theorem dz_463 : decode cL_law 463 = .ok (.iadd, 1) := dw_at dwl_3 (p := 103) rfl (by decide +kernel)
theorem dz_464 : decode cL_law 464 = .ok (.iaload, 1) := dw_at dwl_3 (p := 104) rfl (by decide +kernel)
theorem dz_465 : decode cL_law 465 = .ok (.aload_n 0, 1) := dw_at dwl_3 (p := 105) rfl (by decide +kernel)
theorem dz_466 : decode cL_law 466 = .ok (.iload 4, 2) := dw_at dwl_3 (p := 106) rfl (by decide +kernel)
theorem dz_468 : decode cL_law 468 = .ok (.iconst 2, 1) := dw_at dwl_3 (p := 108) rfl (by decide +kernel)
theorem dz_469 : decode cL_law 469 = .ok (.iadd, 1) := dw_at dwl_3 (p := 109) rfl (by decide +kernel)
theorem dz_470 : decode cL_law 470 = .ok (.iaload, 1) := dw_at dwl_3 (p := 110) rfl (by decide +kernel)
theorem dz_471 : decode cL_law 471 = .ok (.aload_n 0, 1) := dw_at dwl_3 (p := 111) rfl (by decide +kernel)
theorem dz_472 : decode cL_law 472 = .ok (.iload 4, 2) := dw_at dwl_3 (p := 112) rfl (by decide +kernel)
theorem dz_474 : decode cL_law 474 = .ok (.iconst 3, 1) := dw_at dwl_3 (p := 114) rfl (by decide +kernel)
theorem dz_475 : decode cL_law 475 = .ok (.iadd, 1) := dw_at dwl_3 (p := 115) rfl (by decide +kernel)
theorem dz_476 : decode cL_law 476 = .ok (.iaload, 1) := dw_at dwl_3 (p := 116) rfl (by decide +kernel)
theorem dz_477 : decode cL_law 477 = .ok (.aload_n 3, 1) := dw_at dwl_3 (p := 117) rfl (by decide +kernel)
theorem dz_478 : decode cL_law 478 = .ok (.invokestatic 165, 3) := dw_at dwl_3 (p := 118) rfl (by decide +kernel)
theorem dz_481 : decode cL_law 481 = .ok (.istore 5, 2) := dw_at dwl_4 (p := 1) rfl (by decide +kernel)
theorem dz_483 : decode cL_law 483 = .ok (.aload_n 2, 1) := dw_at dwl_4 (p := 3) rfl (by decide +kernel)
theorem dz_484 : decode cL_law 484 = .ok (.aload_n 0, 1) := dw_at dwl_4 (p := 4) rfl (by decide +kernel)
theorem dz_485 : decode cL_law 485 = .ok (.iload 4, 2) := dw_at dwl_4 (p := 5) rfl (by decide +kernel)
theorem dz_487 : decode cL_law 487 = .ok (.iconst 1, 1) := dw_at dwl_4 (p := 7) rfl (by decide +kernel)
theorem dz_488 : decode cL_law 488 = .ok (.iadd, 1) := dw_at dwl_4 (p := 8) rfl (by decide +kernel)
theorem dz_489 : decode cL_law 489 = .ok (.iaload, 1) := dw_at dwl_4 (p := 9) rfl (by decide +kernel)
theorem dz_490 : decode cL_law 490 = .ok (.aload_n 0, 1) := dw_at dwl_4 (p := 10) rfl (by decide +kernel)
theorem dz_491 : decode cL_law 491 = .ok (.iload 4, 2) := dw_at dwl_4 (p := 11) rfl (by decide +kernel)
theorem dz_493 : decode cL_law 493 = .ok (.iconst 2, 1) := dw_at dwl_4 (p := 13) rfl (by decide +kernel)
theorem dz_494 : decode cL_law 494 = .ok (.iadd, 1) := dw_at dwl_4 (p := 14) rfl (by decide +kernel)
theorem dz_495 : decode cL_law 495 = .ok (.iaload, 1) := dw_at dwl_4 (p := 15) rfl (by decide +kernel)
theorem dz_496 : decode cL_law 496 = .ok (.aload_n 0, 1) := dw_at dwl_4 (p := 16) rfl (by decide +kernel)
theorem dz_497 : decode cL_law 497 = .ok (.iload 4, 2) := dw_at dwl_4 (p := 17) rfl (by decide +kernel)
theorem dz_499 : decode cL_law 499 = .ok (.iconst 3, 1) := dw_at dwl_4 (p := 19) rfl (by decide +kernel)
theorem dz_500 : decode cL_law 500 = .ok (.iadd, 1) := dw_at dwl_4 (p := 20) rfl (by decide +kernel)
theorem dz_501 : decode cL_law 501 = .ok (.iaload, 1) := dw_at dwl_4 (p := 21) rfl (by decide +kernel)
theorem dz_502 : decode cL_law 502 = .ok (.invokevirtual 168, 3) := dw_at dwl_4 (p := 22) rfl (by decide +kernel)
theorem dz_505 : decode cL_law 505 = .ok (.istore 6, 2) := dw_at dwl_4 (p := 25) rfl (by decide +kernel)
theorem dz_507 : decode cL_law 507 = .ok (.goto 1186, 3) := dw_at dwl_4 (p := 27) rfl (by decide +kernel)
def ltp_visit (vl : Nat → Nat) (K : Nat) (x1 : Int32) (x2 : Int32) (x3 : Int32) (x4 : Int32) (x5 : Int32) (zc zm : ow_MS) : Option ow_LwS :=
 cs1 (le_L_visit vl K 0 x1 x2 x3 zc) fun v2 zc1 => cs1 (qe_X13_visit K x1 x2 x3 zm) fun v4 zm3 => some (vl, zc1, zm3)
set_option maxHeartbeats 4000000 in
set_option maxRecDepth 100000 in
theorem lxc_visit {p : Program} {l : Launch} {e : Env} {s : State} {m : MethodId} {args : Array Value} {below : List Frame} {meth : Method} {c : Code} {b L K n : Nat} {xs : Nat → Int32} {D : va_G} {q : Nat → ClassId} {q5 : ow_Q5} {vl u w sa : Nat → Nat} {zc zm : ow_MS} {S1 : ow_LwS} {Ts : List Cond} {Q : State → Prop} {H : Heap} {locs : List Loc} {ls : Array Slot} {cells slots : Nat} (hx : p.tables.exec = Jvm.exec) (hb : c.code = cL_law) (hml : c.maxLocals = 8) (hown : s.vm.findClass RL = some m.cls) (hts : ∀ w ∈ Ts, w.before args s = true) (hX : va_X b L xs s s.heap) (hbl : b < s.heap.size) (hZ : ∀ w ∈ wZ, w ∈ Ts) (hL1 : ∀ w ∈ wLL, w ∈ Ts) (hC1 : ∀ w ∈ wC, w ∈ Ts) (hM1 : ∀ w ∈ wM, w ∈ Ts) (hG : lx_G l s D q q5 sa) (hLn : L ≤ 3072) (hn : 6 * n + 6 ≤ L) (hq : ltp_visit vl K (xs (6 * n + 1)) (xs (6 * n + 2)) (xs (6 * n + 3)) (xs (6 * n + 4)) (xs (6 * n + 5)) zc zm = some S1) (hM : lx_M D q q5 s vl u w zc zm H locs) (hl : lv_has ls 8 [(0, .ref b), (1, .ref (u 0)), (2, .ref (w 0)), (3, .ref (u 52001)), (4, .int (nI (6 * n)))]) (hc : cells + 2 ≤ 601024) (hs : slots + 12 ≤ 7293033) (kk : ∀ (zc1 zm1 : ow_MS) (H1 : Heap) (locs1 : List Loc) (ls1 : Array Slot), lx_M D q q5 s vl u w zc1 zm1 H1 locs1 → lv_has ls1 8 [(0, .ref b), (1, .ref (u 0)), (2, .ref (w 0)), (3, .ref (u 52001)), (4, .int (nI (6 * n)))] → some (vl, zc1, zm1) = some S1 → W p l e room_1 s m args below meth c H1 locs1 (cells + 2) (slots + 12) Q (F0 m 1693 ls1 [])) : W p l e room_1 s m args below meth c H locs cells slots Q (F0 m 458 ls []) := by
  have hbA : ¬ lx_A s b := Nat.not_le.mpr hbl
  generalize e1 : xs (6 * n + 1) = x1 at hq
  generalize e2 : xs (6 * n + 2) = x2 at hq
  generalize e3 : xs (6 * n + 3) = x3 at hq
  generalize e4 : xs (6 * n + 4) = x4 at hq
  generalize e5 : xs (6 * n + 5) = x5 at hq
  unfold ltp_visit at hq
  refine lv_aload_n hx hb dz_458 rfl (lv_at hl 1 rfl) ?_
  refine lv_aload_n hx hb dz_459 rfl (lv_at hl 0 rfl) ?_
  refine lv_iload hx hb dz_460 (lv_at hl 4 rfl) ?_
  refine lv_iconst (v := 1) hx hb dz_462 (by decide) ?_
  refine lv_iadd hx hb dz_463 ?_
  refine ow_topi (y := nI (6 * n + 1)) (nI_add (6 * n) 1) ?_
  refine va_sld hx hb hX hbl hbA hM.2.2.2.2.2 (vp_in_nI (n := 6 * n + 1) (N := L) (by omega) (by omega)) dz_464 ?_
  refine ow_topi (y := x1) ((congrArg xs (nI_clamp (by omega))).trans e1) ?_
  refine lv_aload_n hx hb dz_465 rfl (lv_at hl 0 rfl) ?_
  refine lv_iload hx hb dz_466 (lv_at hl 4 rfl) ?_
  refine lv_iconst (v := 2) hx hb dz_468 (by decide) ?_
  refine lv_iadd hx hb dz_469 ?_
  refine ow_topi (y := nI (6 * n + 2)) (nI_add (6 * n) 2) ?_
  refine va_sld hx hb hX hbl hbA hM.2.2.2.2.2 (vp_in_nI (n := 6 * n + 2) (N := L) (by omega) (by omega)) dz_470 ?_
  refine ow_topi (y := x2) ((congrArg xs (nI_clamp (by omega))).trans e2) ?_
  refine lv_aload_n hx hb dz_471 rfl (lv_at hl 0 rfl) ?_
  refine lv_iload hx hb dz_472 (lv_at hl 4 rfl) ?_
  refine lv_iconst (v := 3) hx hb dz_474 (by decide) ?_
  refine lv_iadd hx hb dz_475 ?_
  refine ow_topi (y := nI (6 * n + 3)) (nI_add (6 * n) 3) ?_
  refine va_sld hx hb hX hbl hbA hM.2.2.2.2.2 (vp_in_nI (n := 6 * n + 3) (N := L) (by omega) (by omega)) dz_476 ?_
  refine ow_topi (y := x3) ((congrArg xs (nI_clamp (by omega))).trans e3) ?_
  refine lv_aload_n hx hb dz_477 rfl (lv_at hl 3 rfl) ?_
  obtain ⟨v2, zc1, hcq, hq⟩ := tw_cl1 hq
  refine lx_wrap hM (vx_runSX (As := [.ref (u 0), .int x1, .int x2, .int x3, .ref (u 52001)]) (rest := []) ⟨hx, hb, hml, hown, hts⟩ (kl_L_visit l D q vl u hM.2.2.1.1 hG.1 sa K 0 x1 x2 x3 (by unfold cw_X11 ci_X11; exact List.mem_singleton.mpr rfl) zc zc1 v2 hcq) (vx_cwSW 5 hts (lx_gS (lx_all wLL_good rfl) (lx_mem hL1 (hZ _ zq_58)) (hZ _ zq_59) (hZ _ zq_60) (hZ _ zq_3) rfl rfl rfl) rfl rfl rfl (by decide +kernel) ⟨(Nat.le_of_ble_eq_true rfl), (Nat.le_of_ble_eq_true rfl)⟩) (lx_preL hG hM) rfl rfl hl.1 rfl (lv_room (Nat.le_of_ble_eq_true rfl)) dz_478 ⟨(by show _ ≤ 601024; omega), (by show _ ≤ 7293033; omega)⟩) (fun H locs hM => ?_)
  refine lv_istore (lv' := [(5, .int v2), (0, .ref b), (1, .ref (u 0)), (2, .ref (w 0)), (3, .ref (u 52001)), (4, .int (nI (6 * n)))]) hx hb dz_481 hl (by decide) rfl (fun ls hl => ?_)
  refine lv_aload_n hx hb dz_483 rfl (lv_at hl 3 rfl) ?_
  refine lv_aload_n hx hb dz_484 rfl (lv_at hl 1 rfl) ?_
  refine lv_iload hx hb dz_485 (lv_at hl 5 rfl) ?_
  refine lv_iconst (v := 1) hx hb dz_487 (by decide) ?_
  refine lv_iadd hx hb dz_488 ?_
  refine ow_topi (y := nI (6 * n + 1)) (nI_add (6 * n) 1) ?_
  refine va_sld hx hb hX hbl hbA hM.2.2.2.2.2 (vp_in_nI (n := 6 * n + 1) (N := L) (by omega) (by omega)) dz_489 ?_
  refine ow_topi (y := x1) ((congrArg xs (nI_clamp (by omega))).trans e1) ?_
  refine lv_aload_n hx hb dz_490 rfl (lv_at hl 1 rfl) ?_
  refine lv_iload hx hb dz_491 (lv_at hl 5 rfl) ?_
  refine lv_iconst (v := 2) hx hb dz_493 (by decide) ?_
  refine lv_iadd hx hb dz_494 ?_
  refine ow_topi (y := nI (6 * n + 2)) (nI_add (6 * n) 2) ?_
  refine va_sld hx hb hX hbl hbA hM.2.2.2.2.2 (vp_in_nI (n := 6 * n + 2) (N := L) (by omega) (by omega)) dz_495 ?_
  refine ow_topi (y := x2) ((congrArg xs (nI_clamp (by omega))).trans e2) ?_
  refine lv_aload_n hx hb dz_496 rfl (lv_at hl 1 rfl) ?_
  refine lv_iload hx hb dz_497 (lv_at hl 5 rfl) ?_
  refine lv_iconst (v := 3) hx hb dz_499 (by decide) ?_
  refine lv_iadd hx hb dz_500 ?_
  refine ow_topi (y := nI (6 * n + 3)) (nI_add (6 * n) 3) ?_
  refine va_sld hx hb hX hbl hbA hM.2.2.2.2.2 (vp_in_nI (n := 6 * n + 3) (N := L) (by omega) (by omega)) dz_501 ?_
  refine ow_topi (y := x3) ((congrArg xs (nI_clamp (by omega))).trans e3) ?_
  obtain ⟨v4, zm3, hcq, hq⟩ := tw_cl1 hq
  refine lx_refi hM (va_runV (As := [.int x1, .int x2, .int x3]) (rest := []) ⟨hx, hb, hml, hown, hts⟩ (km_X13_visit l D q5 w hM.2.2.2.1.1 K x1 x2 x3 zm zm3 v4 hcq) (cwV 3 hts (lx_gV (lx_all wM_good rfl) (lx_mem hM1 (hZ _ zq_61)) (hZ _ zq_62) (hZ _ zq_63) (hZ _ zq_64) (hZ _ zq_8) rfl rfl rfl rfl) rfl rfl rfl cd_X13_visit ⟨(Nat.le_of_ble_eq_true rfl), (Nat.le_of_ble_eq_true rfl)⟩) (lx_preM hG hM) rfl rfl hl.1 rfl (lv_room (Nat.le_of_ble_eq_true rfl)) dz_502 ⟨(by show _ ≤ 601024; omega), (by show _ ≤ 7293033; omega)⟩) (fun H locs hM => ?_)
  refine lv_istore (lv' := [(6, .int v4), (5, .int v2), (0, .ref b), (1, .ref (u 0)), (2, .ref (w 0)), (3, .ref (u 52001)), (4, .int (nI (6 * n)))]) hx hb dz_505 hl (by decide) rfl (fun ls hl => ?_)
  refine lv_goto (tgt := 1693) hx hb dz_507 (by decide) ?_
  exact kk _ _ H locs ls hM (lv_sub hl [2, 3, 4, 5, 6] rfl) hq
theorem dz_510 : decode cL_law 510 = .ok (.aload_n 1, 1) := dw_at dwl_4 (p := 30) rfl (by decide +kernel)
theorem dz_511 : decode cL_law 511 = .ok (.aload_n 0, 1) := dw_at dwl_4 (p := 31) rfl (by decide +kernel)
theorem dz_512 : decode cL_law 512 = .ok (.iload 4, 2) := dw_at dwl_4 (p := 32) rfl (by decide +kernel)
theorem dz_514 : decode cL_law 514 = .ok (.iconst 1, 1) := dw_at dwl_4 (p := 34) rfl (by decide +kernel)
theorem dz_515 : decode cL_law 515 = .ok (.iadd, 1) := dw_at dwl_4 (p := 35) rfl (by decide +kernel)
theorem dz_516 : decode cL_law 516 = .ok (.iaload, 1) := dw_at dwl_4 (p := 36) rfl (by decide +kernel)
theorem dz_517 : decode cL_law 517 = .ok (.aload_n 0, 1) := dw_at dwl_4 (p := 37) rfl (by decide +kernel)
theorem dz_518 : decode cL_law 518 = .ok (.iload 4, 2) := dw_at dwl_4 (p := 38) rfl (by decide +kernel)
theorem dz_520 : decode cL_law 520 = .ok (.iconst 2, 1) := dw_at dwl_4 (p := 40) rfl (by decide +kernel)
theorem dz_521 : decode cL_law 521 = .ok (.iadd, 1) := dw_at dwl_4 (p := 41) rfl (by decide +kernel)
theorem dz_522 : decode cL_law 522 = .ok (.iaload, 1) := dw_at dwl_4 (p := 42) rfl (by decide +kernel)
theorem dz_523 : decode cL_law 523 = .ok (.aload_n 0, 1) := dw_at dwl_4 (p := 43) rfl (by decide +kernel)
theorem dz_524 : decode cL_law 524 = .ok (.iload 4, 2) := dw_at dwl_4 (p := 44) rfl (by decide +kernel)
theorem dz_526 : decode cL_law 526 = .ok (.iconst 3, 1) := dw_at dwl_4 (p := 46) rfl (by decide +kernel)
theorem dz_527 : decode cL_law 527 = .ok (.iadd, 1) := dw_at dwl_4 (p := 47) rfl (by decide +kernel)
theorem dz_528 : decode cL_law 528 = .ok (.iaload, 1) := dw_at dwl_4 (p := 48) rfl (by decide +kernel)
theorem dz_529 : decode cL_law 529 = .ok (.aload_n 3, 1) := dw_at dwl_4 (p := 49) rfl (by decide +kernel)
theorem dz_530 : decode cL_law 530 = .ok (.invokestatic 169, 3) := dw_at dwl_4 (p := 50) rfl (by decide +kernel)
theorem dz_533 : decode cL_law 533 = .ok (.istore 5, 2) := dw_at dwl_4 (p := 53) rfl (by decide +kernel)
theorem dz_535 : decode cL_law 535 = .ok (.aload_n 2, 1) := dw_at dwl_4 (p := 55) rfl (by decide +kernel)
theorem dz_536 : decode cL_law 536 = .ok (.aload_n 0, 1) := dw_at dwl_4 (p := 56) rfl (by decide +kernel)
theorem dz_537 : decode cL_law 537 = .ok (.iload 4, 2) := dw_at dwl_4 (p := 57) rfl (by decide +kernel)
theorem dz_539 : decode cL_law 539 = .ok (.iconst 1, 1) := dw_at dwl_4 (p := 59) rfl (by decide +kernel)
theorem dz_540 : decode cL_law 540 = .ok (.iadd, 1) := dw_at dwl_4 (p := 60) rfl (by decide +kernel)
theorem dz_541 : decode cL_law 541 = .ok (.iaload, 1) := dw_at dwl_4 (p := 61) rfl (by decide +kernel)
theorem dz_542 : decode cL_law 542 = .ok (.aload_n 0, 1) := dw_at dwl_4 (p := 62) rfl (by decide +kernel)
theorem dz_543 : decode cL_law 543 = .ok (.iload 4, 2) := dw_at dwl_4 (p := 63) rfl (by decide +kernel)
theorem dz_545 : decode cL_law 545 = .ok (.iconst 2, 1) := dw_at dwl_4 (p := 65) rfl (by decide +kernel)
theorem dz_546 : decode cL_law 546 = .ok (.iadd, 1) := dw_at dwl_4 (p := 66) rfl (by decide +kernel)
theorem dz_547 : decode cL_law 547 = .ok (.iaload, 1) := dw_at dwl_4 (p := 67) rfl (by decide +kernel)
theorem dz_548 : decode cL_law 548 = .ok (.aload_n 0, 1) := dw_at dwl_4 (p := 68) rfl (by decide +kernel)
theorem dz_549 : decode cL_law 549 = .ok (.iload 4, 2) := dw_at dwl_4 (p := 69) rfl (by decide +kernel)
theorem dz_551 : decode cL_law 551 = .ok (.iconst 3, 1) := dw_at dwl_4 (p := 71) rfl (by decide +kernel)
theorem dz_552 : decode cL_law 552 = .ok (.iadd, 1) := dw_at dwl_4 (p := 72) rfl (by decide +kernel)
theorem dz_553 : decode cL_law 553 = .ok (.iaload, 1) := dw_at dwl_4 (p := 73) rfl (by decide +kernel)
theorem dz_554 : decode cL_law 554 = .ok (.invokevirtual 171, 3) := dw_at dwl_4 (p := 74) rfl (by decide +kernel)
theorem dz_557 : decode cL_law 557 = .ok (.istore 6, 2) := dw_at dwl_4 (p := 77) rfl (by decide +kernel)
theorem dz_559 : decode cL_law 559 = .ok (.goto 1134, 3) := dw_at dwl_4 (p := 79) rfl (by decide +kernel)
def ltp_linking (vl : Nat → Nat) (K : Nat) (x1 : Int32) (x2 : Int32) (x3 : Int32) (x4 : Int32) (x5 : Int32) (zc zm : ow_MS) : Option ow_LwS :=
 cs1 (le_L_linking vl K 0 x1 x2 x3 zc) fun v2 zc1 => cs1 (qe_X13_linking K x1 x2 x3 zm) fun v4 zm3 => some (vl, zc1, zm3)
set_option maxHeartbeats 4000000 in
set_option maxRecDepth 100000 in
theorem lxc_linking {p : Program} {l : Launch} {e : Env} {s : State} {m : MethodId} {args : Array Value} {below : List Frame} {meth : Method} {c : Code} {b L K n : Nat} {xs : Nat → Int32} {D : va_G} {q : Nat → ClassId} {q5 : ow_Q5} {vl u w sa : Nat → Nat} {zc zm : ow_MS} {S1 : ow_LwS} {Ts : List Cond} {Q : State → Prop} {H : Heap} {locs : List Loc} {ls : Array Slot} {cells slots : Nat} (hx : p.tables.exec = Jvm.exec) (hb : c.code = cL_law) (hml : c.maxLocals = 8) (hown : s.vm.findClass RL = some m.cls) (hts : ∀ w ∈ Ts, w.before args s = true) (hX : va_X b L xs s s.heap) (hbl : b < s.heap.size) (hZ : ∀ w ∈ wZ, w ∈ Ts) (hL1 : ∀ w ∈ wLL, w ∈ Ts) (hC1 : ∀ w ∈ wC, w ∈ Ts) (hM1 : ∀ w ∈ wM, w ∈ Ts) (hG : lx_G l s D q q5 sa) (hLn : L ≤ 3072) (hn : 6 * n + 6 ≤ L) (hq : ltp_linking vl K (xs (6 * n + 1)) (xs (6 * n + 2)) (xs (6 * n + 3)) (xs (6 * n + 4)) (xs (6 * n + 5)) zc zm = some S1) (hM : lx_M D q q5 s vl u w zc zm H locs) (hl : lv_has ls 8 [(0, .ref b), (1, .ref (u 0)), (2, .ref (w 0)), (3, .ref (u 52001)), (4, .int (nI (6 * n)))]) (hc : cells + 4 ≤ 601024) (hs : slots + 24 ≤ 7293033) (kk : ∀ (zc1 zm1 : ow_MS) (H1 : Heap) (locs1 : List Loc) (ls1 : Array Slot), lx_M D q q5 s vl u w zc1 zm1 H1 locs1 → lv_has ls1 8 [(0, .ref b), (1, .ref (u 0)), (2, .ref (w 0)), (3, .ref (u 52001)), (4, .int (nI (6 * n)))] → some (vl, zc1, zm1) = some S1 → W p l e room_1 s m args below meth c H1 locs1 (cells + 4) (slots + 24) Q (F0 m 1693 ls1 [])) : W p l e room_1 s m args below meth c H locs cells slots Q (F0 m 510 ls []) := by
  have hbA : ¬ lx_A s b := Nat.not_le.mpr hbl
  generalize e1 : xs (6 * n + 1) = x1 at hq
  generalize e2 : xs (6 * n + 2) = x2 at hq
  generalize e3 : xs (6 * n + 3) = x3 at hq
  generalize e4 : xs (6 * n + 4) = x4 at hq
  generalize e5 : xs (6 * n + 5) = x5 at hq
  unfold ltp_linking at hq
  refine lv_aload_n hx hb dz_510 rfl (lv_at hl 1 rfl) ?_
  refine lv_aload_n hx hb dz_511 rfl (lv_at hl 0 rfl) ?_
  refine lv_iload hx hb dz_512 (lv_at hl 4 rfl) ?_
  refine lv_iconst (v := 1) hx hb dz_514 (by decide) ?_
  refine lv_iadd hx hb dz_515 ?_
  refine ow_topi (y := nI (6 * n + 1)) (nI_add (6 * n) 1) ?_
  refine va_sld hx hb hX hbl hbA hM.2.2.2.2.2 (vp_in_nI (n := 6 * n + 1) (N := L) (by omega) (by omega)) dz_516 ?_
  refine ow_topi (y := x1) ((congrArg xs (nI_clamp (by omega))).trans e1) ?_
  refine lv_aload_n hx hb dz_517 rfl (lv_at hl 0 rfl) ?_
  refine lv_iload hx hb dz_518 (lv_at hl 4 rfl) ?_
  refine lv_iconst (v := 2) hx hb dz_520 (by decide) ?_
  refine lv_iadd hx hb dz_521 ?_
  refine ow_topi (y := nI (6 * n + 2)) (nI_add (6 * n) 2) ?_
  refine va_sld hx hb hX hbl hbA hM.2.2.2.2.2 (vp_in_nI (n := 6 * n + 2) (N := L) (by omega) (by omega)) dz_522 ?_
  refine ow_topi (y := x2) ((congrArg xs (nI_clamp (by omega))).trans e2) ?_
  refine lv_aload_n hx hb dz_523 rfl (lv_at hl 0 rfl) ?_
  refine lv_iload hx hb dz_524 (lv_at hl 4 rfl) ?_
  refine lv_iconst (v := 3) hx hb dz_526 (by decide) ?_
  refine lv_iadd hx hb dz_527 ?_
  refine ow_topi (y := nI (6 * n + 3)) (nI_add (6 * n) 3) ?_
  refine va_sld hx hb hX hbl hbA hM.2.2.2.2.2 (vp_in_nI (n := 6 * n + 3) (N := L) (by omega) (by omega)) dz_528 ?_
  refine ow_topi (y := x3) ((congrArg xs (nI_clamp (by omega))).trans e3) ?_
  refine lv_aload_n hx hb dz_529 rfl (lv_at hl 3 rfl) ?_
  obtain ⟨v2, zc1, hcq, hq⟩ := tw_cl1 hq
  refine lx_wrap hM (vx_runSX (As := [.ref (u 0), .int x1, .int x2, .int x3, .ref (u 52001)]) (rest := []) ⟨hx, hb, hml, hown, hts⟩ (kl_L_linking l D q vl u hM.2.2.1.1 hG.1 sa K 0 x1 x2 x3 (by unfold cw_X11 ci_X11; exact List.mem_singleton.mpr rfl) zc zc1 v2 hcq) (vx_cwSW 5 hts (lx_gS (lx_all wLL_good rfl) (lx_mem hL1 (hZ _ zq_65)) (hZ _ zq_66) (hZ _ zq_67) (hZ _ zq_3) rfl rfl rfl) rfl rfl rfl (by decide +kernel) ⟨(Nat.le_of_ble_eq_true rfl), (Nat.le_of_ble_eq_true rfl)⟩) (lx_preL hG hM) rfl rfl hl.1 rfl (lv_room (Nat.le_of_ble_eq_true rfl)) dz_530 ⟨(by show _ ≤ 601024; omega), (by show _ ≤ 7293033; omega)⟩) (fun H locs hM => ?_)
  refine lv_istore (lv' := [(5, .int v2), (0, .ref b), (1, .ref (u 0)), (2, .ref (w 0)), (3, .ref (u 52001)), (4, .int (nI (6 * n)))]) hx hb dz_533 hl (by decide) rfl (fun ls hl => ?_)
  refine lv_aload_n hx hb dz_535 rfl (lv_at hl 3 rfl) ?_
  refine lv_aload_n hx hb dz_536 rfl (lv_at hl 1 rfl) ?_
  refine lv_iload hx hb dz_537 (lv_at hl 5 rfl) ?_
  refine lv_iconst (v := 1) hx hb dz_539 (by decide) ?_
  refine lv_iadd hx hb dz_540 ?_
  refine ow_topi (y := nI (6 * n + 1)) (nI_add (6 * n) 1) ?_
  refine va_sld hx hb hX hbl hbA hM.2.2.2.2.2 (vp_in_nI (n := 6 * n + 1) (N := L) (by omega) (by omega)) dz_541 ?_
  refine ow_topi (y := x1) ((congrArg xs (nI_clamp (by omega))).trans e1) ?_
  refine lv_aload_n hx hb dz_542 rfl (lv_at hl 1 rfl) ?_
  refine lv_iload hx hb dz_543 (lv_at hl 5 rfl) ?_
  refine lv_iconst (v := 2) hx hb dz_545 (by decide) ?_
  refine lv_iadd hx hb dz_546 ?_
  refine ow_topi (y := nI (6 * n + 2)) (nI_add (6 * n) 2) ?_
  refine va_sld hx hb hX hbl hbA hM.2.2.2.2.2 (vp_in_nI (n := 6 * n + 2) (N := L) (by omega) (by omega)) dz_547 ?_
  refine ow_topi (y := x2) ((congrArg xs (nI_clamp (by omega))).trans e2) ?_
  refine lv_aload_n hx hb dz_548 rfl (lv_at hl 1 rfl) ?_
  refine lv_iload hx hb dz_549 (lv_at hl 5 rfl) ?_
  refine lv_iconst (v := 3) hx hb dz_551 (by decide) ?_
  refine lv_iadd hx hb dz_552 ?_
  refine ow_topi (y := nI (6 * n + 3)) (nI_add (6 * n) 3) ?_
  refine va_sld hx hb hX hbl hbA hM.2.2.2.2.2 (vp_in_nI (n := 6 * n + 3) (N := L) (by omega) (by omega)) dz_553 ?_
  refine ow_topi (y := x3) ((congrArg xs (nI_clamp (by omega))).trans e3) ?_
  obtain ⟨v4, zm3, hcq, hq⟩ := tw_cl1 hq
  refine lx_refi hM (va_runV (As := [.int x1, .int x2, .int x3]) (rest := []) ⟨hx, hb, hml, hown, hts⟩ (km_X13_linking l D q5 w hM.2.2.2.1.1 K x1 x2 x3 zm zm3 v4 hcq) (cwV 3 hts (lx_gV (lx_all wM_good rfl) (lx_mem hM1 (hZ _ zq_68)) (hZ _ zq_69) (hZ _ zq_70) (hZ _ zq_71) (hZ _ zq_8) rfl rfl rfl rfl) rfl rfl rfl cd_X13_linking ⟨(Nat.le_of_ble_eq_true rfl), (Nat.le_of_ble_eq_true rfl)⟩) (lx_preM hG hM) rfl rfl hl.1 rfl (lv_room (Nat.le_of_ble_eq_true rfl)) dz_554 ⟨(by show _ ≤ 601024; omega), (by show _ ≤ 7293033; omega)⟩) (fun H locs hM => ?_)
  refine lv_istore (lv' := [(6, .int v4), (5, .int v2), (0, .ref b), (1, .ref (u 0)), (2, .ref (w 0)), (3, .ref (u 52001)), (4, .int (nI (6 * n)))]) hx hb dz_557 hl (by decide) rfl (fun ls hl => ?_)
  refine lv_goto (tgt := 1693) hx hb dz_559 (by decide) ?_
  exact kk _ _ H locs ls hM (lv_sub hl [2, 3, 4, 5, 6] rfl) hq
theorem dz_562 : decode cL_law 562 = .ok (.aload_n 1, 1) := dw_at dwl_4 (p := 82) rfl (by decide +kernel)
theorem dz_563 : decode cL_law 563 = .ok (.aload_n 0, 1) := dw_at dwl_4 (p := 83) rfl (by decide +kernel)
theorem dz_564 : decode cL_law 564 = .ok (.iload 4, 2) := dw_at dwl_4 (p := 84) rfl (by decide +kernel)
theorem dz_566 : decode cL_law 566 = .ok (.iconst 1, 1) := dw_at dwl_4 (p := 86) rfl (by decide +kernel)
theorem dz_567 : decode cL_law 567 = .ok (.iadd, 1) := dw_at dwl_4 (p := 87) rfl (by decide +kernel)
theorem dz_568 : decode cL_law 568 = .ok (.iaload, 1) := dw_at dwl_4 (p := 88) rfl (by decide +kernel)
theorem dz_569 : decode cL_law 569 = .ok (.aload_n 0, 1) := dw_at dwl_4 (p := 89) rfl (by decide +kernel)
theorem dz_570 : decode cL_law 570 = .ok (.iload 4, 2) := dw_at dwl_4 (p := 90) rfl (by decide +kernel)
theorem dz_572 : decode cL_law 572 = .ok (.iconst 2, 1) := dw_at dwl_4 (p := 92) rfl (by decide +kernel)
theorem dz_573 : decode cL_law 573 = .ok (.iadd, 1) := dw_at dwl_4 (p := 93) rfl (by decide +kernel)
theorem dz_574 : decode cL_law 574 = .ok (.iaload, 1) := dw_at dwl_4 (p := 94) rfl (by decide +kernel)
theorem dz_575 : decode cL_law 575 = .ok (.invokevirtual 172, 3) := dw_at dwl_4 (p := 95) rfl (by decide +kernel)
theorem dz_578 : decode cL_law 578 = .ok (.pop, 1) := dw_at dwl_4 (p := 98) rfl (by decide +kernel)
theorem dz_579 : decode cL_law 579 = .ok (.aload_n 2, 1) := dw_at dwl_4 (p := 99) rfl (by decide +kernel)
theorem dz_580 : decode cL_law 580 = .ok (.aload_n 0, 1) := dw_at dwl_4 (p := 100) rfl (by decide +kernel)
theorem dz_581 : decode cL_law 581 = .ok (.iload 4, 2) := dw_at dwl_4 (p := 101) rfl (by decide +kernel)
theorem dz_583 : decode cL_law 583 = .ok (.iconst 1, 1) := dw_at dwl_4 (p := 103) rfl (by decide +kernel)
theorem dz_584 : decode cL_law 584 = .ok (.iadd, 1) := dw_at dwl_4 (p := 104) rfl (by decide +kernel)
theorem dz_585 : decode cL_law 585 = .ok (.iaload, 1) := dw_at dwl_4 (p := 105) rfl (by decide +kernel)
theorem dz_586 : decode cL_law 586 = .ok (.aload_n 0, 1) := dw_at dwl_4 (p := 106) rfl (by decide +kernel)
theorem dz_587 : decode cL_law 587 = .ok (.iload 4, 2) := dw_at dwl_4 (p := 107) rfl (by decide +kernel)
theorem dz_589 : decode cL_law 589 = .ok (.iconst 2, 1) := dw_at dwl_4 (p := 109) rfl (by decide +kernel)
theorem dz_590 : decode cL_law 590 = .ok (.iadd, 1) := dw_at dwl_4 (p := 110) rfl (by decide +kernel)
theorem dz_591 : decode cL_law 591 = .ok (.iaload, 1) := dw_at dwl_4 (p := 111) rfl (by decide +kernel)
theorem dz_592 : decode cL_law 592 = .ok (.invokevirtual 176, 3) := dw_at dwl_4 (p := 112) rfl (by decide +kernel)
theorem dz_595 : decode cL_law 595 = .ok (.pop, 1) := dw_at dwl_4 (p := 115) rfl (by decide +kernel)
theorem dz_596 : decode cL_law 596 = .ok (.goto 1097, 3) := dw_at dwl_4 (p := 116) rfl (by decide +kernel)
def ltp_alike (vl : Nat → Nat) (K : Nat) (x1 : Int32) (x2 : Int32) (x3 : Int32) (x4 : Int32) (x5 : Int32) (zc zm : ow_MS) : Option ow_LwS :=
 cs1 (ce_X11_alike vl K 0 x1 x2 zc) fun v2 zc1 => cs1 (qe_X13_alike K x1 x2 zm) fun v4 zm3 => some (vl, zc1, zm3)
set_option maxHeartbeats 4000000 in
set_option maxRecDepth 100000 in
theorem lxc_alike {p : Program} {l : Launch} {e : Env} {s : State} {m : MethodId} {args : Array Value} {below : List Frame} {meth : Method} {c : Code} {b L K n : Nat} {xs : Nat → Int32} {D : va_G} {q : Nat → ClassId} {q5 : ow_Q5} {vl u w sa : Nat → Nat} {zc zm : ow_MS} {S1 : ow_LwS} {Ts : List Cond} {Q : State → Prop} {H : Heap} {locs : List Loc} {ls : Array Slot} {cells slots : Nat} (hx : p.tables.exec = Jvm.exec) (hb : c.code = cL_law) (hml : c.maxLocals = 8) (hown : s.vm.findClass RL = some m.cls) (hts : ∀ w ∈ Ts, w.before args s = true) (hX : va_X b L xs s s.heap) (hbl : b < s.heap.size) (hZ : ∀ w ∈ wZ, w ∈ Ts) (hL1 : ∀ w ∈ wLL, w ∈ Ts) (hC1 : ∀ w ∈ wC, w ∈ Ts) (hM1 : ∀ w ∈ wM, w ∈ Ts) (hG : lx_G l s D q q5 sa) (hLn : L ≤ 3072) (hn : 6 * n + 6 ≤ L) (hq : ltp_alike vl K (xs (6 * n + 1)) (xs (6 * n + 2)) (xs (6 * n + 3)) (xs (6 * n + 4)) (xs (6 * n + 5)) zc zm = some S1) (hM : lx_M D q q5 s vl u w zc zm H locs) (hl : lv_has ls 8 [(0, .ref b), (1, .ref (u 0)), (2, .ref (w 0)), (3, .ref (u 52001)), (4, .int (nI (6 * n)))]) (hc : cells + 0 ≤ 601024) (hs : slots + 0 ≤ 7293033) (kk : ∀ (zc1 zm1 : ow_MS) (H1 : Heap) (locs1 : List Loc) (ls1 : Array Slot), lx_M D q q5 s vl u w zc1 zm1 H1 locs1 → lv_has ls1 8 [(0, .ref b), (1, .ref (u 0)), (2, .ref (w 0)), (3, .ref (u 52001)), (4, .int (nI (6 * n)))] → some (vl, zc1, zm1) = some S1 → W p l e room_1 s m args below meth c H1 locs1 (cells + 0) (slots + 0) Q (F0 m 1693 ls1 [])) : W p l e room_1 s m args below meth c H locs cells slots Q (F0 m 562 ls []) := by
  have hbA : ¬ lx_A s b := Nat.not_le.mpr hbl
  generalize e1 : xs (6 * n + 1) = x1 at hq
  generalize e2 : xs (6 * n + 2) = x2 at hq
  generalize e3 : xs (6 * n + 3) = x3 at hq
  generalize e4 : xs (6 * n + 4) = x4 at hq
  generalize e5 : xs (6 * n + 5) = x5 at hq
  unfold ltp_alike at hq
  refine lv_aload_n hx hb dz_562 rfl (lv_at hl 1 rfl) ?_
  refine lv_aload_n hx hb dz_563 rfl (lv_at hl 0 rfl) ?_
  refine lv_iload hx hb dz_564 (lv_at hl 4 rfl) ?_
  refine lv_iconst (v := 1) hx hb dz_566 (by decide) ?_
  refine lv_iadd hx hb dz_567 ?_
  refine ow_topi (y := nI (6 * n + 1)) (nI_add (6 * n) 1) ?_
  refine va_sld hx hb hX hbl hbA hM.2.2.2.2.2 (vp_in_nI (n := 6 * n + 1) (N := L) (by omega) (by omega)) dz_568 ?_
  refine ow_topi (y := x1) ((congrArg xs (nI_clamp (by omega))).trans e1) ?_
  refine lv_aload_n hx hb dz_569 rfl (lv_at hl 0 rfl) ?_
  refine lv_iload hx hb dz_570 (lv_at hl 4 rfl) ?_
  refine lv_iconst (v := 2) hx hb dz_572 (by decide) ?_
  refine lv_iadd hx hb dz_573 ?_
  refine ow_topi (y := nI (6 * n + 2)) (nI_add (6 * n) 2) ?_
  refine va_sld hx hb hX hbl hbA hM.2.2.2.2.2 (vp_in_nI (n := 6 * n + 2) (N := L) (by omega) (by omega)) dz_574 ?_
  refine ow_topi (y := x2) ((congrArg xs (nI_clamp (by omega))).trans e2) ?_
  obtain ⟨v2, zc1, hcq, hq⟩ := tw_cl1 hq
  refine lx_cls hM (va_runV (As := [.int x1, .int x2]) (rest := []) ⟨hx, hb, hml, hown, hts⟩ (kc_X11_alike l D q vl u hM.2.2.1.1 K 0 x1 x2 (by unfold cw_X11 ci_X11; exact List.mem_singleton.mpr rfl) zc zc1 v2 hcq) (cwV 2 hts (lx_gV (lx_all wC_good rfl) (lx_mem hC1 (hZ _ zq_72)) (hZ _ zq_73) (hZ _ zq_74) (hZ _ zq_75) (hZ _ zq_38) rfl rfl rfl rfl) rfl rfl rfl cdd_X11_alike ⟨(Nat.le_of_ble_eq_true rfl), (Nat.le_of_ble_eq_true rfl)⟩) (lx_preC hG hM) rfl rfl hl.1 rfl (lv_room (Nat.le_of_ble_eq_true rfl)) dz_575 ⟨(by show _ ≤ 601024; omega), (by show _ ≤ 7293033; omega)⟩) (fun H locs hM => ?_)
  refine lv_pop hx hb dz_578 rfl ?_
  refine lv_aload_n hx hb dz_579 rfl (lv_at hl 2 rfl) ?_
  refine lv_aload_n hx hb dz_580 rfl (lv_at hl 0 rfl) ?_
  refine lv_iload hx hb dz_581 (lv_at hl 4 rfl) ?_
  refine lv_iconst (v := 1) hx hb dz_583 (by decide) ?_
  refine lv_iadd hx hb dz_584 ?_
  refine ow_topi (y := nI (6 * n + 1)) (nI_add (6 * n) 1) ?_
  refine va_sld hx hb hX hbl hbA hM.2.2.2.2.2 (vp_in_nI (n := 6 * n + 1) (N := L) (by omega) (by omega)) dz_585 ?_
  refine ow_topi (y := x1) ((congrArg xs (nI_clamp (by omega))).trans e1) ?_
  refine lv_aload_n hx hb dz_586 rfl (lv_at hl 0 rfl) ?_
  refine lv_iload hx hb dz_587 (lv_at hl 4 rfl) ?_
  refine lv_iconst (v := 2) hx hb dz_589 (by decide) ?_
  refine lv_iadd hx hb dz_590 ?_
  refine ow_topi (y := nI (6 * n + 2)) (nI_add (6 * n) 2) ?_
  refine va_sld hx hb hX hbl hbA hM.2.2.2.2.2 (vp_in_nI (n := 6 * n + 2) (N := L) (by omega) (by omega)) dz_591 ?_
  refine ow_topi (y := x2) ((congrArg xs (nI_clamp (by omega))).trans e2) ?_
  obtain ⟨v4, zm3, hcq, hq⟩ := tw_cl1 hq
  refine lx_refi hM (va_runV (As := [.int x1, .int x2]) (rest := []) ⟨hx, hb, hml, hown, hts⟩ (km_X13_alike l D q5 w hM.2.2.2.1.1 K x1 x2 zm zm3 v4 hcq) (cwV 2 hts (lx_gV (lx_all wM_good rfl) (lx_mem hM1 (hZ _ zq_76)) (hZ _ zq_77) (hZ _ zq_78) (hZ _ zq_79) (hZ _ zq_8) rfl rfl rfl rfl) rfl rfl rfl cd_X13_alike ⟨(Nat.le_of_ble_eq_true rfl), (Nat.le_of_ble_eq_true rfl)⟩) (lx_preM hG hM) rfl rfl hl.1 rfl (lv_room (Nat.le_of_ble_eq_true rfl)) dz_592 ⟨(by show _ ≤ 601024; omega), (by show _ ≤ 7293033; omega)⟩) (fun H locs hM => ?_)
  refine lv_pop hx hb dz_595 rfl ?_
  refine lv_goto (tgt := 1693) hx hb dz_596 (by decide) ?_
  exact kk _ _ H locs ls hM (lv_sub hl [0, 1, 2, 3, 4] rfl) hq
theorem dz_599 : decode cL_law 599 = .ok (.aload_n 1, 1) := dw_at dwl_4 (p := 119) rfl (by decide +kernel)
theorem dz_600 : decode cL_law 600 = .ok (.aload_n 0, 1) := dw_at dwl_5 (p := 0) rfl (by decide +kernel)
theorem dz_601 : decode cL_law 601 = .ok (.iload 4, 2) := dw_at dwl_5 (p := 1) rfl (by decide +kernel)
theorem dz_603 : decode cL_law 603 = .ok (.iconst 1, 1) := dw_at dwl_5 (p := 3) rfl (by decide +kernel)
theorem dz_604 : decode cL_law 604 = .ok (.iadd, 1) := dw_at dwl_5 (p := 4) rfl (by decide +kernel)
theorem dz_605 : decode cL_law 605 = .ok (.iaload, 1) := dw_at dwl_5 (p := 5) rfl (by decide +kernel)
theorem dz_606 : decode cL_law 606 = .ok (.aload_n 3, 1) := dw_at dwl_5 (p := 6) rfl (by decide +kernel)
theorem dz_607 : decode cL_law 607 = .ok (.invokestatic 177, 3) := dw_at dwl_5 (p := 7) rfl (by decide +kernel)
theorem dz_610 : decode cL_law 610 = .ok (.istore 5, 2) := dw_at dwl_5 (p := 10) rfl (by decide +kernel)
theorem dz_612 : decode cL_law 612 = .ok (.aload_n 2, 1) := dw_at dwl_5 (p := 12) rfl (by decide +kernel)
theorem dz_613 : decode cL_law 613 = .ok (.aload_n 0, 1) := dw_at dwl_5 (p := 13) rfl (by decide +kernel)
theorem dz_614 : decode cL_law 614 = .ok (.iload 4, 2) := dw_at dwl_5 (p := 14) rfl (by decide +kernel)
theorem dz_616 : decode cL_law 616 = .ok (.iconst 1, 1) := dw_at dwl_5 (p := 16) rfl (by decide +kernel)
theorem dz_617 : decode cL_law 617 = .ok (.iadd, 1) := dw_at dwl_5 (p := 17) rfl (by decide +kernel)
theorem dz_618 : decode cL_law 618 = .ok (.iaload, 1) := dw_at dwl_5 (p := 18) rfl (by decide +kernel)
theorem dz_619 : decode cL_law 619 = .ok (.invokevirtual 179, 3) := dw_at dwl_5 (p := 19) rfl (by decide +kernel)
theorem dz_622 : decode cL_law 622 = .ok (.istore 6, 2) := dw_at dwl_5 (p := 22) rfl (by decide +kernel)
theorem dz_624 : decode cL_law 624 = .ok (.goto 1069, 3) := dw_at dwl_5 (p := 24) rfl (by decide +kernel)
def ltp_mirror (vl : Nat → Nat) (K : Nat) (x1 : Int32) (x2 : Int32) (x3 : Int32) (x4 : Int32) (x5 : Int32) (zc zm : ow_MS) : Option ow_LwS :=
 cs1 (le_L_mirror vl K 0 x1 zc) fun v2 zc1 => cs1 (qe_X13_mirror K x1 zm) fun v4 zm3 => some (vl, zc1, zm3)
set_option maxHeartbeats 4000000 in
set_option maxRecDepth 100000 in
theorem lxc_mirror {p : Program} {l : Launch} {e : Env} {s : State} {m : MethodId} {args : Array Value} {below : List Frame} {meth : Method} {c : Code} {b L K n : Nat} {xs : Nat → Int32} {D : va_G} {q : Nat → ClassId} {q5 : ow_Q5} {vl u w sa : Nat → Nat} {zc zm : ow_MS} {S1 : ow_LwS} {Ts : List Cond} {Q : State → Prop} {H : Heap} {locs : List Loc} {ls : Array Slot} {cells slots : Nat} (hx : p.tables.exec = Jvm.exec) (hb : c.code = cL_law) (hml : c.maxLocals = 8) (hown : s.vm.findClass RL = some m.cls) (hts : ∀ w ∈ Ts, w.before args s = true) (hX : va_X b L xs s s.heap) (hbl : b < s.heap.size) (hZ : ∀ w ∈ wZ, w ∈ Ts) (hL1 : ∀ w ∈ wLL, w ∈ Ts) (hC1 : ∀ w ∈ wC, w ∈ Ts) (hM1 : ∀ w ∈ wM, w ∈ Ts) (hG : lx_G l s D q q5 sa) (hLn : L ≤ 3072) (hn : 6 * n + 6 ≤ L) (hq : ltp_mirror vl K (xs (6 * n + 1)) (xs (6 * n + 2)) (xs (6 * n + 3)) (xs (6 * n + 4)) (xs (6 * n + 5)) zc zm = some S1) (hM : lx_M D q q5 s vl u w zc zm H locs) (hl : lv_has ls 8 [(0, .ref b), (1, .ref (u 0)), (2, .ref (w 0)), (3, .ref (u 52001)), (4, .int (nI (6 * n)))]) (hc : cells + 2 ≤ 601024) (hs : slots + 12 ≤ 7293033) (kk : ∀ (zc1 zm1 : ow_MS) (H1 : Heap) (locs1 : List Loc) (ls1 : Array Slot), lx_M D q q5 s vl u w zc1 zm1 H1 locs1 → lv_has ls1 8 [(0, .ref b), (1, .ref (u 0)), (2, .ref (w 0)), (3, .ref (u 52001)), (4, .int (nI (6 * n)))] → some (vl, zc1, zm1) = some S1 → W p l e room_1 s m args below meth c H1 locs1 (cells + 2) (slots + 12) Q (F0 m 1693 ls1 [])) : W p l e room_1 s m args below meth c H locs cells slots Q (F0 m 599 ls []) := by
  have hbA : ¬ lx_A s b := Nat.not_le.mpr hbl
  generalize e1 : xs (6 * n + 1) = x1 at hq
  generalize e2 : xs (6 * n + 2) = x2 at hq
  generalize e3 : xs (6 * n + 3) = x3 at hq
  generalize e4 : xs (6 * n + 4) = x4 at hq
  generalize e5 : xs (6 * n + 5) = x5 at hq
  unfold ltp_mirror at hq
  refine lv_aload_n hx hb dz_599 rfl (lv_at hl 1 rfl) ?_
  refine lv_aload_n hx hb dz_600 rfl (lv_at hl 0 rfl) ?_
  refine lv_iload hx hb dz_601 (lv_at hl 4 rfl) ?_
  refine lv_iconst (v := 1) hx hb dz_603 (by decide) ?_
  refine lv_iadd hx hb dz_604 ?_
  refine ow_topi (y := nI (6 * n + 1)) (nI_add (6 * n) 1) ?_
  refine va_sld hx hb hX hbl hbA hM.2.2.2.2.2 (vp_in_nI (n := 6 * n + 1) (N := L) (by omega) (by omega)) dz_605 ?_
  refine ow_topi (y := x1) ((congrArg xs (nI_clamp (by omega))).trans e1) ?_
  refine lv_aload_n hx hb dz_606 rfl (lv_at hl 3 rfl) ?_
  obtain ⟨v2, zc1, hcq, hq⟩ := tw_cl1 hq
  refine lx_wrap hM (vx_runSX (As := [.ref (u 0), .int x1, .ref (u 52001)]) (rest := []) ⟨hx, hb, hml, hown, hts⟩ (kl_L_mirror l D q vl u hM.2.2.1.1 hG.1 sa K 0 x1 (by unfold cw_X11 ci_X11; exact List.mem_singleton.mpr rfl) zc zc1 v2 hcq) (vx_cwSW 3 hts (lx_gS (lx_all wLL_good rfl) (lx_mem hL1 (hZ _ zq_80)) (hZ _ zq_81) (hZ _ zq_82) (hZ _ zq_3) rfl rfl rfl) rfl rfl rfl (by decide +kernel) ⟨(Nat.le_of_ble_eq_true rfl), (Nat.le_of_ble_eq_true rfl)⟩) (lx_preL hG hM) rfl rfl hl.1 rfl (lv_room (Nat.le_of_ble_eq_true rfl)) dz_607 ⟨(by show _ ≤ 601024; omega), (by show _ ≤ 7293033; omega)⟩) (fun H locs hM => ?_)
  refine lv_istore (lv' := [(5, .int v2), (0, .ref b), (1, .ref (u 0)), (2, .ref (w 0)), (3, .ref (u 52001)), (4, .int (nI (6 * n)))]) hx hb dz_610 hl (by decide) rfl (fun ls hl => ?_)
  refine lv_aload_n hx hb dz_612 rfl (lv_at hl 3 rfl) ?_
  refine lv_aload_n hx hb dz_613 rfl (lv_at hl 1 rfl) ?_
  refine lv_iload hx hb dz_614 (lv_at hl 5 rfl) ?_
  refine lv_iconst (v := 1) hx hb dz_616 (by decide) ?_
  refine lv_iadd hx hb dz_617 ?_
  refine ow_topi (y := nI (6 * n + 1)) (nI_add (6 * n) 1) ?_
  refine va_sld hx hb hX hbl hbA hM.2.2.2.2.2 (vp_in_nI (n := 6 * n + 1) (N := L) (by omega) (by omega)) dz_618 ?_
  refine ow_topi (y := x1) ((congrArg xs (nI_clamp (by omega))).trans e1) ?_
  obtain ⟨v4, zm3, hcq, hq⟩ := tw_cl1 hq
  refine lx_refi hM (va_runV (As := [.int x1]) (rest := []) ⟨hx, hb, hml, hown, hts⟩ (km_X13_mirror l D q5 w hM.2.2.2.1.1 K x1 zm zm3 v4 hcq) (cwV 1 hts (lx_gV (lx_all wM_good rfl) (lx_mem hM1 (hZ _ zq_83)) (hZ _ zq_84) (hZ _ zq_85) (hZ _ zq_86) (hZ _ zq_8) rfl rfl rfl rfl) rfl rfl rfl cd_X13_mirror ⟨(Nat.le_of_ble_eq_true rfl), (Nat.le_of_ble_eq_true rfl)⟩) (lx_preM hG hM) rfl rfl hl.1 rfl (lv_room (Nat.le_of_ble_eq_true rfl)) dz_619 ⟨(by show _ ≤ 601024; omega), (by show _ ≤ 7293033; omega)⟩) (fun H locs hM => ?_)
  refine lv_istore (lv' := [(6, .int v4), (5, .int v2), (0, .ref b), (1, .ref (u 0)), (2, .ref (w 0)), (3, .ref (u 52001)), (4, .int (nI (6 * n)))]) hx hb dz_622 hl (by decide) rfl (fun ls hl => ?_)
  refine lv_goto (tgt := 1693) hx hb dz_624 (by decide) ?_
  exact kk _ _ H locs ls hM (lv_sub hl [2, 3, 4, 5, 6] rfl) hq
theorem dz_627 : decode cL_law 627 = .ok (.aload_n 1, 1) := dw_at dwl_5 (p := 27) rfl (by decide +kernel)
theorem dz_628 : decode cL_law 628 = .ok (.aload_n 0, 1) := dw_at dwl_5 (p := 28) rfl (by decide +kernel)
theorem dz_629 : decode cL_law 629 = .ok (.iload 4, 2) := dw_at dwl_5 (p := 29) rfl (by decide +kernel)
theorem dz_631 : decode cL_law 631 = .ok (.iconst 1, 1) := dw_at dwl_5 (p := 31) rfl (by decide +kernel)
theorem dz_632 : decode cL_law 632 = .ok (.iadd, 1) := dw_at dwl_5 (p := 32) rfl (by decide +kernel)
theorem dz_633 : decode cL_law 633 = .ok (.iaload, 1) := dw_at dwl_5 (p := 33) rfl (by decide +kernel)
theorem dz_634 : decode cL_law 634 = .ok (.aload_n 0, 1) := dw_at dwl_5 (p := 34) rfl (by decide +kernel)
theorem dz_635 : decode cL_law 635 = .ok (.iload 4, 2) := dw_at dwl_5 (p := 35) rfl (by decide +kernel)
theorem dz_637 : decode cL_law 637 = .ok (.iconst 2, 1) := dw_at dwl_5 (p := 37) rfl (by decide +kernel)
theorem dz_638 : decode cL_law 638 = .ok (.iadd, 1) := dw_at dwl_5 (p := 38) rfl (by decide +kernel)
theorem dz_639 : decode cL_law 639 = .ok (.iaload, 1) := dw_at dwl_5 (p := 39) rfl (by decide +kernel)
theorem dz_640 : decode cL_law 640 = .ok (.aload_n 3, 1) := dw_at dwl_5 (p := 40) rfl (by decide +kernel)
theorem dz_641 : decode cL_law 641 = .ok (.invokestatic 180, 3) := dw_at dwl_5 (p := 41) rfl (by decide +kernel)
theorem dz_644 : decode cL_law 644 = .ok (.istore 5, 2) := dw_at dwl_5 (p := 44) rfl (by decide +kernel)
theorem dz_646 : decode cL_law 646 = .ok (.aload_n 2, 1) := dw_at dwl_5 (p := 46) rfl (by decide +kernel)
theorem dz_647 : decode cL_law 647 = .ok (.aload_n 0, 1) := dw_at dwl_5 (p := 47) rfl (by decide +kernel)
theorem dz_648 : decode cL_law 648 = .ok (.iload 4, 2) := dw_at dwl_5 (p := 48) rfl (by decide +kernel)
theorem dz_650 : decode cL_law 650 = .ok (.iconst 1, 1) := dw_at dwl_5 (p := 50) rfl (by decide +kernel)
theorem dz_651 : decode cL_law 651 = .ok (.iadd, 1) := dw_at dwl_5 (p := 51) rfl (by decide +kernel)
theorem dz_652 : decode cL_law 652 = .ok (.iaload, 1) := dw_at dwl_5 (p := 52) rfl (by decide +kernel)
theorem dz_653 : decode cL_law 653 = .ok (.aload_n 0, 1) := dw_at dwl_5 (p := 53) rfl (by decide +kernel)
theorem dz_654 : decode cL_law 654 = .ok (.iload 4, 2) := dw_at dwl_5 (p := 54) rfl (by decide +kernel)
theorem dz_656 : decode cL_law 656 = .ok (.iconst 2, 1) := dw_at dwl_5 (p := 56) rfl (by decide +kernel)
theorem dz_657 : decode cL_law 657 = .ok (.iadd, 1) := dw_at dwl_5 (p := 57) rfl (by decide +kernel)
theorem dz_658 : decode cL_law 658 = .ok (.iaload, 1) := dw_at dwl_5 (p := 58) rfl (by decide +kernel)
theorem dz_659 : decode cL_law 659 = .ok (.invokevirtual 182, 3) := dw_at dwl_5 (p := 59) rfl (by decide +kernel)
theorem dz_662 : decode cL_law 662 = .ok (.istore 6, 2) := dw_at dwl_5 (p := 62) rfl (by decide +kernel)
theorem dz_664 : decode cL_law 664 = .ok (.goto 1029, 3) := dw_at dwl_5 (p := 64) rfl (by decide +kernel)
def ltp_reverse (vl : Nat → Nat) (K : Nat) (x1 : Int32) (x2 : Int32) (x3 : Int32) (x4 : Int32) (x5 : Int32) (zc zm : ow_MS) : Option ow_LwS :=
 cs1 (le_L_reverse vl K 0 x1 x2 zc) fun v2 zc1 => cs1 (qe_X13_reverse K x1 x2 zm) fun v4 zm3 => some (vl, zc1, zm3)
set_option maxHeartbeats 4000000 in
set_option maxRecDepth 100000 in
theorem lxc_reverse {p : Program} {l : Launch} {e : Env} {s : State} {m : MethodId} {args : Array Value} {below : List Frame} {meth : Method} {c : Code} {b L K n : Nat} {xs : Nat → Int32} {D : va_G} {q : Nat → ClassId} {q5 : ow_Q5} {vl u w sa : Nat → Nat} {zc zm : ow_MS} {S1 : ow_LwS} {Ts : List Cond} {Q : State → Prop} {H : Heap} {locs : List Loc} {ls : Array Slot} {cells slots : Nat} (hx : p.tables.exec = Jvm.exec) (hb : c.code = cL_law) (hml : c.maxLocals = 8) (hown : s.vm.findClass RL = some m.cls) (hts : ∀ w ∈ Ts, w.before args s = true) (hX : va_X b L xs s s.heap) (hbl : b < s.heap.size) (hZ : ∀ w ∈ wZ, w ∈ Ts) (hL1 : ∀ w ∈ wLL, w ∈ Ts) (hC1 : ∀ w ∈ wC, w ∈ Ts) (hM1 : ∀ w ∈ wM, w ∈ Ts) (hG : lx_G l s D q q5 sa) (hLn : L ≤ 3072) (hn : 6 * n + 6 ≤ L) (hq : ltp_reverse vl K (xs (6 * n + 1)) (xs (6 * n + 2)) (xs (6 * n + 3)) (xs (6 * n + 4)) (xs (6 * n + 5)) zc zm = some S1) (hM : lx_M D q q5 s vl u w zc zm H locs) (hl : lv_has ls 8 [(0, .ref b), (1, .ref (u 0)), (2, .ref (w 0)), (3, .ref (u 52001)), (4, .int (nI (6 * n)))]) (hc : cells + 3 ≤ 601024) (hs : slots + 18 ≤ 7293033) (kk : ∀ (zc1 zm1 : ow_MS) (H1 : Heap) (locs1 : List Loc) (ls1 : Array Slot), lx_M D q q5 s vl u w zc1 zm1 H1 locs1 → lv_has ls1 8 [(0, .ref b), (1, .ref (u 0)), (2, .ref (w 0)), (3, .ref (u 52001)), (4, .int (nI (6 * n)))] → some (vl, zc1, zm1) = some S1 → W p l e room_1 s m args below meth c H1 locs1 (cells + 3) (slots + 18) Q (F0 m 1693 ls1 [])) : W p l e room_1 s m args below meth c H locs cells slots Q (F0 m 627 ls []) := by
  have hbA : ¬ lx_A s b := Nat.not_le.mpr hbl
  generalize e1 : xs (6 * n + 1) = x1 at hq
  generalize e2 : xs (6 * n + 2) = x2 at hq
  generalize e3 : xs (6 * n + 3) = x3 at hq
  generalize e4 : xs (6 * n + 4) = x4 at hq
  generalize e5 : xs (6 * n + 5) = x5 at hq
  unfold ltp_reverse at hq
  refine lv_aload_n hx hb dz_627 rfl (lv_at hl 1 rfl) ?_
  refine lv_aload_n hx hb dz_628 rfl (lv_at hl 0 rfl) ?_
  refine lv_iload hx hb dz_629 (lv_at hl 4 rfl) ?_
  refine lv_iconst (v := 1) hx hb dz_631 (by decide) ?_
  refine lv_iadd hx hb dz_632 ?_
  refine ow_topi (y := nI (6 * n + 1)) (nI_add (6 * n) 1) ?_
  refine va_sld hx hb hX hbl hbA hM.2.2.2.2.2 (vp_in_nI (n := 6 * n + 1) (N := L) (by omega) (by omega)) dz_633 ?_
  refine ow_topi (y := x1) ((congrArg xs (nI_clamp (by omega))).trans e1) ?_
  refine lv_aload_n hx hb dz_634 rfl (lv_at hl 0 rfl) ?_
  refine lv_iload hx hb dz_635 (lv_at hl 4 rfl) ?_
  refine lv_iconst (v := 2) hx hb dz_637 (by decide) ?_
  refine lv_iadd hx hb dz_638 ?_
  refine ow_topi (y := nI (6 * n + 2)) (nI_add (6 * n) 2) ?_
  refine va_sld hx hb hX hbl hbA hM.2.2.2.2.2 (vp_in_nI (n := 6 * n + 2) (N := L) (by omega) (by omega)) dz_639 ?_
  refine ow_topi (y := x2) ((congrArg xs (nI_clamp (by omega))).trans e2) ?_
  refine lv_aload_n hx hb dz_640 rfl (lv_at hl 3 rfl) ?_
  obtain ⟨v2, zc1, hcq, hq⟩ := tw_cl1 hq
  refine lx_wrap hM (vx_runSX (As := [.ref (u 0), .int x1, .int x2, .ref (u 52001)]) (rest := []) ⟨hx, hb, hml, hown, hts⟩ (kl_L_reverse l D q vl u hM.2.2.1.1 hG.1 sa K 0 x1 x2 (by unfold cw_X11 ci_X11; exact List.mem_singleton.mpr rfl) zc zc1 v2 hcq) (vx_cwSW 4 hts (lx_gS (lx_all wLL_good rfl) (lx_mem hL1 (hZ _ zq_87)) (hZ _ zq_88) (hZ _ zq_89) (hZ _ zq_3) rfl rfl rfl) rfl rfl rfl (by decide +kernel) ⟨(Nat.le_of_ble_eq_true rfl), (Nat.le_of_ble_eq_true rfl)⟩) (lx_preL hG hM) rfl rfl hl.1 rfl (lv_room (Nat.le_of_ble_eq_true rfl)) dz_641 ⟨(by show _ ≤ 601024; omega), (by show _ ≤ 7293033; omega)⟩) (fun H locs hM => ?_)
  refine lv_istore (lv' := [(5, .int v2), (0, .ref b), (1, .ref (u 0)), (2, .ref (w 0)), (3, .ref (u 52001)), (4, .int (nI (6 * n)))]) hx hb dz_644 hl (by decide) rfl (fun ls hl => ?_)
  refine lv_aload_n hx hb dz_646 rfl (lv_at hl 3 rfl) ?_
  refine lv_aload_n hx hb dz_647 rfl (lv_at hl 1 rfl) ?_
  refine lv_iload hx hb dz_648 (lv_at hl 5 rfl) ?_
  refine lv_iconst (v := 1) hx hb dz_650 (by decide) ?_
  refine lv_iadd hx hb dz_651 ?_
  refine ow_topi (y := nI (6 * n + 1)) (nI_add (6 * n) 1) ?_
  refine va_sld hx hb hX hbl hbA hM.2.2.2.2.2 (vp_in_nI (n := 6 * n + 1) (N := L) (by omega) (by omega)) dz_652 ?_
  refine ow_topi (y := x1) ((congrArg xs (nI_clamp (by omega))).trans e1) ?_
  refine lv_aload_n hx hb dz_653 rfl (lv_at hl 1 rfl) ?_
  refine lv_iload hx hb dz_654 (lv_at hl 5 rfl) ?_
  refine lv_iconst (v := 2) hx hb dz_656 (by decide) ?_
  refine lv_iadd hx hb dz_657 ?_
  refine ow_topi (y := nI (6 * n + 2)) (nI_add (6 * n) 2) ?_
  refine va_sld hx hb hX hbl hbA hM.2.2.2.2.2 (vp_in_nI (n := 6 * n + 2) (N := L) (by omega) (by omega)) dz_658 ?_
  refine ow_topi (y := x2) ((congrArg xs (nI_clamp (by omega))).trans e2) ?_
  obtain ⟨v4, zm3, hcq, hq⟩ := tw_cl1 hq
  refine lx_refi hM (va_runV (As := [.int x1, .int x2]) (rest := []) ⟨hx, hb, hml, hown, hts⟩ (km_X13_reverse l D q5 w hM.2.2.2.1.1 K x1 x2 zm zm3 v4 hcq) (cwV 2 hts (lx_gV (lx_all wM_good rfl) (lx_mem hM1 (hZ _ zq_90)) (hZ _ zq_91) (hZ _ zq_92) (hZ _ zq_93) (hZ _ zq_8) rfl rfl rfl rfl) rfl rfl rfl cd_X13_reverse ⟨(Nat.le_of_ble_eq_true rfl), (Nat.le_of_ble_eq_true rfl)⟩) (lx_preM hG hM) rfl rfl hl.1 rfl (lv_room (Nat.le_of_ble_eq_true rfl)) dz_659 ⟨(by show _ ≤ 601024; omega), (by show _ ≤ 7293033; omega)⟩) (fun H locs hM => ?_)
  refine lv_istore (lv' := [(6, .int v4), (5, .int v2), (0, .ref b), (1, .ref (u 0)), (2, .ref (w 0)), (3, .ref (u 52001)), (4, .int (nI (6 * n)))]) hx hb dz_662 hl (by decide) rfl (fun ls hl => ?_)
  refine lv_goto (tgt := 1693) hx hb dz_664 (by decide) ?_
  exact kk _ _ H locs ls hM (lv_sub hl [2, 3, 4, 5, 6] rfl) hq
theorem dz_667 : decode cL_law 667 = .ok (.aload_n 1, 1) := dw_at dwl_5 (p := 67) rfl (by decide +kernel)
theorem dz_668 : decode cL_law 668 = .ok (.aload_n 0, 1) := dw_at dwl_5 (p := 68) rfl (by decide +kernel)
theorem dz_669 : decode cL_law 669 = .ok (.iload 4, 2) := dw_at dwl_5 (p := 69) rfl (by decide +kernel)
theorem dz_671 : decode cL_law 671 = .ok (.iconst 1, 1) := dw_at dwl_5 (p := 71) rfl (by decide +kernel)
theorem dz_672 : decode cL_law 672 = .ok (.iadd, 1) := dw_at dwl_5 (p := 72) rfl (by decide +kernel)
theorem dz_673 : decode cL_law 673 = .ok (.iaload, 1) := dw_at dwl_5 (p := 73) rfl (by decide +kernel)
theorem dz_674 : decode cL_law 674 = .ok (.aload_n 0, 1) := dw_at dwl_5 (p := 74) rfl (by decide +kernel)
theorem dz_675 : decode cL_law 675 = .ok (.iload 4, 2) := dw_at dwl_5 (p := 75) rfl (by decide +kernel)
theorem dz_677 : decode cL_law 677 = .ok (.iconst 2, 1) := dw_at dwl_5 (p := 77) rfl (by decide +kernel)
theorem dz_678 : decode cL_law 678 = .ok (.iadd, 1) := dw_at dwl_5 (p := 78) rfl (by decide +kernel)
theorem dz_679 : decode cL_law 679 = .ok (.iaload, 1) := dw_at dwl_5 (p := 79) rfl (by decide +kernel)
theorem dz_680 : decode cL_law 680 = .ok (.aload_n 3, 1) := dw_at dwl_5 (p := 80) rfl (by decide +kernel)
theorem dz_681 : decode cL_law 681 = .ok (.invokestatic 183, 3) := dw_at dwl_5 (p := 81) rfl (by decide +kernel)
theorem dz_684 : decode cL_law 684 = .ok (.istore 5, 2) := dw_at dwl_5 (p := 84) rfl (by decide +kernel)
theorem dz_686 : decode cL_law 686 = .ok (.aload_n 2, 1) := dw_at dwl_5 (p := 86) rfl (by decide +kernel)
theorem dz_687 : decode cL_law 687 = .ok (.aload_n 0, 1) := dw_at dwl_5 (p := 87) rfl (by decide +kernel)
theorem dz_688 : decode cL_law 688 = .ok (.iload 4, 2) := dw_at dwl_5 (p := 88) rfl (by decide +kernel)
theorem dz_690 : decode cL_law 690 = .ok (.iconst 1, 1) := dw_at dwl_5 (p := 90) rfl (by decide +kernel)
theorem dz_691 : decode cL_law 691 = .ok (.iadd, 1) := dw_at dwl_5 (p := 91) rfl (by decide +kernel)
theorem dz_692 : decode cL_law 692 = .ok (.iaload, 1) := dw_at dwl_5 (p := 92) rfl (by decide +kernel)
theorem dz_693 : decode cL_law 693 = .ok (.aload_n 0, 1) := dw_at dwl_5 (p := 93) rfl (by decide +kernel)
theorem dz_694 : decode cL_law 694 = .ok (.iload 4, 2) := dw_at dwl_5 (p := 94) rfl (by decide +kernel)
theorem dz_696 : decode cL_law 696 = .ok (.iconst 2, 1) := dw_at dwl_5 (p := 96) rfl (by decide +kernel)
theorem dz_697 : decode cL_law 697 = .ok (.iadd, 1) := dw_at dwl_5 (p := 97) rfl (by decide +kernel)
theorem dz_698 : decode cL_law 698 = .ok (.iaload, 1) := dw_at dwl_5 (p := 98) rfl (by decide +kernel)
theorem dz_699 : decode cL_law 699 = .ok (.invokevirtual 185, 3) := dw_at dwl_5 (p := 99) rfl (by decide +kernel)
theorem dz_702 : decode cL_law 702 = .ok (.istore 6, 2) := dw_at dwl_5 (p := 102) rfl (by decide +kernel)
theorem dz_704 : decode cL_law 704 = .ok (.goto 989, 3) := dw_at dwl_5 (p := 104) rfl (by decide +kernel)
def ltp_change (vl : Nat → Nat) (K : Nat) (x1 : Int32) (x2 : Int32) (x3 : Int32) (x4 : Int32) (x5 : Int32) (zc zm : ow_MS) : Option ow_LwS :=
 cs1 (le_L_change vl K 0 x1 x2 zc) fun v2 zc1 => cs1 (qe_X13_change K x1 x2 zm) fun v4 zm3 => some (vl, zc1, zm3)
set_option maxHeartbeats 4000000 in
set_option maxRecDepth 100000 in
theorem lxc_change {p : Program} {l : Launch} {e : Env} {s : State} {m : MethodId} {args : Array Value} {below : List Frame} {meth : Method} {c : Code} {b L K n : Nat} {xs : Nat → Int32} {D : va_G} {q : Nat → ClassId} {q5 : ow_Q5} {vl u w sa : Nat → Nat} {zc zm : ow_MS} {S1 : ow_LwS} {Ts : List Cond} {Q : State → Prop} {H : Heap} {locs : List Loc} {ls : Array Slot} {cells slots : Nat} (hx : p.tables.exec = Jvm.exec) (hb : c.code = cL_law) (hml : c.maxLocals = 8) (hown : s.vm.findClass RL = some m.cls) (hts : ∀ w ∈ Ts, w.before args s = true) (hX : va_X b L xs s s.heap) (hbl : b < s.heap.size) (hZ : ∀ w ∈ wZ, w ∈ Ts) (hL1 : ∀ w ∈ wLL, w ∈ Ts) (hC1 : ∀ w ∈ wC, w ∈ Ts) (hM1 : ∀ w ∈ wM, w ∈ Ts) (hG : lx_G l s D q q5 sa) (hLn : L ≤ 3072) (hn : 6 * n + 6 ≤ L) (hq : ltp_change vl K (xs (6 * n + 1)) (xs (6 * n + 2)) (xs (6 * n + 3)) (xs (6 * n + 4)) (xs (6 * n + 5)) zc zm = some S1) (hM : lx_M D q q5 s vl u w zc zm H locs) (hl : lv_has ls 8 [(0, .ref b), (1, .ref (u 0)), (2, .ref (w 0)), (3, .ref (u 52001)), (4, .int (nI (6 * n)))]) (hc : cells + 3 ≤ 601024) (hs : slots + 18 ≤ 7293033) (kk : ∀ (zc1 zm1 : ow_MS) (H1 : Heap) (locs1 : List Loc) (ls1 : Array Slot), lx_M D q q5 s vl u w zc1 zm1 H1 locs1 → lv_has ls1 8 [(0, .ref b), (1, .ref (u 0)), (2, .ref (w 0)), (3, .ref (u 52001)), (4, .int (nI (6 * n)))] → some (vl, zc1, zm1) = some S1 → W p l e room_1 s m args below meth c H1 locs1 (cells + 3) (slots + 18) Q (F0 m 1693 ls1 [])) : W p l e room_1 s m args below meth c H locs cells slots Q (F0 m 667 ls []) := by
  have hbA : ¬ lx_A s b := Nat.not_le.mpr hbl
  generalize e1 : xs (6 * n + 1) = x1 at hq
  generalize e2 : xs (6 * n + 2) = x2 at hq
  generalize e3 : xs (6 * n + 3) = x3 at hq
  generalize e4 : xs (6 * n + 4) = x4 at hq
  generalize e5 : xs (6 * n + 5) = x5 at hq
  unfold ltp_change at hq
  refine lv_aload_n hx hb dz_667 rfl (lv_at hl 1 rfl) ?_
  refine lv_aload_n hx hb dz_668 rfl (lv_at hl 0 rfl) ?_
  refine lv_iload hx hb dz_669 (lv_at hl 4 rfl) ?_
  refine lv_iconst (v := 1) hx hb dz_671 (by decide) ?_
  refine lv_iadd hx hb dz_672 ?_
  refine ow_topi (y := nI (6 * n + 1)) (nI_add (6 * n) 1) ?_
  refine va_sld hx hb hX hbl hbA hM.2.2.2.2.2 (vp_in_nI (n := 6 * n + 1) (N := L) (by omega) (by omega)) dz_673 ?_
  refine ow_topi (y := x1) ((congrArg xs (nI_clamp (by omega))).trans e1) ?_
  refine lv_aload_n hx hb dz_674 rfl (lv_at hl 0 rfl) ?_
  refine lv_iload hx hb dz_675 (lv_at hl 4 rfl) ?_
  refine lv_iconst (v := 2) hx hb dz_677 (by decide) ?_
  refine lv_iadd hx hb dz_678 ?_
  refine ow_topi (y := nI (6 * n + 2)) (nI_add (6 * n) 2) ?_
  refine va_sld hx hb hX hbl hbA hM.2.2.2.2.2 (vp_in_nI (n := 6 * n + 2) (N := L) (by omega) (by omega)) dz_679 ?_
  refine ow_topi (y := x2) ((congrArg xs (nI_clamp (by omega))).trans e2) ?_
  refine lv_aload_n hx hb dz_680 rfl (lv_at hl 3 rfl) ?_
  obtain ⟨v2, zc1, hcq, hq⟩ := tw_cl1 hq
  refine lx_wrap hM (vx_runSX (As := [.ref (u 0), .int x1, .int x2, .ref (u 52001)]) (rest := []) ⟨hx, hb, hml, hown, hts⟩ (kl_L_change l D q vl u hM.2.2.1.1 hG.1 sa K 0 x1 x2 (by unfold cw_X11 ci_X11; exact List.mem_singleton.mpr rfl) zc zc1 v2 hcq) (vx_cwSW 4 hts (lx_gS (lx_all wLL_good rfl) (lx_mem hL1 (hZ _ zq_94)) (hZ _ zq_95) (hZ _ zq_96) (hZ _ zq_3) rfl rfl rfl) rfl rfl rfl (by decide +kernel) ⟨(Nat.le_of_ble_eq_true rfl), (Nat.le_of_ble_eq_true rfl)⟩) (lx_preL hG hM) rfl rfl hl.1 rfl (lv_room (Nat.le_of_ble_eq_true rfl)) dz_681 ⟨(by show _ ≤ 601024; omega), (by show _ ≤ 7293033; omega)⟩) (fun H locs hM => ?_)
  refine lv_istore (lv' := [(5, .int v2), (0, .ref b), (1, .ref (u 0)), (2, .ref (w 0)), (3, .ref (u 52001)), (4, .int (nI (6 * n)))]) hx hb dz_684 hl (by decide) rfl (fun ls hl => ?_)
  refine lv_aload_n hx hb dz_686 rfl (lv_at hl 3 rfl) ?_
  refine lv_aload_n hx hb dz_687 rfl (lv_at hl 1 rfl) ?_
  refine lv_iload hx hb dz_688 (lv_at hl 5 rfl) ?_
  refine lv_iconst (v := 1) hx hb dz_690 (by decide) ?_
  refine lv_iadd hx hb dz_691 ?_
  refine ow_topi (y := nI (6 * n + 1)) (nI_add (6 * n) 1) ?_
  refine va_sld hx hb hX hbl hbA hM.2.2.2.2.2 (vp_in_nI (n := 6 * n + 1) (N := L) (by omega) (by omega)) dz_692 ?_
  refine ow_topi (y := x1) ((congrArg xs (nI_clamp (by omega))).trans e1) ?_
  refine lv_aload_n hx hb dz_693 rfl (lv_at hl 1 rfl) ?_
  refine lv_iload hx hb dz_694 (lv_at hl 5 rfl) ?_
  refine lv_iconst (v := 2) hx hb dz_696 (by decide) ?_
  refine lv_iadd hx hb dz_697 ?_
  refine ow_topi (y := nI (6 * n + 2)) (nI_add (6 * n) 2) ?_
  refine va_sld hx hb hX hbl hbA hM.2.2.2.2.2 (vp_in_nI (n := 6 * n + 2) (N := L) (by omega) (by omega)) dz_698 ?_
  refine ow_topi (y := x2) ((congrArg xs (nI_clamp (by omega))).trans e2) ?_
  obtain ⟨v4, zm3, hcq, hq⟩ := tw_cl1 hq
  refine lx_refi hM (va_runV (As := [.int x1, .int x2]) (rest := []) ⟨hx, hb, hml, hown, hts⟩ (km_X13_change l D q5 w hM.2.2.2.1.1 K x1 x2 zm zm3 v4 hcq) (cwV 2 hts (lx_gV (lx_all wM_good rfl) (lx_mem hM1 (hZ _ zq_97)) (hZ _ zq_98) (hZ _ zq_99) (hZ _ zq_100) (hZ _ zq_8) rfl rfl rfl rfl) rfl rfl rfl cd_X13_change ⟨(Nat.le_of_ble_eq_true rfl), (Nat.le_of_ble_eq_true rfl)⟩) (lx_preM hG hM) rfl rfl hl.1 rfl (lv_room (Nat.le_of_ble_eq_true rfl)) dz_699 ⟨(by show _ ≤ 601024; omega), (by show _ ≤ 7293033; omega)⟩) (fun H locs hM => ?_)
  refine lv_istore (lv' := [(6, .int v4), (5, .int v2), (0, .ref b), (1, .ref (u 0)), (2, .ref (w 0)), (3, .ref (u 52001)), (4, .int (nI (6 * n)))]) hx hb dz_702 hl (by decide) rfl (fun ls hl => ?_)
  refine lv_goto (tgt := 1693) hx hb dz_704 (by decide) ?_
  exact kk _ _ H locs ls hM (lv_sub hl [2, 3, 4, 5, 6] rfl) hq
theorem dz_707 : decode cL_law 707 = .ok (.aload_n 1, 1) := dw_at dwl_5 (p := 107) rfl (by decide +kernel)
theorem dz_708 : decode cL_law 708 = .ok (.aload_n 0, 1) := dw_at dwl_5 (p := 108) rfl (by decide +kernel)
theorem dz_709 : decode cL_law 709 = .ok (.iload 4, 2) := dw_at dwl_5 (p := 109) rfl (by decide +kernel)
theorem dz_711 : decode cL_law 711 = .ok (.iconst 1, 1) := dw_at dwl_5 (p := 111) rfl (by decide +kernel)
theorem dz_712 : decode cL_law 712 = .ok (.iadd, 1) := dw_at dwl_5 (p := 112) rfl (by decide +kernel)
theorem dz_713 : decode cL_law 713 = .ok (.iaload, 1) := dw_at dwl_5 (p := 113) rfl (by decide +kernel)
theorem dz_714 : decode cL_law 714 = .ok (.aload_n 0, 1) := dw_at dwl_5 (p := 114) rfl (by decide +kernel)
theorem dz_715 : decode cL_law 715 = .ok (.iload 4, 2) := dw_at dwl_5 (p := 115) rfl (by decide +kernel)
theorem dz_717 : decode cL_law 717 = .ok (.iconst 2, 1) := dw_at dwl_5 (p := 117) rfl (by decide +kernel)
theorem dz_718 : decode cL_law 718 = .ok (.iadd, 1) := dw_at dwl_5 (p := 118) rfl (by decide +kernel)
theorem dz_719 : decode cL_law 719 = .ok (.iaload, 1) := dw_at dwl_5 (p := 119) rfl (by decide +kernel)
theorem dz_720 : decode cL_law 720 = .ok (.aload_n 3, 1) := dw_at dwl_6 (p := 0) rfl (by decide +kernel)
theorem dz_721 : decode cL_law 721 = .ok (.invokestatic 186, 3) := dw_at dwl_6 (p := 1) rfl (by decide +kernel)
theorem dz_724 : decode cL_law 724 = .ok (.istore 5, 2) := dw_at dwl_6 (p := 4) rfl (by decide +kernel)
theorem dz_726 : decode cL_law 726 = .ok (.aload_n 2, 1) := dw_at dwl_6 (p := 6) rfl (by decide +kernel)
theorem dz_727 : decode cL_law 727 = .ok (.aload_n 0, 1) := dw_at dwl_6 (p := 7) rfl (by decide +kernel)
theorem dz_728 : decode cL_law 728 = .ok (.iload 4, 2) := dw_at dwl_6 (p := 8) rfl (by decide +kernel)
theorem dz_730 : decode cL_law 730 = .ok (.iconst 1, 1) := dw_at dwl_6 (p := 10) rfl (by decide +kernel)
theorem dz_731 : decode cL_law 731 = .ok (.iadd, 1) := dw_at dwl_6 (p := 11) rfl (by decide +kernel)
theorem dz_732 : decode cL_law 732 = .ok (.iaload, 1) := dw_at dwl_6 (p := 12) rfl (by decide +kernel)
theorem dz_733 : decode cL_law 733 = .ok (.aload_n 0, 1) := dw_at dwl_6 (p := 13) rfl (by decide +kernel)
theorem dz_734 : decode cL_law 734 = .ok (.iload 4, 2) := dw_at dwl_6 (p := 14) rfl (by decide +kernel)
theorem dz_736 : decode cL_law 736 = .ok (.iconst 2, 1) := dw_at dwl_6 (p := 16) rfl (by decide +kernel)
theorem dz_737 : decode cL_law 737 = .ok (.iadd, 1) := dw_at dwl_6 (p := 17) rfl (by decide +kernel)
theorem dz_738 : decode cL_law 738 = .ok (.iaload, 1) := dw_at dwl_6 (p := 18) rfl (by decide +kernel)
theorem dz_739 : decode cL_law 739 = .ok (.invokevirtual 188, 3) := dw_at dwl_6 (p := 19) rfl (by decide +kernel)
theorem dz_742 : decode cL_law 742 = .ok (.istore 6, 2) := dw_at dwl_6 (p := 22) rfl (by decide +kernel)
theorem dz_744 : decode cL_law 744 = .ok (.goto 949, 3) := dw_at dwl_6 (p := 24) rfl (by decide +kernel)
def ltp_smooth (vl : Nat → Nat) (K : Nat) (x1 : Int32) (x2 : Int32) (x3 : Int32) (x4 : Int32) (x5 : Int32) (zc zm : ow_MS) : Option ow_LwS :=
 cs1 (le_L_smooth vl K 0 x1 x2 zc) fun v2 zc1 => cs1 (qe_X13_smooth K x1 x2 zm) fun v4 zm3 => some (vl, zc1, zm3)
set_option maxHeartbeats 4000000 in
set_option maxRecDepth 100000 in
theorem lxc_smooth {p : Program} {l : Launch} {e : Env} {s : State} {m : MethodId} {args : Array Value} {below : List Frame} {meth : Method} {c : Code} {b L K n : Nat} {xs : Nat → Int32} {D : va_G} {q : Nat → ClassId} {q5 : ow_Q5} {vl u w sa : Nat → Nat} {zc zm : ow_MS} {S1 : ow_LwS} {Ts : List Cond} {Q : State → Prop} {H : Heap} {locs : List Loc} {ls : Array Slot} {cells slots : Nat} (hx : p.tables.exec = Jvm.exec) (hb : c.code = cL_law) (hml : c.maxLocals = 8) (hown : s.vm.findClass RL = some m.cls) (hts : ∀ w ∈ Ts, w.before args s = true) (hX : va_X b L xs s s.heap) (hbl : b < s.heap.size) (hZ : ∀ w ∈ wZ, w ∈ Ts) (hL1 : ∀ w ∈ wLL, w ∈ Ts) (hC1 : ∀ w ∈ wC, w ∈ Ts) (hM1 : ∀ w ∈ wM, w ∈ Ts) (hG : lx_G l s D q q5 sa) (hLn : L ≤ 3072) (hn : 6 * n + 6 ≤ L) (hq : ltp_smooth vl K (xs (6 * n + 1)) (xs (6 * n + 2)) (xs (6 * n + 3)) (xs (6 * n + 4)) (xs (6 * n + 5)) zc zm = some S1) (hM : lx_M D q q5 s vl u w zc zm H locs) (hl : lv_has ls 8 [(0, .ref b), (1, .ref (u 0)), (2, .ref (w 0)), (3, .ref (u 52001)), (4, .int (nI (6 * n)))]) (hc : cells + 4 ≤ 601024) (hs : slots + 24 ≤ 7293033) (kk : ∀ (zc1 zm1 : ow_MS) (H1 : Heap) (locs1 : List Loc) (ls1 : Array Slot), lx_M D q q5 s vl u w zc1 zm1 H1 locs1 → lv_has ls1 8 [(0, .ref b), (1, .ref (u 0)), (2, .ref (w 0)), (3, .ref (u 52001)), (4, .int (nI (6 * n)))] → some (vl, zc1, zm1) = some S1 → W p l e room_1 s m args below meth c H1 locs1 (cells + 4) (slots + 24) Q (F0 m 1693 ls1 [])) : W p l e room_1 s m args below meth c H locs cells slots Q (F0 m 707 ls []) := by
  have hbA : ¬ lx_A s b := Nat.not_le.mpr hbl
  generalize e1 : xs (6 * n + 1) = x1 at hq
  generalize e2 : xs (6 * n + 2) = x2 at hq
  generalize e3 : xs (6 * n + 3) = x3 at hq
  generalize e4 : xs (6 * n + 4) = x4 at hq
  generalize e5 : xs (6 * n + 5) = x5 at hq
  unfold ltp_smooth at hq
  refine lv_aload_n hx hb dz_707 rfl (lv_at hl 1 rfl) ?_
  refine lv_aload_n hx hb dz_708 rfl (lv_at hl 0 rfl) ?_
  refine lv_iload hx hb dz_709 (lv_at hl 4 rfl) ?_
  refine lv_iconst (v := 1) hx hb dz_711 (by decide) ?_
  refine lv_iadd hx hb dz_712 ?_
  refine ow_topi (y := nI (6 * n + 1)) (nI_add (6 * n) 1) ?_
  refine va_sld hx hb hX hbl hbA hM.2.2.2.2.2 (vp_in_nI (n := 6 * n + 1) (N := L) (by omega) (by omega)) dz_713 ?_
  refine ow_topi (y := x1) ((congrArg xs (nI_clamp (by omega))).trans e1) ?_
  refine lv_aload_n hx hb dz_714 rfl (lv_at hl 0 rfl) ?_
  refine lv_iload hx hb dz_715 (lv_at hl 4 rfl) ?_
  refine lv_iconst (v := 2) hx hb dz_717 (by decide) ?_
  refine lv_iadd hx hb dz_718 ?_
  refine ow_topi (y := nI (6 * n + 2)) (nI_add (6 * n) 2) ?_
  refine va_sld hx hb hX hbl hbA hM.2.2.2.2.2 (vp_in_nI (n := 6 * n + 2) (N := L) (by omega) (by omega)) dz_719 ?_
  refine ow_topi (y := x2) ((congrArg xs (nI_clamp (by omega))).trans e2) ?_
  refine lv_aload_n hx hb dz_720 rfl (lv_at hl 3 rfl) ?_
  obtain ⟨v2, zc1, hcq, hq⟩ := tw_cl1 hq
  refine lx_wrap hM (vx_runSX (As := [.ref (u 0), .int x1, .int x2, .ref (u 52001)]) (rest := []) ⟨hx, hb, hml, hown, hts⟩ (kl_L_smooth l D q vl u hM.2.2.1.1 hG.1 sa K 0 x1 x2 (by unfold cw_X11 ci_X11; exact List.mem_singleton.mpr rfl) zc zc1 v2 hcq) (vx_cwSW 4 hts (lx_gS (lx_all wLL_good rfl) (lx_mem hL1 (hZ _ zq_101)) (hZ _ zq_102) (hZ _ zq_103) (hZ _ zq_3) rfl rfl rfl) rfl rfl rfl (by decide +kernel) ⟨(Nat.le_of_ble_eq_true rfl), (Nat.le_of_ble_eq_true rfl)⟩) (lx_preL hG hM) rfl rfl hl.1 rfl (lv_room (Nat.le_of_ble_eq_true rfl)) dz_721 ⟨(by show _ ≤ 601024; omega), (by show _ ≤ 7293033; omega)⟩) (fun H locs hM => ?_)
  refine lv_istore (lv' := [(5, .int v2), (0, .ref b), (1, .ref (u 0)), (2, .ref (w 0)), (3, .ref (u 52001)), (4, .int (nI (6 * n)))]) hx hb dz_724 hl (by decide) rfl (fun ls hl => ?_)
  refine lv_aload_n hx hb dz_726 rfl (lv_at hl 3 rfl) ?_
  refine lv_aload_n hx hb dz_727 rfl (lv_at hl 1 rfl) ?_
  refine lv_iload hx hb dz_728 (lv_at hl 5 rfl) ?_
  refine lv_iconst (v := 1) hx hb dz_730 (by decide) ?_
  refine lv_iadd hx hb dz_731 ?_
  refine ow_topi (y := nI (6 * n + 1)) (nI_add (6 * n) 1) ?_
  refine va_sld hx hb hX hbl hbA hM.2.2.2.2.2 (vp_in_nI (n := 6 * n + 1) (N := L) (by omega) (by omega)) dz_732 ?_
  refine ow_topi (y := x1) ((congrArg xs (nI_clamp (by omega))).trans e1) ?_
  refine lv_aload_n hx hb dz_733 rfl (lv_at hl 1 rfl) ?_
  refine lv_iload hx hb dz_734 (lv_at hl 5 rfl) ?_
  refine lv_iconst (v := 2) hx hb dz_736 (by decide) ?_
  refine lv_iadd hx hb dz_737 ?_
  refine ow_topi (y := nI (6 * n + 2)) (nI_add (6 * n) 2) ?_
  refine va_sld hx hb hX hbl hbA hM.2.2.2.2.2 (vp_in_nI (n := 6 * n + 2) (N := L) (by omega) (by omega)) dz_738 ?_
  refine ow_topi (y := x2) ((congrArg xs (nI_clamp (by omega))).trans e2) ?_
  obtain ⟨v4, zm3, hcq, hq⟩ := tw_cl1 hq
  refine lx_refi hM (va_runV (As := [.int x1, .int x2]) (rest := []) ⟨hx, hb, hml, hown, hts⟩ (km_X13_smooth l D q5 w hM.2.2.2.1.1 K x1 x2 zm zm3 v4 hcq) (cwV 2 hts (lx_gV (lx_all wM_good rfl) (lx_mem hM1 (hZ _ zq_104)) (hZ _ zq_105) (hZ _ zq_106) (hZ _ zq_107) (hZ _ zq_8) rfl rfl rfl rfl) rfl rfl rfl cd_X13_smooth ⟨(Nat.le_of_ble_eq_true rfl), (Nat.le_of_ble_eq_true rfl)⟩) (lx_preM hG hM) rfl rfl hl.1 rfl (lv_room (Nat.le_of_ble_eq_true rfl)) dz_739 ⟨(by show _ ≤ 601024; omega), (by show _ ≤ 7293033; omega)⟩) (fun H locs hM => ?_)
  refine lv_istore (lv' := [(6, .int v4), (5, .int v2), (0, .ref b), (1, .ref (u 0)), (2, .ref (w 0)), (3, .ref (u 52001)), (4, .int (nI (6 * n)))]) hx hb dz_742 hl (by decide) rfl (fun ls hl => ?_)
  refine lv_goto (tgt := 1693) hx hb dz_744 (by decide) ?_
  exact kk _ _ H locs ls hM (lv_sub hl [2, 3, 4, 5, 6] rfl) hq
theorem dz_747 : decode cL_law 747 = .ok (.aload_n 1, 1) := dw_at dwl_6 (p := 27) rfl (by decide +kernel)
theorem dz_748 : decode cL_law 748 = .ok (.aload_n 0, 1) := dw_at dwl_6 (p := 28) rfl (by decide +kernel)
theorem dz_749 : decode cL_law 749 = .ok (.iload 4, 2) := dw_at dwl_6 (p := 29) rfl (by decide +kernel)
theorem dz_751 : decode cL_law 751 = .ok (.iconst 1, 1) := dw_at dwl_6 (p := 31) rfl (by decide +kernel)
theorem dz_752 : decode cL_law 752 = .ok (.iadd, 1) := dw_at dwl_6 (p := 32) rfl (by decide +kernel)
theorem dz_753 : decode cL_law 753 = .ok (.iaload, 1) := dw_at dwl_6 (p := 33) rfl (by decide +kernel)
theorem dz_754 : decode cL_law 754 = .ok (.aload_n 0, 1) := dw_at dwl_6 (p := 34) rfl (by decide +kernel)
theorem dz_755 : decode cL_law 755 = .ok (.iload 4, 2) := dw_at dwl_6 (p := 35) rfl (by decide +kernel)
theorem dz_757 : decode cL_law 757 = .ok (.iconst 2, 1) := dw_at dwl_6 (p := 37) rfl (by decide +kernel)
theorem dz_758 : decode cL_law 758 = .ok (.iadd, 1) := dw_at dwl_6 (p := 38) rfl (by decide +kernel)
theorem dz_759 : decode cL_law 759 = .ok (.iaload, 1) := dw_at dwl_6 (p := 39) rfl (by decide +kernel)
theorem dz_760 : decode cL_law 760 = .ok (.aload_n 3, 1) := dw_at dwl_6 (p := 40) rfl (by decide +kernel)
theorem dz_761 : decode cL_law 761 = .ok (.invokestatic 189, 3) := dw_at dwl_6 (p := 41) rfl (by decide +kernel)
theorem dz_764 : decode cL_law 764 = .ok (.istore 5, 2) := dw_at dwl_6 (p := 44) rfl (by decide +kernel)
theorem dz_766 : decode cL_law 766 = .ok (.aload_n 2, 1) := dw_at dwl_6 (p := 46) rfl (by decide +kernel)
theorem dz_767 : decode cL_law 767 = .ok (.aload_n 0, 1) := dw_at dwl_6 (p := 47) rfl (by decide +kernel)
theorem dz_768 : decode cL_law 768 = .ok (.iload 4, 2) := dw_at dwl_6 (p := 48) rfl (by decide +kernel)
theorem dz_770 : decode cL_law 770 = .ok (.iconst 1, 1) := dw_at dwl_6 (p := 50) rfl (by decide +kernel)
theorem dz_771 : decode cL_law 771 = .ok (.iadd, 1) := dw_at dwl_6 (p := 51) rfl (by decide +kernel)
theorem dz_772 : decode cL_law 772 = .ok (.iaload, 1) := dw_at dwl_6 (p := 52) rfl (by decide +kernel)
theorem dz_773 : decode cL_law 773 = .ok (.aload_n 0, 1) := dw_at dwl_6 (p := 53) rfl (by decide +kernel)
theorem dz_774 : decode cL_law 774 = .ok (.iload 4, 2) := dw_at dwl_6 (p := 54) rfl (by decide +kernel)
theorem dz_776 : decode cL_law 776 = .ok (.iconst 2, 1) := dw_at dwl_6 (p := 56) rfl (by decide +kernel)
theorem dz_777 : decode cL_law 777 = .ok (.iadd, 1) := dw_at dwl_6 (p := 57) rfl (by decide +kernel)
theorem dz_778 : decode cL_law 778 = .ok (.iaload, 1) := dw_at dwl_6 (p := 58) rfl (by decide +kernel)
theorem dz_779 : decode cL_law 779 = .ok (.invokevirtual 191, 3) := dw_at dwl_6 (p := 59) rfl (by decide +kernel)
theorem dz_782 : decode cL_law 782 = .ok (.istore 6, 2) := dw_at dwl_6 (p := 62) rfl (by decide +kernel)
theorem dz_784 : decode cL_law 784 = .ok (.goto 909, 3) := dw_at dwl_6 (p := 64) rfl (by decide +kernel)
def ltp_apart (vl : Nat → Nat) (K : Nat) (x1 : Int32) (x2 : Int32) (x3 : Int32) (x4 : Int32) (x5 : Int32) (zc zm : ow_MS) : Option ow_LwS :=
 cs1 (le_L_apart vl K 0 x1 x2 zc) fun v2 zc1 => cs1 (qe_X13_apart K x1 x2 zm) fun v4 zm3 => some (vl, zc1, zm3)
set_option maxHeartbeats 4000000 in
set_option maxRecDepth 100000 in
theorem lxc_apart {p : Program} {l : Launch} {e : Env} {s : State} {m : MethodId} {args : Array Value} {below : List Frame} {meth : Method} {c : Code} {b L K n : Nat} {xs : Nat → Int32} {D : va_G} {q : Nat → ClassId} {q5 : ow_Q5} {vl u w sa : Nat → Nat} {zc zm : ow_MS} {S1 : ow_LwS} {Ts : List Cond} {Q : State → Prop} {H : Heap} {locs : List Loc} {ls : Array Slot} {cells slots : Nat} (hx : p.tables.exec = Jvm.exec) (hb : c.code = cL_law) (hml : c.maxLocals = 8) (hown : s.vm.findClass RL = some m.cls) (hts : ∀ w ∈ Ts, w.before args s = true) (hX : va_X b L xs s s.heap) (hbl : b < s.heap.size) (hZ : ∀ w ∈ wZ, w ∈ Ts) (hL1 : ∀ w ∈ wLL, w ∈ Ts) (hC1 : ∀ w ∈ wC, w ∈ Ts) (hM1 : ∀ w ∈ wM, w ∈ Ts) (hG : lx_G l s D q q5 sa) (hLn : L ≤ 3072) (hn : 6 * n + 6 ≤ L) (hq : ltp_apart vl K (xs (6 * n + 1)) (xs (6 * n + 2)) (xs (6 * n + 3)) (xs (6 * n + 4)) (xs (6 * n + 5)) zc zm = some S1) (hM : lx_M D q q5 s vl u w zc zm H locs) (hl : lv_has ls 8 [(0, .ref b), (1, .ref (u 0)), (2, .ref (w 0)), (3, .ref (u 52001)), (4, .int (nI (6 * n)))]) (hc : cells + 4 ≤ 601024) (hs : slots + 24 ≤ 7293033) (kk : ∀ (zc1 zm1 : ow_MS) (H1 : Heap) (locs1 : List Loc) (ls1 : Array Slot), lx_M D q q5 s vl u w zc1 zm1 H1 locs1 → lv_has ls1 8 [(0, .ref b), (1, .ref (u 0)), (2, .ref (w 0)), (3, .ref (u 52001)), (4, .int (nI (6 * n)))] → some (vl, zc1, zm1) = some S1 → W p l e room_1 s m args below meth c H1 locs1 (cells + 4) (slots + 24) Q (F0 m 1693 ls1 [])) : W p l e room_1 s m args below meth c H locs cells slots Q (F0 m 747 ls []) := by
  have hbA : ¬ lx_A s b := Nat.not_le.mpr hbl
  generalize e1 : xs (6 * n + 1) = x1 at hq
  generalize e2 : xs (6 * n + 2) = x2 at hq
  generalize e3 : xs (6 * n + 3) = x3 at hq
  generalize e4 : xs (6 * n + 4) = x4 at hq
  generalize e5 : xs (6 * n + 5) = x5 at hq
  unfold ltp_apart at hq
  refine lv_aload_n hx hb dz_747 rfl (lv_at hl 1 rfl) ?_
  refine lv_aload_n hx hb dz_748 rfl (lv_at hl 0 rfl) ?_
  refine lv_iload hx hb dz_749 (lv_at hl 4 rfl) ?_
  refine lv_iconst (v := 1) hx hb dz_751 (by decide) ?_
  refine lv_iadd hx hb dz_752 ?_
  refine ow_topi (y := nI (6 * n + 1)) (nI_add (6 * n) 1) ?_
  refine va_sld hx hb hX hbl hbA hM.2.2.2.2.2 (vp_in_nI (n := 6 * n + 1) (N := L) (by omega) (by omega)) dz_753 ?_
  refine ow_topi (y := x1) ((congrArg xs (nI_clamp (by omega))).trans e1) ?_
  refine lv_aload_n hx hb dz_754 rfl (lv_at hl 0 rfl) ?_
  refine lv_iload hx hb dz_755 (lv_at hl 4 rfl) ?_
  refine lv_iconst (v := 2) hx hb dz_757 (by decide) ?_
  refine lv_iadd hx hb dz_758 ?_
  refine ow_topi (y := nI (6 * n + 2)) (nI_add (6 * n) 2) ?_
  refine va_sld hx hb hX hbl hbA hM.2.2.2.2.2 (vp_in_nI (n := 6 * n + 2) (N := L) (by omega) (by omega)) dz_759 ?_
  refine ow_topi (y := x2) ((congrArg xs (nI_clamp (by omega))).trans e2) ?_
  refine lv_aload_n hx hb dz_760 rfl (lv_at hl 3 rfl) ?_
  obtain ⟨v2, zc1, hcq, hq⟩ := tw_cl1 hq
  refine lx_wrap hM (vx_runSX (As := [.ref (u 0), .int x1, .int x2, .ref (u 52001)]) (rest := []) ⟨hx, hb, hml, hown, hts⟩ (kl_L_apart l D q vl u hM.2.2.1.1 hG.1 sa K 0 x1 x2 (by unfold cw_X11 ci_X11; exact List.mem_singleton.mpr rfl) zc zc1 v2 hcq) (vx_cwSW 4 hts (lx_gS (lx_all wLL_good rfl) (lx_mem hL1 (hZ _ zq_108)) (hZ _ zq_109) (hZ _ zq_110) (hZ _ zq_3) rfl rfl rfl) rfl rfl rfl (by decide +kernel) ⟨(Nat.le_of_ble_eq_true rfl), (Nat.le_of_ble_eq_true rfl)⟩) (lx_preL hG hM) rfl rfl hl.1 rfl (lv_room (Nat.le_of_ble_eq_true rfl)) dz_761 ⟨(by show _ ≤ 601024; omega), (by show _ ≤ 7293033; omega)⟩) (fun H locs hM => ?_)
  refine lv_istore (lv' := [(5, .int v2), (0, .ref b), (1, .ref (u 0)), (2, .ref (w 0)), (3, .ref (u 52001)), (4, .int (nI (6 * n)))]) hx hb dz_764 hl (by decide) rfl (fun ls hl => ?_)
  refine lv_aload_n hx hb dz_766 rfl (lv_at hl 3 rfl) ?_
  refine lv_aload_n hx hb dz_767 rfl (lv_at hl 1 rfl) ?_
  refine lv_iload hx hb dz_768 (lv_at hl 5 rfl) ?_
  refine lv_iconst (v := 1) hx hb dz_770 (by decide) ?_
  refine lv_iadd hx hb dz_771 ?_
  refine ow_topi (y := nI (6 * n + 1)) (nI_add (6 * n) 1) ?_
  refine va_sld hx hb hX hbl hbA hM.2.2.2.2.2 (vp_in_nI (n := 6 * n + 1) (N := L) (by omega) (by omega)) dz_772 ?_
  refine ow_topi (y := x1) ((congrArg xs (nI_clamp (by omega))).trans e1) ?_
  refine lv_aload_n hx hb dz_773 rfl (lv_at hl 1 rfl) ?_
  refine lv_iload hx hb dz_774 (lv_at hl 5 rfl) ?_
  refine lv_iconst (v := 2) hx hb dz_776 (by decide) ?_
  refine lv_iadd hx hb dz_777 ?_
  refine ow_topi (y := nI (6 * n + 2)) (nI_add (6 * n) 2) ?_
  refine va_sld hx hb hX hbl hbA hM.2.2.2.2.2 (vp_in_nI (n := 6 * n + 2) (N := L) (by omega) (by omega)) dz_778 ?_
  refine ow_topi (y := x2) ((congrArg xs (nI_clamp (by omega))).trans e2) ?_
  obtain ⟨v4, zm3, hcq, hq⟩ := tw_cl1 hq
  refine lx_refi hM (va_runV (As := [.int x1, .int x2]) (rest := []) ⟨hx, hb, hml, hown, hts⟩ (km_X13_apart l D q5 w hM.2.2.2.1.1 K x1 x2 zm zm3 v4 hcq) (cwV 2 hts (lx_gV (lx_all wM_good rfl) (lx_mem hM1 (hZ _ zq_111)) (hZ _ zq_112) (hZ _ zq_113) (hZ _ zq_114) (hZ _ zq_8) rfl rfl rfl rfl) rfl rfl rfl cd_X13_apart ⟨(Nat.le_of_ble_eq_true rfl), (Nat.le_of_ble_eq_true rfl)⟩) (lx_preM hG hM) rfl rfl hl.1 rfl (lv_room (Nat.le_of_ble_eq_true rfl)) dz_779 ⟨(by show _ ≤ 601024; omega), (by show _ ≤ 7293033; omega)⟩) (fun H locs hM => ?_)
  refine lv_istore (lv' := [(6, .int v4), (5, .int v2), (0, .ref b), (1, .ref (u 0)), (2, .ref (w 0)), (3, .ref (u 52001)), (4, .int (nI (6 * n)))]) hx hb dz_782 hl (by decide) rfl (fun ls hl => ?_)
  refine lv_goto (tgt := 1693) hx hb dz_784 (by decide) ?_
  exact kk _ _ H locs ls hM (lv_sub hl [2, 3, 4, 5, 6] rfl) hq
theorem dz_787 : decode cL_law 787 = .ok (.aload_n 1, 1) := dw_at dwl_6 (p := 67) rfl (by decide +kernel)
theorem dz_788 : decode cL_law 788 = .ok (.aload_n 0, 1) := dw_at dwl_6 (p := 68) rfl (by decide +kernel)
theorem dz_789 : decode cL_law 789 = .ok (.iload 4, 2) := dw_at dwl_6 (p := 69) rfl (by decide +kernel)
theorem dz_791 : decode cL_law 791 = .ok (.iconst 1, 1) := dw_at dwl_6 (p := 71) rfl (by decide +kernel)
theorem dz_792 : decode cL_law 792 = .ok (.iadd, 1) := dw_at dwl_6 (p := 72) rfl (by decide +kernel)
theorem dz_793 : decode cL_law 793 = .ok (.iaload, 1) := dw_at dwl_6 (p := 73) rfl (by decide +kernel)
theorem dz_794 : decode cL_law 794 = .ok (.aload_n 0, 1) := dw_at dwl_6 (p := 74) rfl (by decide +kernel)
theorem dz_795 : decode cL_law 795 = .ok (.iload 4, 2) := dw_at dwl_6 (p := 75) rfl (by decide +kernel)
theorem dz_797 : decode cL_law 797 = .ok (.iconst 2, 1) := dw_at dwl_6 (p := 77) rfl (by decide +kernel)
theorem dz_798 : decode cL_law 798 = .ok (.iadd, 1) := dw_at dwl_6 (p := 78) rfl (by decide +kernel)
theorem dz_799 : decode cL_law 799 = .ok (.iaload, 1) := dw_at dwl_6 (p := 79) rfl (by decide +kernel)
theorem dz_800 : decode cL_law 800 = .ok (.aload_n 0, 1) := dw_at dwl_6 (p := 80) rfl (by decide +kernel)
theorem dz_801 : decode cL_law 801 = .ok (.iload 4, 2) := dw_at dwl_6 (p := 81) rfl (by decide +kernel)
theorem dz_803 : decode cL_law 803 = .ok (.iconst 3, 1) := dw_at dwl_6 (p := 83) rfl (by decide +kernel)
theorem dz_804 : decode cL_law 804 = .ok (.iadd, 1) := dw_at dwl_6 (p := 84) rfl (by decide +kernel)
theorem dz_805 : decode cL_law 805 = .ok (.iaload, 1) := dw_at dwl_6 (p := 85) rfl (by decide +kernel)
theorem dz_806 : decode cL_law 806 = .ok (.aload_n 0, 1) := dw_at dwl_6 (p := 86) rfl (by decide +kernel)
theorem dz_807 : decode cL_law 807 = .ok (.iload 4, 2) := dw_at dwl_6 (p := 87) rfl (by decide +kernel)
theorem dz_809 : decode cL_law 809 = .ok (.iconst 4, 1) := dw_at dwl_6 (p := 89) rfl (by decide +kernel)
theorem dz_810 : decode cL_law 810 = .ok (.iadd, 1) := dw_at dwl_6 (p := 90) rfl (by decide +kernel)
theorem dz_811 : decode cL_law 811 = .ok (.iaload, 1) := dw_at dwl_6 (p := 91) rfl (by decide +kernel)
theorem dz_812 : decode cL_law 812 = .ok (.aload_n 3, 1) := dw_at dwl_6 (p := 92) rfl (by decide +kernel)
theorem dz_813 : decode cL_law 813 = .ok (.invokestatic 192, 3) := dw_at dwl_6 (p := 93) rfl (by decide +kernel)
theorem dz_816 : decode cL_law 816 = .ok (.istore 5, 2) := dw_at dwl_6 (p := 96) rfl (by decide +kernel)
theorem dz_818 : decode cL_law 818 = .ok (.aload_n 2, 1) := dw_at dwl_6 (p := 98) rfl (by decide +kernel)
theorem dz_819 : decode cL_law 819 = .ok (.aload_n 0, 1) := dw_at dwl_6 (p := 99) rfl (by decide +kernel)
theorem dz_820 : decode cL_law 820 = .ok (.iload 4, 2) := dw_at dwl_6 (p := 100) rfl (by decide +kernel)
theorem dz_822 : decode cL_law 822 = .ok (.iconst 1, 1) := dw_at dwl_6 (p := 102) rfl (by decide +kernel)
theorem dz_823 : decode cL_law 823 = .ok (.iadd, 1) := dw_at dwl_6 (p := 103) rfl (by decide +kernel)
theorem dz_824 : decode cL_law 824 = .ok (.iaload, 1) := dw_at dwl_6 (p := 104) rfl (by decide +kernel)
theorem dz_825 : decode cL_law 825 = .ok (.aload_n 0, 1) := dw_at dwl_6 (p := 105) rfl (by decide +kernel)
theorem dz_826 : decode cL_law 826 = .ok (.iload 4, 2) := dw_at dwl_6 (p := 106) rfl (by decide +kernel)
theorem dz_828 : decode cL_law 828 = .ok (.iconst 2, 1) := dw_at dwl_6 (p := 108) rfl (by decide +kernel)
theorem dz_829 : decode cL_law 829 = .ok (.iadd, 1) := dw_at dwl_6 (p := 109) rfl (by decide +kernel)
theorem dz_830 : decode cL_law 830 = .ok (.iaload, 1) := dw_at dwl_6 (p := 110) rfl (by decide +kernel)
theorem dz_831 : decode cL_law 831 = .ok (.aload_n 0, 1) := dw_at dwl_6 (p := 111) rfl (by decide +kernel)
theorem dz_832 : decode cL_law 832 = .ok (.iload 4, 2) := dw_at dwl_6 (p := 112) rfl (by decide +kernel)
theorem dz_834 : decode cL_law 834 = .ok (.iconst 3, 1) := dw_at dwl_6 (p := 114) rfl (by decide +kernel)
theorem dz_835 : decode cL_law 835 = .ok (.iadd, 1) := dw_at dwl_6 (p := 115) rfl (by decide +kernel)
theorem dz_836 : decode cL_law 836 = .ok (.iaload, 1) := dw_at dwl_6 (p := 116) rfl (by decide +kernel)
theorem dz_837 : decode cL_law 837 = .ok (.aload_n 0, 1) := dw_at dwl_6 (p := 117) rfl (by decide +kernel)
theorem dz_838 : decode cL_law 838 = .ok (.iload 4, 2) := dw_at dwl_6 (p := 118) rfl (by decide +kernel)
theorem dz_840 : decode cL_law 840 = .ok (.iconst 4, 1) := dw_at dwl_7 (p := 0) rfl (by decide +kernel)
theorem dz_841 : decode cL_law 841 = .ok (.iadd, 1) := dw_at dwl_7 (p := 1) rfl (by decide +kernel)
theorem dz_842 : decode cL_law 842 = .ok (.iaload, 1) := dw_at dwl_7 (p := 2) rfl (by decide +kernel)
theorem dz_843 : decode cL_law 843 = .ok (.invokevirtual 195, 3) := dw_at dwl_7 (p := 3) rfl (by decide +kernel)
theorem dz_846 : decode cL_law 846 = .ok (.istore 6, 2) := dw_at dwl_7 (p := 6) rfl (by decide +kernel)
theorem dz_848 : decode cL_law 848 = .ok (.goto 845, 3) := dw_at dwl_7 (p := 8) rfl (by decide +kernel)
def ltp_join (vl : Nat → Nat) (K : Nat) (x1 : Int32) (x2 : Int32) (x3 : Int32) (x4 : Int32) (x5 : Int32) (zc zm : ow_MS) : Option ow_LwS :=
 cs1 (le_L_join vl K 0 x1 x2 x3 x4 zc) fun v2 zc1 => cs1 (qe_X13_join K x1 x2 x3 x4 zm) fun v4 zm3 => some (vl, zc1, zm3)
set_option maxHeartbeats 4000000 in
set_option maxRecDepth 100000 in
theorem lxc_join {p : Program} {l : Launch} {e : Env} {s : State} {m : MethodId} {args : Array Value} {below : List Frame} {meth : Method} {c : Code} {b L K n : Nat} {xs : Nat → Int32} {D : va_G} {q : Nat → ClassId} {q5 : ow_Q5} {vl u w sa : Nat → Nat} {zc zm : ow_MS} {S1 : ow_LwS} {Ts : List Cond} {Q : State → Prop} {H : Heap} {locs : List Loc} {ls : Array Slot} {cells slots : Nat} (hx : p.tables.exec = Jvm.exec) (hb : c.code = cL_law) (hml : c.maxLocals = 8) (hown : s.vm.findClass RL = some m.cls) (hts : ∀ w ∈ Ts, w.before args s = true) (hX : va_X b L xs s s.heap) (hbl : b < s.heap.size) (hZ : ∀ w ∈ wZ, w ∈ Ts) (hL1 : ∀ w ∈ wLL, w ∈ Ts) (hC1 : ∀ w ∈ wC, w ∈ Ts) (hM1 : ∀ w ∈ wM, w ∈ Ts) (hG : lx_G l s D q q5 sa) (hLn : L ≤ 3072) (hn : 6 * n + 6 ≤ L) (hq : ltp_join vl K (xs (6 * n + 1)) (xs (6 * n + 2)) (xs (6 * n + 3)) (xs (6 * n + 4)) (xs (6 * n + 5)) zc zm = some S1) (hM : lx_M D q q5 s vl u w zc zm H locs) (hl : lv_has ls 8 [(0, .ref b), (1, .ref (u 0)), (2, .ref (w 0)), (3, .ref (u 52001)), (4, .int (nI (6 * n)))]) (hc : cells + 5 ≤ 601024) (hs : slots + 30 ≤ 7293033) (kk : ∀ (zc1 zm1 : ow_MS) (H1 : Heap) (locs1 : List Loc) (ls1 : Array Slot), lx_M D q q5 s vl u w zc1 zm1 H1 locs1 → lv_has ls1 8 [(0, .ref b), (1, .ref (u 0)), (2, .ref (w 0)), (3, .ref (u 52001)), (4, .int (nI (6 * n)))] → some (vl, zc1, zm1) = some S1 → W p l e room_1 s m args below meth c H1 locs1 (cells + 5) (slots + 30) Q (F0 m 1693 ls1 [])) : W p l e room_1 s m args below meth c H locs cells slots Q (F0 m 787 ls []) := by
  have hbA : ¬ lx_A s b := Nat.not_le.mpr hbl
  generalize e1 : xs (6 * n + 1) = x1 at hq
  generalize e2 : xs (6 * n + 2) = x2 at hq
  generalize e3 : xs (6 * n + 3) = x3 at hq
  generalize e4 : xs (6 * n + 4) = x4 at hq
  generalize e5 : xs (6 * n + 5) = x5 at hq
  unfold ltp_join at hq
  refine lv_aload_n hx hb dz_787 rfl (lv_at hl 1 rfl) ?_
  refine lv_aload_n hx hb dz_788 rfl (lv_at hl 0 rfl) ?_
  refine lv_iload hx hb dz_789 (lv_at hl 4 rfl) ?_
  refine lv_iconst (v := 1) hx hb dz_791 (by decide) ?_
  refine lv_iadd hx hb dz_792 ?_
  refine ow_topi (y := nI (6 * n + 1)) (nI_add (6 * n) 1) ?_
  refine va_sld hx hb hX hbl hbA hM.2.2.2.2.2 (vp_in_nI (n := 6 * n + 1) (N := L) (by omega) (by omega)) dz_793 ?_
  refine ow_topi (y := x1) ((congrArg xs (nI_clamp (by omega))).trans e1) ?_
  refine lv_aload_n hx hb dz_794 rfl (lv_at hl 0 rfl) ?_
  refine lv_iload hx hb dz_795 (lv_at hl 4 rfl) ?_
  refine lv_iconst (v := 2) hx hb dz_797 (by decide) ?_
  refine lv_iadd hx hb dz_798 ?_
  refine ow_topi (y := nI (6 * n + 2)) (nI_add (6 * n) 2) ?_
  refine va_sld hx hb hX hbl hbA hM.2.2.2.2.2 (vp_in_nI (n := 6 * n + 2) (N := L) (by omega) (by omega)) dz_799 ?_
  refine ow_topi (y := x2) ((congrArg xs (nI_clamp (by omega))).trans e2) ?_
  refine lv_aload_n hx hb dz_800 rfl (lv_at hl 0 rfl) ?_
  refine lv_iload hx hb dz_801 (lv_at hl 4 rfl) ?_
  refine lv_iconst (v := 3) hx hb dz_803 (by decide) ?_
  refine lv_iadd hx hb dz_804 ?_
  refine ow_topi (y := nI (6 * n + 3)) (nI_add (6 * n) 3) ?_
  refine va_sld hx hb hX hbl hbA hM.2.2.2.2.2 (vp_in_nI (n := 6 * n + 3) (N := L) (by omega) (by omega)) dz_805 ?_
  refine ow_topi (y := x3) ((congrArg xs (nI_clamp (by omega))).trans e3) ?_
  refine lv_aload_n hx hb dz_806 rfl (lv_at hl 0 rfl) ?_
  refine lv_iload hx hb dz_807 (lv_at hl 4 rfl) ?_
  refine lv_iconst (v := 4) hx hb dz_809 (by decide) ?_
  refine lv_iadd hx hb dz_810 ?_
  refine ow_topi (y := nI (6 * n + 4)) (nI_add (6 * n) 4) ?_
  refine va_sld hx hb hX hbl hbA hM.2.2.2.2.2 (vp_in_nI (n := 6 * n + 4) (N := L) (by omega) (by omega)) dz_811 ?_
  refine ow_topi (y := x4) ((congrArg xs (nI_clamp (by omega))).trans e4) ?_
  refine lv_aload_n hx hb dz_812 rfl (lv_at hl 3 rfl) ?_
  obtain ⟨v2, zc1, hcq, hq⟩ := tw_cl1 hq
  refine lx_wrap hM (vx_runSX (As := [.ref (u 0), .int x1, .int x2, .int x3, .int x4, .ref (u 52001)]) (rest := []) ⟨hx, hb, hml, hown, hts⟩ (kl_L_join l D q vl u hM.2.2.1.1 hG.1 sa K 0 x1 x2 x3 x4 (by unfold cw_X11 ci_X11; exact List.mem_singleton.mpr rfl) zc zc1 v2 hcq) (vx_cwSW 6 hts (lx_gS (lx_all wLL_good rfl) (lx_mem hL1 (hZ _ zq_115)) (hZ _ zq_116) (hZ _ zq_117) (hZ _ zq_3) rfl rfl rfl) rfl rfl rfl (by decide +kernel) ⟨(Nat.le_of_ble_eq_true rfl), (Nat.le_of_ble_eq_true rfl)⟩) (lx_preL hG hM) rfl rfl hl.1 rfl (lv_room (Nat.le_of_ble_eq_true rfl)) dz_813 ⟨(by show _ ≤ 601024; omega), (by show _ ≤ 7293033; omega)⟩) (fun H locs hM => ?_)
  refine lv_istore (lv' := [(5, .int v2), (0, .ref b), (1, .ref (u 0)), (2, .ref (w 0)), (3, .ref (u 52001)), (4, .int (nI (6 * n)))]) hx hb dz_816 hl (by decide) rfl (fun ls hl => ?_)
  refine lv_aload_n hx hb dz_818 rfl (lv_at hl 3 rfl) ?_
  refine lv_aload_n hx hb dz_819 rfl (lv_at hl 1 rfl) ?_
  refine lv_iload hx hb dz_820 (lv_at hl 5 rfl) ?_
  refine lv_iconst (v := 1) hx hb dz_822 (by decide) ?_
  refine lv_iadd hx hb dz_823 ?_
  refine ow_topi (y := nI (6 * n + 1)) (nI_add (6 * n) 1) ?_
  refine va_sld hx hb hX hbl hbA hM.2.2.2.2.2 (vp_in_nI (n := 6 * n + 1) (N := L) (by omega) (by omega)) dz_824 ?_
  refine ow_topi (y := x1) ((congrArg xs (nI_clamp (by omega))).trans e1) ?_
  refine lv_aload_n hx hb dz_825 rfl (lv_at hl 1 rfl) ?_
  refine lv_iload hx hb dz_826 (lv_at hl 5 rfl) ?_
  refine lv_iconst (v := 2) hx hb dz_828 (by decide) ?_
  refine lv_iadd hx hb dz_829 ?_
  refine ow_topi (y := nI (6 * n + 2)) (nI_add (6 * n) 2) ?_
  refine va_sld hx hb hX hbl hbA hM.2.2.2.2.2 (vp_in_nI (n := 6 * n + 2) (N := L) (by omega) (by omega)) dz_830 ?_
  refine ow_topi (y := x2) ((congrArg xs (nI_clamp (by omega))).trans e2) ?_
  refine lv_aload_n hx hb dz_831 rfl (lv_at hl 1 rfl) ?_
  refine lv_iload hx hb dz_832 (lv_at hl 5 rfl) ?_
  refine lv_iconst (v := 3) hx hb dz_834 (by decide) ?_
  refine lv_iadd hx hb dz_835 ?_
  refine ow_topi (y := nI (6 * n + 3)) (nI_add (6 * n) 3) ?_
  refine va_sld hx hb hX hbl hbA hM.2.2.2.2.2 (vp_in_nI (n := 6 * n + 3) (N := L) (by omega) (by omega)) dz_836 ?_
  refine ow_topi (y := x3) ((congrArg xs (nI_clamp (by omega))).trans e3) ?_
  refine lv_aload_n hx hb dz_837 rfl (lv_at hl 1 rfl) ?_
  refine lv_iload hx hb dz_838 (lv_at hl 5 rfl) ?_
  refine lv_iconst (v := 4) hx hb dz_840 (by decide) ?_
  refine lv_iadd hx hb dz_841 ?_
  refine ow_topi (y := nI (6 * n + 4)) (nI_add (6 * n) 4) ?_
  refine va_sld hx hb hX hbl hbA hM.2.2.2.2.2 (vp_in_nI (n := 6 * n + 4) (N := L) (by omega) (by omega)) dz_842 ?_
  refine ow_topi (y := x4) ((congrArg xs (nI_clamp (by omega))).trans e4) ?_
  obtain ⟨v4, zm3, hcq, hq⟩ := tw_cl1 hq
  refine lx_refi hM (va_runV (As := [.int x1, .int x2, .int x3, .int x4]) (rest := []) ⟨hx, hb, hml, hown, hts⟩ (km_X13_join l D q5 w hM.2.2.2.1.1 K x1 x2 x3 x4 zm zm3 v4 hcq) (cwV 4 hts (lx_gV (lx_all wM_good rfl) (lx_mem hM1 (hZ _ zq_118)) (hZ _ zq_119) (hZ _ zq_120) (hZ _ zq_121) (hZ _ zq_8) rfl rfl rfl rfl) rfl rfl rfl cd_X13_join ⟨(Nat.le_of_ble_eq_true rfl), (Nat.le_of_ble_eq_true rfl)⟩) (lx_preM hG hM) rfl rfl hl.1 rfl (lv_room (Nat.le_of_ble_eq_true rfl)) dz_843 ⟨(by show _ ≤ 601024; omega), (by show _ ≤ 7293033; omega)⟩) (fun H locs hM => ?_)
  refine lv_istore (lv' := [(6, .int v4), (5, .int v2), (0, .ref b), (1, .ref (u 0)), (2, .ref (w 0)), (3, .ref (u 52001)), (4, .int (nI (6 * n)))]) hx hb dz_846 hl (by decide) rfl (fun ls hl => ?_)
  refine lv_goto (tgt := 1693) hx hb dz_848 (by decide) ?_
  exact kk _ _ H locs ls hM (lv_sub hl [2, 3, 4, 5, 6] rfl) hq
theorem dz_851 : decode cL_law 851 = .ok (.aload_n 1, 1) := dw_at dwl_7 (p := 11) rfl (by decide +kernel)
theorem dz_852 : decode cL_law 852 = .ok (.aload_n 0, 1) := dw_at dwl_7 (p := 12) rfl (by decide +kernel)
theorem dz_853 : decode cL_law 853 = .ok (.iload 4, 2) := dw_at dwl_7 (p := 13) rfl (by decide +kernel)
theorem dz_855 : decode cL_law 855 = .ok (.iconst 1, 1) := dw_at dwl_7 (p := 15) rfl (by decide +kernel)
theorem dz_856 : decode cL_law 856 = .ok (.iadd, 1) := dw_at dwl_7 (p := 16) rfl (by decide +kernel)
theorem dz_857 : decode cL_law 857 = .ok (.iaload, 1) := dw_at dwl_7 (p := 17) rfl (by decide +kernel)
theorem dz_858 : decode cL_law 858 = .ok (.aload_n 0, 1) := dw_at dwl_7 (p := 18) rfl (by decide +kernel)
theorem dz_859 : decode cL_law 859 = .ok (.iload 4, 2) := dw_at dwl_7 (p := 19) rfl (by decide +kernel)
theorem dz_861 : decode cL_law 861 = .ok (.iconst 2, 1) := dw_at dwl_7 (p := 21) rfl (by decide +kernel)
theorem dz_862 : decode cL_law 862 = .ok (.iadd, 1) := dw_at dwl_7 (p := 22) rfl (by decide +kernel)
theorem dz_863 : decode cL_law 863 = .ok (.iaload, 1) := dw_at dwl_7 (p := 23) rfl (by decide +kernel)
theorem dz_864 : decode cL_law 864 = .ok (.aload_n 3, 1) := dw_at dwl_7 (p := 24) rfl (by decide +kernel)
theorem dz_865 : decode cL_law 865 = .ok (.invokestatic 196, 3) := dw_at dwl_7 (p := 25) rfl (by decide +kernel)
theorem dz_868 : decode cL_law 868 = .ok (.istore 5, 2) := dw_at dwl_7 (p := 28) rfl (by decide +kernel)
theorem dz_870 : decode cL_law 870 = .ok (.aload_n 2, 1) := dw_at dwl_7 (p := 30) rfl (by decide +kernel)
theorem dz_871 : decode cL_law 871 = .ok (.aload_n 0, 1) := dw_at dwl_7 (p := 31) rfl (by decide +kernel)
theorem dz_872 : decode cL_law 872 = .ok (.iload 4, 2) := dw_at dwl_7 (p := 32) rfl (by decide +kernel)
theorem dz_874 : decode cL_law 874 = .ok (.iconst 1, 1) := dw_at dwl_7 (p := 34) rfl (by decide +kernel)
theorem dz_875 : decode cL_law 875 = .ok (.iadd, 1) := dw_at dwl_7 (p := 35) rfl (by decide +kernel)
theorem dz_876 : decode cL_law 876 = .ok (.iaload, 1) := dw_at dwl_7 (p := 36) rfl (by decide +kernel)
theorem dz_877 : decode cL_law 877 = .ok (.aload_n 0, 1) := dw_at dwl_7 (p := 37) rfl (by decide +kernel)
theorem dz_878 : decode cL_law 878 = .ok (.iload 4, 2) := dw_at dwl_7 (p := 38) rfl (by decide +kernel)
theorem dz_880 : decode cL_law 880 = .ok (.iconst 2, 1) := dw_at dwl_7 (p := 40) rfl (by decide +kernel)
theorem dz_881 : decode cL_law 881 = .ok (.iadd, 1) := dw_at dwl_7 (p := 41) rfl (by decide +kernel)
theorem dz_882 : decode cL_law 882 = .ok (.iaload, 1) := dw_at dwl_7 (p := 42) rfl (by decide +kernel)
theorem dz_883 : decode cL_law 883 = .ok (.invokevirtual 198, 3) := dw_at dwl_7 (p := 43) rfl (by decide +kernel)
theorem dz_886 : decode cL_law 886 = .ok (.istore 6, 2) := dw_at dwl_7 (p := 46) rfl (by decide +kernel)
theorem dz_888 : decode cL_law 888 = .ok (.goto 805, 3) := dw_at dwl_7 (p := 48) rfl (by decide +kernel)
def ltp_moves (vl : Nat → Nat) (K : Nat) (x1 : Int32) (x2 : Int32) (x3 : Int32) (x4 : Int32) (x5 : Int32) (zc zm : ow_MS) : Option ow_LwS :=
 cs1 (le_L_moves vl K 0 x1 x2 zc) fun v2 zc1 => cs1 (qe_X13_moves K x1 x2 zm) fun v4 zm3 => some (vl, zc1, zm3)
set_option maxHeartbeats 4000000 in
set_option maxRecDepth 100000 in
theorem lxc_moves {p : Program} {l : Launch} {e : Env} {s : State} {m : MethodId} {args : Array Value} {below : List Frame} {meth : Method} {c : Code} {b L K n : Nat} {xs : Nat → Int32} {D : va_G} {q : Nat → ClassId} {q5 : ow_Q5} {vl u w sa : Nat → Nat} {zc zm : ow_MS} {S1 : ow_LwS} {Ts : List Cond} {Q : State → Prop} {H : Heap} {locs : List Loc} {ls : Array Slot} {cells slots : Nat} (hx : p.tables.exec = Jvm.exec) (hb : c.code = cL_law) (hml : c.maxLocals = 8) (hown : s.vm.findClass RL = some m.cls) (hts : ∀ w ∈ Ts, w.before args s = true) (hX : va_X b L xs s s.heap) (hbl : b < s.heap.size) (hZ : ∀ w ∈ wZ, w ∈ Ts) (hL1 : ∀ w ∈ wLL, w ∈ Ts) (hC1 : ∀ w ∈ wC, w ∈ Ts) (hM1 : ∀ w ∈ wM, w ∈ Ts) (hG : lx_G l s D q q5 sa) (hLn : L ≤ 3072) (hn : 6 * n + 6 ≤ L) (hq : ltp_moves vl K (xs (6 * n + 1)) (xs (6 * n + 2)) (xs (6 * n + 3)) (xs (6 * n + 4)) (xs (6 * n + 5)) zc zm = some S1) (hM : lx_M D q q5 s vl u w zc zm H locs) (hl : lv_has ls 8 [(0, .ref b), (1, .ref (u 0)), (2, .ref (w 0)), (3, .ref (u 52001)), (4, .int (nI (6 * n)))]) (hc : cells + 2 ≤ 601024) (hs : slots + 12 ≤ 7293033) (kk : ∀ (zc1 zm1 : ow_MS) (H1 : Heap) (locs1 : List Loc) (ls1 : Array Slot), lx_M D q q5 s vl u w zc1 zm1 H1 locs1 → lv_has ls1 8 [(0, .ref b), (1, .ref (u 0)), (2, .ref (w 0)), (3, .ref (u 52001)), (4, .int (nI (6 * n)))] → some (vl, zc1, zm1) = some S1 → W p l e room_1 s m args below meth c H1 locs1 (cells + 2) (slots + 12) Q (F0 m 1693 ls1 [])) : W p l e room_1 s m args below meth c H locs cells slots Q (F0 m 851 ls []) := by
  have hbA : ¬ lx_A s b := Nat.not_le.mpr hbl
  generalize e1 : xs (6 * n + 1) = x1 at hq
  generalize e2 : xs (6 * n + 2) = x2 at hq
  generalize e3 : xs (6 * n + 3) = x3 at hq
  generalize e4 : xs (6 * n + 4) = x4 at hq
  generalize e5 : xs (6 * n + 5) = x5 at hq
  unfold ltp_moves at hq
  refine lv_aload_n hx hb dz_851 rfl (lv_at hl 1 rfl) ?_
  refine lv_aload_n hx hb dz_852 rfl (lv_at hl 0 rfl) ?_
  refine lv_iload hx hb dz_853 (lv_at hl 4 rfl) ?_
  refine lv_iconst (v := 1) hx hb dz_855 (by decide) ?_
  refine lv_iadd hx hb dz_856 ?_
  refine ow_topi (y := nI (6 * n + 1)) (nI_add (6 * n) 1) ?_
  refine va_sld hx hb hX hbl hbA hM.2.2.2.2.2 (vp_in_nI (n := 6 * n + 1) (N := L) (by omega) (by omega)) dz_857 ?_
  refine ow_topi (y := x1) ((congrArg xs (nI_clamp (by omega))).trans e1) ?_
  refine lv_aload_n hx hb dz_858 rfl (lv_at hl 0 rfl) ?_
  refine lv_iload hx hb dz_859 (lv_at hl 4 rfl) ?_
  refine lv_iconst (v := 2) hx hb dz_861 (by decide) ?_
  refine lv_iadd hx hb dz_862 ?_
  refine ow_topi (y := nI (6 * n + 2)) (nI_add (6 * n) 2) ?_
  refine va_sld hx hb hX hbl hbA hM.2.2.2.2.2 (vp_in_nI (n := 6 * n + 2) (N := L) (by omega) (by omega)) dz_863 ?_
  refine ow_topi (y := x2) ((congrArg xs (nI_clamp (by omega))).trans e2) ?_
  refine lv_aload_n hx hb dz_864 rfl (lv_at hl 3 rfl) ?_
  obtain ⟨v2, zc1, hcq, hq⟩ := tw_cl1 hq
  refine lx_wrap hM (vx_runSX (As := [.ref (u 0), .int x1, .int x2, .ref (u 52001)]) (rest := []) ⟨hx, hb, hml, hown, hts⟩ (kl_L_moves l D q vl u hM.2.2.1.1 hG.1 sa K 0 x1 x2 (by unfold cw_X11 ci_X11; exact List.mem_singleton.mpr rfl) zc zc1 v2 hcq) (vx_cwSW 4 hts (lx_gS (lx_all wLL_good rfl) (lx_mem hL1 (hZ _ zq_122)) (hZ _ zq_123) (hZ _ zq_124) (hZ _ zq_3) rfl rfl rfl) rfl rfl rfl (by decide +kernel) ⟨(Nat.le_of_ble_eq_true rfl), (Nat.le_of_ble_eq_true rfl)⟩) (lx_preL hG hM) rfl rfl hl.1 rfl (lv_room (Nat.le_of_ble_eq_true rfl)) dz_865 ⟨(by show _ ≤ 601024; omega), (by show _ ≤ 7293033; omega)⟩) (fun H locs hM => ?_)
  refine lv_istore (lv' := [(5, .int v2), (0, .ref b), (1, .ref (u 0)), (2, .ref (w 0)), (3, .ref (u 52001)), (4, .int (nI (6 * n)))]) hx hb dz_868 hl (by decide) rfl (fun ls hl => ?_)
  refine lv_aload_n hx hb dz_870 rfl (lv_at hl 3 rfl) ?_
  refine lv_aload_n hx hb dz_871 rfl (lv_at hl 1 rfl) ?_
  refine lv_iload hx hb dz_872 (lv_at hl 5 rfl) ?_
  refine lv_iconst (v := 1) hx hb dz_874 (by decide) ?_
  refine lv_iadd hx hb dz_875 ?_
  refine ow_topi (y := nI (6 * n + 1)) (nI_add (6 * n) 1) ?_
  refine va_sld hx hb hX hbl hbA hM.2.2.2.2.2 (vp_in_nI (n := 6 * n + 1) (N := L) (by omega) (by omega)) dz_876 ?_
  refine ow_topi (y := x1) ((congrArg xs (nI_clamp (by omega))).trans e1) ?_
  refine lv_aload_n hx hb dz_877 rfl (lv_at hl 1 rfl) ?_
  refine lv_iload hx hb dz_878 (lv_at hl 5 rfl) ?_
  refine lv_iconst (v := 2) hx hb dz_880 (by decide) ?_
  refine lv_iadd hx hb dz_881 ?_
  refine ow_topi (y := nI (6 * n + 2)) (nI_add (6 * n) 2) ?_
  refine va_sld hx hb hX hbl hbA hM.2.2.2.2.2 (vp_in_nI (n := 6 * n + 2) (N := L) (by omega) (by omega)) dz_882 ?_
  refine ow_topi (y := x2) ((congrArg xs (nI_clamp (by omega))).trans e2) ?_
  obtain ⟨v4, zm3, hcq, hq⟩ := tw_cl1 hq
  refine lx_refi hM (va_runV (As := [.int x1, .int x2]) (rest := []) ⟨hx, hb, hml, hown, hts⟩ (km_X13_moves l D q5 w hM.2.2.2.1.1 K x1 x2 zm zm3 v4 hcq) (cwV 2 hts (lx_gV (lx_all wM_good rfl) (lx_mem hM1 (hZ _ zq_125)) (hZ _ zq_126) (hZ _ zq_127) (hZ _ zq_128) (hZ _ zq_8) rfl rfl rfl rfl) rfl rfl rfl cd_X13_moves ⟨(Nat.le_of_ble_eq_true rfl), (Nat.le_of_ble_eq_true rfl)⟩) (lx_preM hG hM) rfl rfl hl.1 rfl (lv_room (Nat.le_of_ble_eq_true rfl)) dz_883 ⟨(by show _ ≤ 601024; omega), (by show _ ≤ 7293033; omega)⟩) (fun H locs hM => ?_)
  refine lv_istore (lv' := [(6, .int v4), (5, .int v2), (0, .ref b), (1, .ref (u 0)), (2, .ref (w 0)), (3, .ref (u 52001)), (4, .int (nI (6 * n)))]) hx hb dz_886 hl (by decide) rfl (fun ls hl => ?_)
  refine lv_goto (tgt := 1693) hx hb dz_888 (by decide) ?_
  exact kk _ _ H locs ls hM (lv_sub hl [2, 3, 4, 5, 6] rfl) hq
theorem dz_891 : decode cL_law 891 = .ok (.aload_n 1, 1) := dw_at dwl_7 (p := 51) rfl (by decide +kernel)
theorem dz_892 : decode cL_law 892 = .ok (.aload_n 0, 1) := dw_at dwl_7 (p := 52) rfl (by decide +kernel)
theorem dz_893 : decode cL_law 893 = .ok (.iload 4, 2) := dw_at dwl_7 (p := 53) rfl (by decide +kernel)
theorem dz_895 : decode cL_law 895 = .ok (.iconst 1, 1) := dw_at dwl_7 (p := 55) rfl (by decide +kernel)
theorem dz_896 : decode cL_law 896 = .ok (.iadd, 1) := dw_at dwl_7 (p := 56) rfl (by decide +kernel)
theorem dz_897 : decode cL_law 897 = .ok (.iaload, 1) := dw_at dwl_7 (p := 57) rfl (by decide +kernel)
theorem dz_898 : decode cL_law 898 = .ok (.aload_n 3, 1) := dw_at dwl_7 (p := 58) rfl (by decide +kernel)
theorem dz_899 : decode cL_law 899 = .ok (.invokestatic 199, 3) := dw_at dwl_7 (p := 59) rfl (by decide +kernel)
theorem dz_902 : decode cL_law 902 = .ok (.istore 5, 2) := dw_at dwl_7 (p := 62) rfl (by decide +kernel)
theorem dz_904 : decode cL_law 904 = .ok (.aload_n 2, 1) := dw_at dwl_7 (p := 64) rfl (by decide +kernel)
theorem dz_905 : decode cL_law 905 = .ok (.aload_n 0, 1) := dw_at dwl_7 (p := 65) rfl (by decide +kernel)
theorem dz_906 : decode cL_law 906 = .ok (.iload 4, 2) := dw_at dwl_7 (p := 66) rfl (by decide +kernel)
theorem dz_908 : decode cL_law 908 = .ok (.iconst 1, 1) := dw_at dwl_7 (p := 68) rfl (by decide +kernel)
theorem dz_909 : decode cL_law 909 = .ok (.iadd, 1) := dw_at dwl_7 (p := 69) rfl (by decide +kernel)
theorem dz_910 : decode cL_law 910 = .ok (.iaload, 1) := dw_at dwl_7 (p := 70) rfl (by decide +kernel)
theorem dz_911 : decode cL_law 911 = .ok (.invokevirtual 201, 3) := dw_at dwl_7 (p := 71) rfl (by decide +kernel)
theorem dz_914 : decode cL_law 914 = .ok (.istore 6, 2) := dw_at dwl_7 (p := 74) rfl (by decide +kernel)
theorem dz_916 : decode cL_law 916 = .ok (.goto 777, 3) := dw_at dwl_7 (p := 76) rfl (by decide +kernel)
def ltp_moved (vl : Nat → Nat) (K : Nat) (x1 : Int32) (x2 : Int32) (x3 : Int32) (x4 : Int32) (x5 : Int32) (zc zm : ow_MS) : Option ow_LwS :=
 cs1 (le_L_moved vl K 0 x1 zc) fun v2 zc1 => cs1 (qe_X13_moved K x1 zm) fun v4 zm3 => some (vl, zc1, zm3)
set_option maxHeartbeats 4000000 in
set_option maxRecDepth 100000 in
theorem lxc_moved {p : Program} {l : Launch} {e : Env} {s : State} {m : MethodId} {args : Array Value} {below : List Frame} {meth : Method} {c : Code} {b L K n : Nat} {xs : Nat → Int32} {D : va_G} {q : Nat → ClassId} {q5 : ow_Q5} {vl u w sa : Nat → Nat} {zc zm : ow_MS} {S1 : ow_LwS} {Ts : List Cond} {Q : State → Prop} {H : Heap} {locs : List Loc} {ls : Array Slot} {cells slots : Nat} (hx : p.tables.exec = Jvm.exec) (hb : c.code = cL_law) (hml : c.maxLocals = 8) (hown : s.vm.findClass RL = some m.cls) (hts : ∀ w ∈ Ts, w.before args s = true) (hX : va_X b L xs s s.heap) (hbl : b < s.heap.size) (hZ : ∀ w ∈ wZ, w ∈ Ts) (hL1 : ∀ w ∈ wLL, w ∈ Ts) (hC1 : ∀ w ∈ wC, w ∈ Ts) (hM1 : ∀ w ∈ wM, w ∈ Ts) (hG : lx_G l s D q q5 sa) (hLn : L ≤ 3072) (hn : 6 * n + 6 ≤ L) (hq : ltp_moved vl K (xs (6 * n + 1)) (xs (6 * n + 2)) (xs (6 * n + 3)) (xs (6 * n + 4)) (xs (6 * n + 5)) zc zm = some S1) (hM : lx_M D q q5 s vl u w zc zm H locs) (hl : lv_has ls 8 [(0, .ref b), (1, .ref (u 0)), (2, .ref (w 0)), (3, .ref (u 52001)), (4, .int (nI (6 * n)))]) (hc : cells + 2 ≤ 601024) (hs : slots + 12 ≤ 7293033) (kk : ∀ (zc1 zm1 : ow_MS) (H1 : Heap) (locs1 : List Loc) (ls1 : Array Slot), lx_M D q q5 s vl u w zc1 zm1 H1 locs1 → lv_has ls1 8 [(0, .ref b), (1, .ref (u 0)), (2, .ref (w 0)), (3, .ref (u 52001)), (4, .int (nI (6 * n)))] → some (vl, zc1, zm1) = some S1 → W p l e room_1 s m args below meth c H1 locs1 (cells + 2) (slots + 12) Q (F0 m 1693 ls1 [])) : W p l e room_1 s m args below meth c H locs cells slots Q (F0 m 891 ls []) := by
  have hbA : ¬ lx_A s b := Nat.not_le.mpr hbl
  generalize e1 : xs (6 * n + 1) = x1 at hq
  generalize e2 : xs (6 * n + 2) = x2 at hq
  generalize e3 : xs (6 * n + 3) = x3 at hq
  generalize e4 : xs (6 * n + 4) = x4 at hq
  generalize e5 : xs (6 * n + 5) = x5 at hq
  unfold ltp_moved at hq
  refine lv_aload_n hx hb dz_891 rfl (lv_at hl 1 rfl) ?_
  refine lv_aload_n hx hb dz_892 rfl (lv_at hl 0 rfl) ?_
  refine lv_iload hx hb dz_893 (lv_at hl 4 rfl) ?_
  refine lv_iconst (v := 1) hx hb dz_895 (by decide) ?_
  refine lv_iadd hx hb dz_896 ?_
  refine ow_topi (y := nI (6 * n + 1)) (nI_add (6 * n) 1) ?_
  refine va_sld hx hb hX hbl hbA hM.2.2.2.2.2 (vp_in_nI (n := 6 * n + 1) (N := L) (by omega) (by omega)) dz_897 ?_
  refine ow_topi (y := x1) ((congrArg xs (nI_clamp (by omega))).trans e1) ?_
  refine lv_aload_n hx hb dz_898 rfl (lv_at hl 3 rfl) ?_
  obtain ⟨v2, zc1, hcq, hq⟩ := tw_cl1 hq
  refine lx_wrap hM (vx_runSX (As := [.ref (u 0), .int x1, .ref (u 52001)]) (rest := []) ⟨hx, hb, hml, hown, hts⟩ (kl_L_moved l D q vl u hM.2.2.1.1 hG.1 sa K 0 x1 (by unfold cw_X11 ci_X11; exact List.mem_singleton.mpr rfl) zc zc1 v2 hcq) (vx_cwSW 3 hts (lx_gS (lx_all wLL_good rfl) (lx_mem hL1 (hZ _ zq_129)) (hZ _ zq_130) (hZ _ zq_131) (hZ _ zq_3) rfl rfl rfl) rfl rfl rfl (by decide +kernel) ⟨(Nat.le_of_ble_eq_true rfl), (Nat.le_of_ble_eq_true rfl)⟩) (lx_preL hG hM) rfl rfl hl.1 rfl (lv_room (Nat.le_of_ble_eq_true rfl)) dz_899 ⟨(by show _ ≤ 601024; omega), (by show _ ≤ 7293033; omega)⟩) (fun H locs hM => ?_)
  refine lv_istore (lv' := [(5, .int v2), (0, .ref b), (1, .ref (u 0)), (2, .ref (w 0)), (3, .ref (u 52001)), (4, .int (nI (6 * n)))]) hx hb dz_902 hl (by decide) rfl (fun ls hl => ?_)
  refine lv_aload_n hx hb dz_904 rfl (lv_at hl 3 rfl) ?_
  refine lv_aload_n hx hb dz_905 rfl (lv_at hl 1 rfl) ?_
  refine lv_iload hx hb dz_906 (lv_at hl 5 rfl) ?_
  refine lv_iconst (v := 1) hx hb dz_908 (by decide) ?_
  refine lv_iadd hx hb dz_909 ?_
  refine ow_topi (y := nI (6 * n + 1)) (nI_add (6 * n) 1) ?_
  refine va_sld hx hb hX hbl hbA hM.2.2.2.2.2 (vp_in_nI (n := 6 * n + 1) (N := L) (by omega) (by omega)) dz_910 ?_
  refine ow_topi (y := x1) ((congrArg xs (nI_clamp (by omega))).trans e1) ?_
  obtain ⟨v4, zm3, hcq, hq⟩ := tw_cl1 hq
  refine lx_refi hM (va_runV (As := [.int x1]) (rest := []) ⟨hx, hb, hml, hown, hts⟩ (km_X13_moved l D q5 w hM.2.2.2.1.1 K x1 zm zm3 v4 hcq) (cwV 1 hts (lx_gV (lx_all wM_good rfl) (lx_mem hM1 (hZ _ zq_132)) (hZ _ zq_133) (hZ _ zq_134) (hZ _ zq_135) (hZ _ zq_8) rfl rfl rfl rfl) rfl rfl rfl cd_X13_moved ⟨(Nat.le_of_ble_eq_true rfl), (Nat.le_of_ble_eq_true rfl)⟩) (lx_preM hG hM) rfl rfl hl.1 rfl (lv_room (Nat.le_of_ble_eq_true rfl)) dz_911 ⟨(by show _ ≤ 601024; omega), (by show _ ≤ 7293033; omega)⟩) (fun H locs hM => ?_)
  refine lv_istore (lv' := [(6, .int v4), (5, .int v2), (0, .ref b), (1, .ref (u 0)), (2, .ref (w 0)), (3, .ref (u 52001)), (4, .int (nI (6 * n)))]) hx hb dz_914 hl (by decide) rfl (fun ls hl => ?_)
  refine lv_goto (tgt := 1693) hx hb dz_916 (by decide) ?_
  exact kk _ _ H locs ls hM (lv_sub hl [2, 3, 4, 5, 6] rfl) hq
theorem dz_919 : decode cL_law 919 = .ok (.aload_n 1, 1) := dw_at dwl_7 (p := 79) rfl (by decide +kernel)
theorem dz_920 : decode cL_law 920 = .ok (.aload_n 0, 1) := dw_at dwl_7 (p := 80) rfl (by decide +kernel)
theorem dz_921 : decode cL_law 921 = .ok (.iload 4, 2) := dw_at dwl_7 (p := 81) rfl (by decide +kernel)
theorem dz_923 : decode cL_law 923 = .ok (.iconst 1, 1) := dw_at dwl_7 (p := 83) rfl (by decide +kernel)
theorem dz_924 : decode cL_law 924 = .ok (.iadd, 1) := dw_at dwl_7 (p := 84) rfl (by decide +kernel)
theorem dz_925 : decode cL_law 925 = .ok (.iaload, 1) := dw_at dwl_7 (p := 85) rfl (by decide +kernel)
theorem dz_926 : decode cL_law 926 = .ok (.aload_n 3, 1) := dw_at dwl_7 (p := 86) rfl (by decide +kernel)
theorem dz_927 : decode cL_law 927 = .ok (.invokestatic 202, 3) := dw_at dwl_7 (p := 87) rfl (by decide +kernel)
theorem dz_930 : decode cL_law 930 = .ok (.istore 5, 2) := dw_at dwl_7 (p := 90) rfl (by decide +kernel)
theorem dz_932 : decode cL_law 932 = .ok (.aload_n 2, 1) := dw_at dwl_7 (p := 92) rfl (by decide +kernel)
theorem dz_933 : decode cL_law 933 = .ok (.aload_n 0, 1) := dw_at dwl_7 (p := 93) rfl (by decide +kernel)
theorem dz_934 : decode cL_law 934 = .ok (.iload 4, 2) := dw_at dwl_7 (p := 94) rfl (by decide +kernel)
theorem dz_936 : decode cL_law 936 = .ok (.iconst 1, 1) := dw_at dwl_7 (p := 96) rfl (by decide +kernel)
theorem dz_937 : decode cL_law 937 = .ok (.iadd, 1) := dw_at dwl_7 (p := 97) rfl (by decide +kernel)
theorem dz_938 : decode cL_law 938 = .ok (.iaload, 1) := dw_at dwl_7 (p := 98) rfl (by decide +kernel)
theorem dz_939 : decode cL_law 939 = .ok (.invokevirtual 204, 3) := dw_at dwl_7 (p := 99) rfl (by decide +kernel)
theorem dz_942 : decode cL_law 942 = .ok (.istore 6, 2) := dw_at dwl_7 (p := 102) rfl (by decide +kernel)
theorem dz_944 : decode cL_law 944 = .ok (.goto 749, 3) := dw_at dwl_7 (p := 104) rfl (by decide +kernel)
def ltp_simplify (vl : Nat → Nat) (K : Nat) (x1 : Int32) (x2 : Int32) (x3 : Int32) (x4 : Int32) (x5 : Int32) (zc zm : ow_MS) : Option ow_LwS :=
 cs1 (le_L_simplify vl K 0 x1 zc) fun v2 zc1 => cs1 (qe_X13_simplify K x1 zm) fun v4 zm3 => some (vl, zc1, zm3)
set_option maxHeartbeats 4000000 in
set_option maxRecDepth 100000 in
theorem lxc_simplify {p : Program} {l : Launch} {e : Env} {s : State} {m : MethodId} {args : Array Value} {below : List Frame} {meth : Method} {c : Code} {b L K n : Nat} {xs : Nat → Int32} {D : va_G} {q : Nat → ClassId} {q5 : ow_Q5} {vl u w sa : Nat → Nat} {zc zm : ow_MS} {S1 : ow_LwS} {Ts : List Cond} {Q : State → Prop} {H : Heap} {locs : List Loc} {ls : Array Slot} {cells slots : Nat} (hx : p.tables.exec = Jvm.exec) (hb : c.code = cL_law) (hml : c.maxLocals = 8) (hown : s.vm.findClass RL = some m.cls) (hts : ∀ w ∈ Ts, w.before args s = true) (hX : va_X b L xs s s.heap) (hbl : b < s.heap.size) (hZ : ∀ w ∈ wZ, w ∈ Ts) (hL1 : ∀ w ∈ wLL, w ∈ Ts) (hC1 : ∀ w ∈ wC, w ∈ Ts) (hM1 : ∀ w ∈ wM, w ∈ Ts) (hG : lx_G l s D q q5 sa) (hLn : L ≤ 3072) (hn : 6 * n + 6 ≤ L) (hq : ltp_simplify vl K (xs (6 * n + 1)) (xs (6 * n + 2)) (xs (6 * n + 3)) (xs (6 * n + 4)) (xs (6 * n + 5)) zc zm = some S1) (hM : lx_M D q q5 s vl u w zc zm H locs) (hl : lv_has ls 8 [(0, .ref b), (1, .ref (u 0)), (2, .ref (w 0)), (3, .ref (u 52001)), (4, .int (nI (6 * n)))]) (hc : cells + 2 ≤ 601024) (hs : slots + 12 ≤ 7293033) (kk : ∀ (zc1 zm1 : ow_MS) (H1 : Heap) (locs1 : List Loc) (ls1 : Array Slot), lx_M D q q5 s vl u w zc1 zm1 H1 locs1 → lv_has ls1 8 [(0, .ref b), (1, .ref (u 0)), (2, .ref (w 0)), (3, .ref (u 52001)), (4, .int (nI (6 * n)))] → some (vl, zc1, zm1) = some S1 → W p l e room_1 s m args below meth c H1 locs1 (cells + 2) (slots + 12) Q (F0 m 1693 ls1 [])) : W p l e room_1 s m args below meth c H locs cells slots Q (F0 m 919 ls []) := by
  have hbA : ¬ lx_A s b := Nat.not_le.mpr hbl
  generalize e1 : xs (6 * n + 1) = x1 at hq
  generalize e2 : xs (6 * n + 2) = x2 at hq
  generalize e3 : xs (6 * n + 3) = x3 at hq
  generalize e4 : xs (6 * n + 4) = x4 at hq
  generalize e5 : xs (6 * n + 5) = x5 at hq
  unfold ltp_simplify at hq
  refine lv_aload_n hx hb dz_919 rfl (lv_at hl 1 rfl) ?_
  refine lv_aload_n hx hb dz_920 rfl (lv_at hl 0 rfl) ?_
  refine lv_iload hx hb dz_921 (lv_at hl 4 rfl) ?_
  refine lv_iconst (v := 1) hx hb dz_923 (by decide) ?_
  refine lv_iadd hx hb dz_924 ?_
  refine ow_topi (y := nI (6 * n + 1)) (nI_add (6 * n) 1) ?_
  refine va_sld hx hb hX hbl hbA hM.2.2.2.2.2 (vp_in_nI (n := 6 * n + 1) (N := L) (by omega) (by omega)) dz_925 ?_
  refine ow_topi (y := x1) ((congrArg xs (nI_clamp (by omega))).trans e1) ?_
  refine lv_aload_n hx hb dz_926 rfl (lv_at hl 3 rfl) ?_
  obtain ⟨v2, zc1, hcq, hq⟩ := tw_cl1 hq
  refine lx_wrap hM (vx_runSX (As := [.ref (u 0), .int x1, .ref (u 52001)]) (rest := []) ⟨hx, hb, hml, hown, hts⟩ (kl_L_simplify l D q vl u hM.2.2.1.1 hG.1 sa K 0 x1 (by unfold cw_X11 ci_X11; exact List.mem_singleton.mpr rfl) zc zc1 v2 hcq) (vx_cwSW 3 hts (lx_gS (lx_all wLL_good rfl) (lx_mem hL1 (hZ _ zq_136)) (hZ _ zq_137) (hZ _ zq_138) (hZ _ zq_3) rfl rfl rfl) rfl rfl rfl (by decide +kernel) ⟨(Nat.le_of_ble_eq_true rfl), (Nat.le_of_ble_eq_true rfl)⟩) (lx_preL hG hM) rfl rfl hl.1 rfl (lv_room (Nat.le_of_ble_eq_true rfl)) dz_927 ⟨(by show _ ≤ 601024; omega), (by show _ ≤ 7293033; omega)⟩) (fun H locs hM => ?_)
  refine lv_istore (lv' := [(5, .int v2), (0, .ref b), (1, .ref (u 0)), (2, .ref (w 0)), (3, .ref (u 52001)), (4, .int (nI (6 * n)))]) hx hb dz_930 hl (by decide) rfl (fun ls hl => ?_)
  refine lv_aload_n hx hb dz_932 rfl (lv_at hl 3 rfl) ?_
  refine lv_aload_n hx hb dz_933 rfl (lv_at hl 1 rfl) ?_
  refine lv_iload hx hb dz_934 (lv_at hl 5 rfl) ?_
  refine lv_iconst (v := 1) hx hb dz_936 (by decide) ?_
  refine lv_iadd hx hb dz_937 ?_
  refine ow_topi (y := nI (6 * n + 1)) (nI_add (6 * n) 1) ?_
  refine va_sld hx hb hX hbl hbA hM.2.2.2.2.2 (vp_in_nI (n := 6 * n + 1) (N := L) (by omega) (by omega)) dz_938 ?_
  refine ow_topi (y := x1) ((congrArg xs (nI_clamp (by omega))).trans e1) ?_
  obtain ⟨v4, zm3, hcq, hq⟩ := tw_cl1 hq
  refine lx_refi hM (va_runV (As := [.int x1]) (rest := []) ⟨hx, hb, hml, hown, hts⟩ (km_X13_simplify l D q5 w hM.2.2.2.1.1 K x1 zm zm3 v4 hcq) (cwV 1 hts (lx_gV (lx_all wM_good rfl) (lx_mem hM1 (hZ _ zq_139)) (hZ _ zq_140) (hZ _ zq_141) (hZ _ zq_142) (hZ _ zq_8) rfl rfl rfl rfl) rfl rfl rfl cd_X13_simplify ⟨(Nat.le_of_ble_eq_true rfl), (Nat.le_of_ble_eq_true rfl)⟩) (lx_preM hG hM) rfl rfl hl.1 rfl (lv_room (Nat.le_of_ble_eq_true rfl)) dz_939 ⟨(by show _ ≤ 601024; omega), (by show _ ≤ 7293033; omega)⟩) (fun H locs hM => ?_)
  refine lv_istore (lv' := [(6, .int v4), (5, .int v2), (0, .ref b), (1, .ref (u 0)), (2, .ref (w 0)), (3, .ref (u 52001)), (4, .int (nI (6 * n)))]) hx hb dz_942 hl (by decide) rfl (fun ls hl => ?_)
  refine lv_goto (tgt := 1693) hx hb dz_944 (by decide) ?_
  exact kk _ _ H locs ls hM (lv_sub hl [2, 3, 4, 5, 6] rfl) hq
theorem dz_947 : decode cL_law 947 = .ok (.aload_n 1, 1) := dw_at dwl_7 (p := 107) rfl (by decide +kernel)
theorem dz_948 : decode cL_law 948 = .ok (.aload_n 0, 1) := dw_at dwl_7 (p := 108) rfl (by decide +kernel)
theorem dz_949 : decode cL_law 949 = .ok (.iload 4, 2) := dw_at dwl_7 (p := 109) rfl (by decide +kernel)
theorem dz_951 : decode cL_law 951 = .ok (.iconst 1, 1) := dw_at dwl_7 (p := 111) rfl (by decide +kernel)
theorem dz_952 : decode cL_law 952 = .ok (.iadd, 1) := dw_at dwl_7 (p := 112) rfl (by decide +kernel)
theorem dz_953 : decode cL_law 953 = .ok (.iaload, 1) := dw_at dwl_7 (p := 113) rfl (by decide +kernel)
theorem dz_954 : decode cL_law 954 = .ok (.aload_n 0, 1) := dw_at dwl_7 (p := 114) rfl (by decide +kernel)
theorem dz_955 : decode cL_law 955 = .ok (.iload 4, 2) := dw_at dwl_7 (p := 115) rfl (by decide +kernel)
theorem dz_957 : decode cL_law 957 = .ok (.iconst 2, 1) := dw_at dwl_7 (p := 117) rfl (by decide +kernel)
theorem dz_958 : decode cL_law 958 = .ok (.iadd, 1) := dw_at dwl_7 (p := 118) rfl (by decide +kernel)
theorem dz_959 : decode cL_law 959 = .ok (.iaload, 1) := dw_at dwl_7 (p := 119) rfl (by decide +kernel)
theorem dz_960 : decode cL_law 960 = .ok (.aload_n 3, 1) := dw_at dwl_8 (p := 0) rfl (by decide +kernel)
theorem dz_961 : decode cL_law 961 = .ok (.invokestatic 205, 3) := dw_at dwl_8 (p := 1) rfl (by decide +kernel)
theorem dz_964 : decode cL_law 964 = .ok (.istore 5, 2) := dw_at dwl_8 (p := 4) rfl (by decide +kernel)
theorem dz_966 : decode cL_law 966 = .ok (.aload_n 2, 1) := dw_at dwl_8 (p := 6) rfl (by decide +kernel)
theorem dz_967 : decode cL_law 967 = .ok (.aload_n 0, 1) := dw_at dwl_8 (p := 7) rfl (by decide +kernel)
theorem dz_968 : decode cL_law 968 = .ok (.iload 4, 2) := dw_at dwl_8 (p := 8) rfl (by decide +kernel)
theorem dz_970 : decode cL_law 970 = .ok (.iconst 1, 1) := dw_at dwl_8 (p := 10) rfl (by decide +kernel)
theorem dz_971 : decode cL_law 971 = .ok (.iadd, 1) := dw_at dwl_8 (p := 11) rfl (by decide +kernel)
theorem dz_972 : decode cL_law 972 = .ok (.iaload, 1) := dw_at dwl_8 (p := 12) rfl (by decide +kernel)
theorem dz_973 : decode cL_law 973 = .ok (.aload_n 0, 1) := dw_at dwl_8 (p := 13) rfl (by decide +kernel)
theorem dz_974 : decode cL_law 974 = .ok (.iload 4, 2) := dw_at dwl_8 (p := 14) rfl (by decide +kernel)
theorem dz_976 : decode cL_law 976 = .ok (.iconst 2, 1) := dw_at dwl_8 (p := 16) rfl (by decide +kernel)
theorem dz_977 : decode cL_law 977 = .ok (.iadd, 1) := dw_at dwl_8 (p := 17) rfl (by decide +kernel)
theorem dz_978 : decode cL_law 978 = .ok (.iaload, 1) := dw_at dwl_8 (p := 18) rfl (by decide +kernel)
theorem dz_979 : decode cL_law 979 = .ok (.invokevirtual 207, 3) := dw_at dwl_8 (p := 19) rfl (by decide +kernel)
theorem dz_982 : decode cL_law 982 = .ok (.istore 6, 2) := dw_at dwl_8 (p := 22) rfl (by decide +kernel)
theorem dz_984 : decode cL_law 984 = .ok (.goto 709, 3) := dw_at dwl_8 (p := 24) rfl (by decide +kernel)
def ltp_way (vl : Nat → Nat) (K : Nat) (x1 : Int32) (x2 : Int32) (x3 : Int32) (x4 : Int32) (x5 : Int32) (zc zm : ow_MS) : Option ow_LwS :=
 cs1 (le_L_way vl K 0 x1 x2 zc) fun v2 zc1 => cs1 (qe_X13_way K x1 x2 zm) fun v4 zm3 => some (vl, zc1, zm3)
set_option maxHeartbeats 4000000 in
set_option maxRecDepth 100000 in
theorem lxc_way {p : Program} {l : Launch} {e : Env} {s : State} {m : MethodId} {args : Array Value} {below : List Frame} {meth : Method} {c : Code} {b L K n : Nat} {xs : Nat → Int32} {D : va_G} {q : Nat → ClassId} {q5 : ow_Q5} {vl u w sa : Nat → Nat} {zc zm : ow_MS} {S1 : ow_LwS} {Ts : List Cond} {Q : State → Prop} {H : Heap} {locs : List Loc} {ls : Array Slot} {cells slots : Nat} (hx : p.tables.exec = Jvm.exec) (hb : c.code = cL_law) (hml : c.maxLocals = 8) (hown : s.vm.findClass RL = some m.cls) (hts : ∀ w ∈ Ts, w.before args s = true) (hX : va_X b L xs s s.heap) (hbl : b < s.heap.size) (hZ : ∀ w ∈ wZ, w ∈ Ts) (hL1 : ∀ w ∈ wLL, w ∈ Ts) (hC1 : ∀ w ∈ wC, w ∈ Ts) (hM1 : ∀ w ∈ wM, w ∈ Ts) (hG : lx_G l s D q q5 sa) (hLn : L ≤ 3072) (hn : 6 * n + 6 ≤ L) (hq : ltp_way vl K (xs (6 * n + 1)) (xs (6 * n + 2)) (xs (6 * n + 3)) (xs (6 * n + 4)) (xs (6 * n + 5)) zc zm = some S1) (hM : lx_M D q q5 s vl u w zc zm H locs) (hl : lv_has ls 8 [(0, .ref b), (1, .ref (u 0)), (2, .ref (w 0)), (3, .ref (u 52001)), (4, .int (nI (6 * n)))]) (hc : cells + 3 ≤ 601024) (hs : slots + 18 ≤ 7293033) (kk : ∀ (zc1 zm1 : ow_MS) (H1 : Heap) (locs1 : List Loc) (ls1 : Array Slot), lx_M D q q5 s vl u w zc1 zm1 H1 locs1 → lv_has ls1 8 [(0, .ref b), (1, .ref (u 0)), (2, .ref (w 0)), (3, .ref (u 52001)), (4, .int (nI (6 * n)))] → some (vl, zc1, zm1) = some S1 → W p l e room_1 s m args below meth c H1 locs1 (cells + 3) (slots + 18) Q (F0 m 1693 ls1 [])) : W p l e room_1 s m args below meth c H locs cells slots Q (F0 m 947 ls []) := by
  have hbA : ¬ lx_A s b := Nat.not_le.mpr hbl
  generalize e1 : xs (6 * n + 1) = x1 at hq
  generalize e2 : xs (6 * n + 2) = x2 at hq
  generalize e3 : xs (6 * n + 3) = x3 at hq
  generalize e4 : xs (6 * n + 4) = x4 at hq
  generalize e5 : xs (6 * n + 5) = x5 at hq
  unfold ltp_way at hq
  refine lv_aload_n hx hb dz_947 rfl (lv_at hl 1 rfl) ?_
  refine lv_aload_n hx hb dz_948 rfl (lv_at hl 0 rfl) ?_
  refine lv_iload hx hb dz_949 (lv_at hl 4 rfl) ?_
  refine lv_iconst (v := 1) hx hb dz_951 (by decide) ?_
  refine lv_iadd hx hb dz_952 ?_
  refine ow_topi (y := nI (6 * n + 1)) (nI_add (6 * n) 1) ?_
  refine va_sld hx hb hX hbl hbA hM.2.2.2.2.2 (vp_in_nI (n := 6 * n + 1) (N := L) (by omega) (by omega)) dz_953 ?_
  refine ow_topi (y := x1) ((congrArg xs (nI_clamp (by omega))).trans e1) ?_
  refine lv_aload_n hx hb dz_954 rfl (lv_at hl 0 rfl) ?_
  refine lv_iload hx hb dz_955 (lv_at hl 4 rfl) ?_
  refine lv_iconst (v := 2) hx hb dz_957 (by decide) ?_
  refine lv_iadd hx hb dz_958 ?_
  refine ow_topi (y := nI (6 * n + 2)) (nI_add (6 * n) 2) ?_
  refine va_sld hx hb hX hbl hbA hM.2.2.2.2.2 (vp_in_nI (n := 6 * n + 2) (N := L) (by omega) (by omega)) dz_959 ?_
  refine ow_topi (y := x2) ((congrArg xs (nI_clamp (by omega))).trans e2) ?_
  refine lv_aload_n hx hb dz_960 rfl (lv_at hl 3 rfl) ?_
  obtain ⟨v2, zc1, hcq, hq⟩ := tw_cl1 hq
  refine lx_wrap hM (vx_runSX (As := [.ref (u 0), .int x1, .int x2, .ref (u 52001)]) (rest := []) ⟨hx, hb, hml, hown, hts⟩ (kl_L_way l D q vl u hM.2.2.1.1 hG.1 sa K 0 x1 x2 (by unfold cw_X11 ci_X11; exact List.mem_singleton.mpr rfl) zc zc1 v2 hcq) (vx_cwSW 4 hts (lx_gS (lx_all wLL_good rfl) (lx_mem hL1 (hZ _ zq_143)) (hZ _ zq_144) (hZ _ zq_145) (hZ _ zq_3) rfl rfl rfl) rfl rfl rfl (by decide +kernel) ⟨(Nat.le_of_ble_eq_true rfl), (Nat.le_of_ble_eq_true rfl)⟩) (lx_preL hG hM) rfl rfl hl.1 rfl (lv_room (Nat.le_of_ble_eq_true rfl)) dz_961 ⟨(by show _ ≤ 601024; omega), (by show _ ≤ 7293033; omega)⟩) (fun H locs hM => ?_)
  refine lv_istore (lv' := [(5, .int v2), (0, .ref b), (1, .ref (u 0)), (2, .ref (w 0)), (3, .ref (u 52001)), (4, .int (nI (6 * n)))]) hx hb dz_964 hl (by decide) rfl (fun ls hl => ?_)
  refine lv_aload_n hx hb dz_966 rfl (lv_at hl 3 rfl) ?_
  refine lv_aload_n hx hb dz_967 rfl (lv_at hl 1 rfl) ?_
  refine lv_iload hx hb dz_968 (lv_at hl 5 rfl) ?_
  refine lv_iconst (v := 1) hx hb dz_970 (by decide) ?_
  refine lv_iadd hx hb dz_971 ?_
  refine ow_topi (y := nI (6 * n + 1)) (nI_add (6 * n) 1) ?_
  refine va_sld hx hb hX hbl hbA hM.2.2.2.2.2 (vp_in_nI (n := 6 * n + 1) (N := L) (by omega) (by omega)) dz_972 ?_
  refine ow_topi (y := x1) ((congrArg xs (nI_clamp (by omega))).trans e1) ?_
  refine lv_aload_n hx hb dz_973 rfl (lv_at hl 1 rfl) ?_
  refine lv_iload hx hb dz_974 (lv_at hl 5 rfl) ?_
  refine lv_iconst (v := 2) hx hb dz_976 (by decide) ?_
  refine lv_iadd hx hb dz_977 ?_
  refine ow_topi (y := nI (6 * n + 2)) (nI_add (6 * n) 2) ?_
  refine va_sld hx hb hX hbl hbA hM.2.2.2.2.2 (vp_in_nI (n := 6 * n + 2) (N := L) (by omega) (by omega)) dz_978 ?_
  refine ow_topi (y := x2) ((congrArg xs (nI_clamp (by omega))).trans e2) ?_
  obtain ⟨v4, zm3, hcq, hq⟩ := tw_cl1 hq
  refine lx_refi hM (va_runV (As := [.int x1, .int x2]) (rest := []) ⟨hx, hb, hml, hown, hts⟩ (km_X13_way l D q5 w hM.2.2.2.1.1 K x1 x2 zm zm3 v4 hcq) (cwV 2 hts (lx_gV (lx_all wM_good rfl) (lx_mem hM1 (hZ _ zq_146)) (hZ _ zq_147) (hZ _ zq_148) (hZ _ zq_149) (hZ _ zq_8) rfl rfl rfl rfl) rfl rfl rfl cd_X13_way ⟨(Nat.le_of_ble_eq_true rfl), (Nat.le_of_ble_eq_true rfl)⟩) (lx_preM hG hM) rfl rfl hl.1 rfl (lv_room (Nat.le_of_ble_eq_true rfl)) dz_979 ⟨(by show _ ≤ 601024; omega), (by show _ ≤ 7293033; omega)⟩) (fun H locs hM => ?_)
  refine lv_istore (lv' := [(6, .int v4), (5, .int v2), (0, .ref b), (1, .ref (u 0)), (2, .ref (w 0)), (3, .ref (u 52001)), (4, .int (nI (6 * n)))]) hx hb dz_982 hl (by decide) rfl (fun ls hl => ?_)
  refine lv_goto (tgt := 1693) hx hb dz_984 (by decide) ?_
  exact kk _ _ H locs ls hM (lv_sub hl [2, 3, 4, 5, 6] rfl) hq
theorem dz_987 : decode cL_law 987 = .ok (.aload_n 1, 1) := dw_at dwl_8 (p := 27) rfl (by decide +kernel)
theorem dz_988 : decode cL_law 988 = .ok (.aload_n 0, 1) := dw_at dwl_8 (p := 28) rfl (by decide +kernel)
theorem dz_989 : decode cL_law 989 = .ok (.iload 4, 2) := dw_at dwl_8 (p := 29) rfl (by decide +kernel)
theorem dz_991 : decode cL_law 991 = .ok (.iconst 1, 1) := dw_at dwl_8 (p := 31) rfl (by decide +kernel)
theorem dz_992 : decode cL_law 992 = .ok (.iadd, 1) := dw_at dwl_8 (p := 32) rfl (by decide +kernel)
theorem dz_993 : decode cL_law 993 = .ok (.iaload, 1) := dw_at dwl_8 (p := 33) rfl (by decide +kernel)
theorem dz_994 : decode cL_law 994 = .ok (.aload_n 3, 1) := dw_at dwl_8 (p := 34) rfl (by decide +kernel)
theorem dz_995 : decode cL_law 995 = .ok (.invokestatic 208, 3) := dw_at dwl_8 (p := 35) rfl (by decide +kernel)
theorem dz_998 : decode cL_law 998 = .ok (.istore 5, 2) := dw_at dwl_8 (p := 38) rfl (by decide +kernel)
theorem dz_1000 : decode cL_law 1000 = .ok (.aload_n 2, 1) := dw_at dwl_8 (p := 40) rfl (by decide +kernel)
theorem dz_1001 : decode cL_law 1001 = .ok (.aload_n 0, 1) := dw_at dwl_8 (p := 41) rfl (by decide +kernel)
theorem dz_1002 : decode cL_law 1002 = .ok (.iload 4, 2) := dw_at dwl_8 (p := 42) rfl (by decide +kernel)
theorem dz_1004 : decode cL_law 1004 = .ok (.iconst 1, 1) := dw_at dwl_8 (p := 44) rfl (by decide +kernel)
theorem dz_1005 : decode cL_law 1005 = .ok (.iadd, 1) := dw_at dwl_8 (p := 45) rfl (by decide +kernel)
theorem dz_1006 : decode cL_law 1006 = .ok (.iaload, 1) := dw_at dwl_8 (p := 46) rfl (by decide +kernel)
theorem dz_1007 : decode cL_law 1007 = .ok (.invokevirtual 210, 3) := dw_at dwl_8 (p := 47) rfl (by decide +kernel)
theorem dz_1010 : decode cL_law 1010 = .ok (.istore 6, 2) := dw_at dwl_8 (p := 50) rfl (by decide +kernel)
theorem dz_1012 : decode cL_law 1012 = .ok (.goto 681, 3) := dw_at dwl_8 (p := 52) rfl (by decide +kernel)
def ltp_summands (vl : Nat → Nat) (K : Nat) (x1 : Int32) (x2 : Int32) (x3 : Int32) (x4 : Int32) (x5 : Int32) (zc zm : ow_MS) : Option ow_LwS :=
 cs1 (le_L_summands vl K 0 x1 zc) fun v2 zc1 => cs1 (qe_X13_summands K x1 zm) fun v4 zm3 => some (vl, zc1, zm3)
set_option maxHeartbeats 4000000 in
set_option maxRecDepth 100000 in
theorem lxc_summands {p : Program} {l : Launch} {e : Env} {s : State} {m : MethodId} {args : Array Value} {below : List Frame} {meth : Method} {c : Code} {b L K n : Nat} {xs : Nat → Int32} {D : va_G} {q : Nat → ClassId} {q5 : ow_Q5} {vl u w sa : Nat → Nat} {zc zm : ow_MS} {S1 : ow_LwS} {Ts : List Cond} {Q : State → Prop} {H : Heap} {locs : List Loc} {ls : Array Slot} {cells slots : Nat} (hx : p.tables.exec = Jvm.exec) (hb : c.code = cL_law) (hml : c.maxLocals = 8) (hown : s.vm.findClass RL = some m.cls) (hts : ∀ w ∈ Ts, w.before args s = true) (hX : va_X b L xs s s.heap) (hbl : b < s.heap.size) (hZ : ∀ w ∈ wZ, w ∈ Ts) (hL1 : ∀ w ∈ wLL, w ∈ Ts) (hC1 : ∀ w ∈ wC, w ∈ Ts) (hM1 : ∀ w ∈ wM, w ∈ Ts) (hG : lx_G l s D q q5 sa) (hLn : L ≤ 3072) (hn : 6 * n + 6 ≤ L) (hq : ltp_summands vl K (xs (6 * n + 1)) (xs (6 * n + 2)) (xs (6 * n + 3)) (xs (6 * n + 4)) (xs (6 * n + 5)) zc zm = some S1) (hM : lx_M D q q5 s vl u w zc zm H locs) (hl : lv_has ls 8 [(0, .ref b), (1, .ref (u 0)), (2, .ref (w 0)), (3, .ref (u 52001)), (4, .int (nI (6 * n)))]) (hc : cells + 1 ≤ 601024) (hs : slots + 6 ≤ 7293033) (kk : ∀ (zc1 zm1 : ow_MS) (H1 : Heap) (locs1 : List Loc) (ls1 : Array Slot), lx_M D q q5 s vl u w zc1 zm1 H1 locs1 → lv_has ls1 8 [(0, .ref b), (1, .ref (u 0)), (2, .ref (w 0)), (3, .ref (u 52001)), (4, .int (nI (6 * n)))] → some (vl, zc1, zm1) = some S1 → W p l e room_1 s m args below meth c H1 locs1 (cells + 1) (slots + 6) Q (F0 m 1693 ls1 [])) : W p l e room_1 s m args below meth c H locs cells slots Q (F0 m 987 ls []) := by
  have hbA : ¬ lx_A s b := Nat.not_le.mpr hbl
  generalize e1 : xs (6 * n + 1) = x1 at hq
  generalize e2 : xs (6 * n + 2) = x2 at hq
  generalize e3 : xs (6 * n + 3) = x3 at hq
  generalize e4 : xs (6 * n + 4) = x4 at hq
  generalize e5 : xs (6 * n + 5) = x5 at hq
  unfold ltp_summands at hq
  refine lv_aload_n hx hb dz_987 rfl (lv_at hl 1 rfl) ?_
  refine lv_aload_n hx hb dz_988 rfl (lv_at hl 0 rfl) ?_
  refine lv_iload hx hb dz_989 (lv_at hl 4 rfl) ?_
  refine lv_iconst (v := 1) hx hb dz_991 (by decide) ?_
  refine lv_iadd hx hb dz_992 ?_
  refine ow_topi (y := nI (6 * n + 1)) (nI_add (6 * n) 1) ?_
  refine va_sld hx hb hX hbl hbA hM.2.2.2.2.2 (vp_in_nI (n := 6 * n + 1) (N := L) (by omega) (by omega)) dz_993 ?_
  refine ow_topi (y := x1) ((congrArg xs (nI_clamp (by omega))).trans e1) ?_
  refine lv_aload_n hx hb dz_994 rfl (lv_at hl 3 rfl) ?_
  obtain ⟨v2, zc1, hcq, hq⟩ := tw_cl1 hq
  refine lx_wrap hM (vx_runSX (As := [.ref (u 0), .int x1, .ref (u 52001)]) (rest := []) ⟨hx, hb, hml, hown, hts⟩ (kl_L_summands l D q vl u hM.2.2.1.1 hG.1 sa K 0 x1 (by unfold cw_X11 ci_X11; exact List.mem_singleton.mpr rfl) zc zc1 v2 hcq) (vx_cwSW 3 hts (lx_gS (lx_all wLL_good rfl) (lx_mem hL1 (hZ _ zq_150)) (hZ _ zq_151) (hZ _ zq_152) (hZ _ zq_3) rfl rfl rfl) rfl rfl rfl (by decide +kernel) ⟨(Nat.le_of_ble_eq_true rfl), (Nat.le_of_ble_eq_true rfl)⟩) (lx_preL hG hM) rfl rfl hl.1 rfl (lv_room (Nat.le_of_ble_eq_true rfl)) dz_995 ⟨(by show _ ≤ 601024; omega), (by show _ ≤ 7293033; omega)⟩) (fun H locs hM => ?_)
  refine lv_istore (lv' := [(5, .int v2), (0, .ref b), (1, .ref (u 0)), (2, .ref (w 0)), (3, .ref (u 52001)), (4, .int (nI (6 * n)))]) hx hb dz_998 hl (by decide) rfl (fun ls hl => ?_)
  refine lv_aload_n hx hb dz_1000 rfl (lv_at hl 3 rfl) ?_
  refine lv_aload_n hx hb dz_1001 rfl (lv_at hl 1 rfl) ?_
  refine lv_iload hx hb dz_1002 (lv_at hl 5 rfl) ?_
  refine lv_iconst (v := 1) hx hb dz_1004 (by decide) ?_
  refine lv_iadd hx hb dz_1005 ?_
  refine ow_topi (y := nI (6 * n + 1)) (nI_add (6 * n) 1) ?_
  refine va_sld hx hb hX hbl hbA hM.2.2.2.2.2 (vp_in_nI (n := 6 * n + 1) (N := L) (by omega) (by omega)) dz_1006 ?_
  refine ow_topi (y := x1) ((congrArg xs (nI_clamp (by omega))).trans e1) ?_
  obtain ⟨v4, zm3, hcq, hq⟩ := tw_cl1 hq
  refine lx_refi hM (va_runV (As := [.int x1]) (rest := []) ⟨hx, hb, hml, hown, hts⟩ (km_X13_summands l D q5 w hM.2.2.2.1.1 K x1 zm zm3 v4 hcq) (cwV 1 hts (lx_gV (lx_all wM_good rfl) (lx_mem hM1 (hZ _ zq_153)) (hZ _ zq_154) (hZ _ zq_155) (hZ _ zq_156) (hZ _ zq_8) rfl rfl rfl rfl) rfl rfl rfl cd_X13_summands ⟨(Nat.le_of_ble_eq_true rfl), (Nat.le_of_ble_eq_true rfl)⟩) (lx_preM hG hM) rfl rfl hl.1 rfl (lv_room (Nat.le_of_ble_eq_true rfl)) dz_1007 ⟨(by show _ ≤ 601024; omega), (by show _ ≤ 7293033; omega)⟩) (fun H locs hM => ?_)
  refine lv_istore (lv' := [(6, .int v4), (5, .int v2), (0, .ref b), (1, .ref (u 0)), (2, .ref (w 0)), (3, .ref (u 52001)), (4, .int (nI (6 * n)))]) hx hb dz_1010 hl (by decide) rfl (fun ls hl => ?_)
  refine lv_goto (tgt := 1693) hx hb dz_1012 (by decide) ?_
  exact kk _ _ H locs ls hM (lv_sub hl [2, 3, 4, 5, 6] rfl) hq
theorem dz_1015 : decode cL_law 1015 = .ok (.aload_n 1, 1) := dw_at dwl_8 (p := 55) rfl (by decide +kernel)
theorem dz_1016 : decode cL_law 1016 = .ok (.aload_n 0, 1) := dw_at dwl_8 (p := 56) rfl (by decide +kernel)
theorem dz_1017 : decode cL_law 1017 = .ok (.iload 4, 2) := dw_at dwl_8 (p := 57) rfl (by decide +kernel)
theorem dz_1019 : decode cL_law 1019 = .ok (.iconst 1, 1) := dw_at dwl_8 (p := 59) rfl (by decide +kernel)
theorem dz_1020 : decode cL_law 1020 = .ok (.iadd, 1) := dw_at dwl_8 (p := 60) rfl (by decide +kernel)
theorem dz_1021 : decode cL_law 1021 = .ok (.iaload, 1) := dw_at dwl_8 (p := 61) rfl (by decide +kernel)
theorem dz_1022 : decode cL_law 1022 = .ok (.aload_n 3, 1) := dw_at dwl_8 (p := 62) rfl (by decide +kernel)
theorem dz_1023 : decode cL_law 1023 = .ok (.invokestatic 211, 3) := dw_at dwl_8 (p := 63) rfl (by decide +kernel)
theorem dz_1026 : decode cL_law 1026 = .ok (.istore 5, 2) := dw_at dwl_8 (p := 66) rfl (by decide +kernel)
theorem dz_1028 : decode cL_law 1028 = .ok (.aload_n 2, 1) := dw_at dwl_8 (p := 68) rfl (by decide +kernel)
theorem dz_1029 : decode cL_law 1029 = .ok (.aload_n 0, 1) := dw_at dwl_8 (p := 69) rfl (by decide +kernel)
theorem dz_1030 : decode cL_law 1030 = .ok (.iload 4, 2) := dw_at dwl_8 (p := 70) rfl (by decide +kernel)
theorem dz_1032 : decode cL_law 1032 = .ok (.iconst 1, 1) := dw_at dwl_8 (p := 72) rfl (by decide +kernel)
theorem dz_1033 : decode cL_law 1033 = .ok (.iadd, 1) := dw_at dwl_8 (p := 73) rfl (by decide +kernel)
theorem dz_1034 : decode cL_law 1034 = .ok (.iaload, 1) := dw_at dwl_8 (p := 74) rfl (by decide +kernel)
theorem dz_1035 : decode cL_law 1035 = .ok (.invokevirtual 213, 3) := dw_at dwl_8 (p := 75) rfl (by decide +kernel)
theorem dz_1038 : decode cL_law 1038 = .ok (.istore 6, 2) := dw_at dwl_8 (p := 78) rfl (by decide +kernel)
theorem dz_1040 : decode cL_law 1040 = .ok (.goto 653, 3) := dw_at dwl_8 (p := 80) rfl (by decide +kernel)
def ltp_summand (vl : Nat → Nat) (K : Nat) (x1 : Int32) (x2 : Int32) (x3 : Int32) (x4 : Int32) (x5 : Int32) (zc zm : ow_MS) : Option ow_LwS :=
 cs1 (le_L_summand vl K 0 x1 zc) fun v2 zc1 => cs1 (qe_X13_summand K x1 zm) fun v4 zm3 => some (vl, zc1, zm3)
set_option maxHeartbeats 4000000 in
set_option maxRecDepth 100000 in
theorem lxc_summand {p : Program} {l : Launch} {e : Env} {s : State} {m : MethodId} {args : Array Value} {below : List Frame} {meth : Method} {c : Code} {b L K n : Nat} {xs : Nat → Int32} {D : va_G} {q : Nat → ClassId} {q5 : ow_Q5} {vl u w sa : Nat → Nat} {zc zm : ow_MS} {S1 : ow_LwS} {Ts : List Cond} {Q : State → Prop} {H : Heap} {locs : List Loc} {ls : Array Slot} {cells slots : Nat} (hx : p.tables.exec = Jvm.exec) (hb : c.code = cL_law) (hml : c.maxLocals = 8) (hown : s.vm.findClass RL = some m.cls) (hts : ∀ w ∈ Ts, w.before args s = true) (hX : va_X b L xs s s.heap) (hbl : b < s.heap.size) (hZ : ∀ w ∈ wZ, w ∈ Ts) (hL1 : ∀ w ∈ wLL, w ∈ Ts) (hC1 : ∀ w ∈ wC, w ∈ Ts) (hM1 : ∀ w ∈ wM, w ∈ Ts) (hG : lx_G l s D q q5 sa) (hLn : L ≤ 3072) (hn : 6 * n + 6 ≤ L) (hq : ltp_summand vl K (xs (6 * n + 1)) (xs (6 * n + 2)) (xs (6 * n + 3)) (xs (6 * n + 4)) (xs (6 * n + 5)) zc zm = some S1) (hM : lx_M D q q5 s vl u w zc zm H locs) (hl : lv_has ls 8 [(0, .ref b), (1, .ref (u 0)), (2, .ref (w 0)), (3, .ref (u 52001)), (4, .int (nI (6 * n)))]) (hc : cells + 2 ≤ 601024) (hs : slots + 12 ≤ 7293033) (kk : ∀ (zc1 zm1 : ow_MS) (H1 : Heap) (locs1 : List Loc) (ls1 : Array Slot), lx_M D q q5 s vl u w zc1 zm1 H1 locs1 → lv_has ls1 8 [(0, .ref b), (1, .ref (u 0)), (2, .ref (w 0)), (3, .ref (u 52001)), (4, .int (nI (6 * n)))] → some (vl, zc1, zm1) = some S1 → W p l e room_1 s m args below meth c H1 locs1 (cells + 2) (slots + 12) Q (F0 m 1693 ls1 [])) : W p l e room_1 s m args below meth c H locs cells slots Q (F0 m 1015 ls []) := by
  have hbA : ¬ lx_A s b := Nat.not_le.mpr hbl
  generalize e1 : xs (6 * n + 1) = x1 at hq
  generalize e2 : xs (6 * n + 2) = x2 at hq
  generalize e3 : xs (6 * n + 3) = x3 at hq
  generalize e4 : xs (6 * n + 4) = x4 at hq
  generalize e5 : xs (6 * n + 5) = x5 at hq
  unfold ltp_summand at hq
  refine lv_aload_n hx hb dz_1015 rfl (lv_at hl 1 rfl) ?_
  refine lv_aload_n hx hb dz_1016 rfl (lv_at hl 0 rfl) ?_
  refine lv_iload hx hb dz_1017 (lv_at hl 4 rfl) ?_
  refine lv_iconst (v := 1) hx hb dz_1019 (by decide) ?_
  refine lv_iadd hx hb dz_1020 ?_
  refine ow_topi (y := nI (6 * n + 1)) (nI_add (6 * n) 1) ?_
  refine va_sld hx hb hX hbl hbA hM.2.2.2.2.2 (vp_in_nI (n := 6 * n + 1) (N := L) (by omega) (by omega)) dz_1021 ?_
  refine ow_topi (y := x1) ((congrArg xs (nI_clamp (by omega))).trans e1) ?_
  refine lv_aload_n hx hb dz_1022 rfl (lv_at hl 3 rfl) ?_
  obtain ⟨v2, zc1, hcq, hq⟩ := tw_cl1 hq
  refine lx_wrap hM (vx_runSX (As := [.ref (u 0), .int x1, .ref (u 52001)]) (rest := []) ⟨hx, hb, hml, hown, hts⟩ (kl_L_summand l D q vl u hM.2.2.1.1 hG.1 sa K 0 x1 (by unfold cw_X11 ci_X11; exact List.mem_singleton.mpr rfl) zc zc1 v2 hcq) (vx_cwSW 3 hts (lx_gS (lx_all wLL_good rfl) (lx_mem hL1 (hZ _ zq_157)) (hZ _ zq_158) (hZ _ zq_159) (hZ _ zq_3) rfl rfl rfl) rfl rfl rfl (by decide +kernel) ⟨(Nat.le_of_ble_eq_true rfl), (Nat.le_of_ble_eq_true rfl)⟩) (lx_preL hG hM) rfl rfl hl.1 rfl (lv_room (Nat.le_of_ble_eq_true rfl)) dz_1023 ⟨(by show _ ≤ 601024; omega), (by show _ ≤ 7293033; omega)⟩) (fun H locs hM => ?_)
  refine lv_istore (lv' := [(5, .int v2), (0, .ref b), (1, .ref (u 0)), (2, .ref (w 0)), (3, .ref (u 52001)), (4, .int (nI (6 * n)))]) hx hb dz_1026 hl (by decide) rfl (fun ls hl => ?_)
  refine lv_aload_n hx hb dz_1028 rfl (lv_at hl 3 rfl) ?_
  refine lv_aload_n hx hb dz_1029 rfl (lv_at hl 1 rfl) ?_
  refine lv_iload hx hb dz_1030 (lv_at hl 5 rfl) ?_
  refine lv_iconst (v := 1) hx hb dz_1032 (by decide) ?_
  refine lv_iadd hx hb dz_1033 ?_
  refine ow_topi (y := nI (6 * n + 1)) (nI_add (6 * n) 1) ?_
  refine va_sld hx hb hX hbl hbA hM.2.2.2.2.2 (vp_in_nI (n := 6 * n + 1) (N := L) (by omega) (by omega)) dz_1034 ?_
  refine ow_topi (y := x1) ((congrArg xs (nI_clamp (by omega))).trans e1) ?_
  obtain ⟨v4, zm3, hcq, hq⟩ := tw_cl1 hq
  refine lx_refi hM (va_runV (As := [.int x1]) (rest := []) ⟨hx, hb, hml, hown, hts⟩ (km_X13_summand l D q5 w hM.2.2.2.1.1 K x1 zm zm3 v4 hcq) (cwV 1 hts (lx_gV (lx_all wM_good rfl) (lx_mem hM1 (hZ _ zq_160)) (hZ _ zq_161) (hZ _ zq_162) (hZ _ zq_163) (hZ _ zq_8) rfl rfl rfl rfl) rfl rfl rfl cd_X13_summand ⟨(Nat.le_of_ble_eq_true rfl), (Nat.le_of_ble_eq_true rfl)⟩) (lx_preM hG hM) rfl rfl hl.1 rfl (lv_room (Nat.le_of_ble_eq_true rfl)) dz_1035 ⟨(by show _ ≤ 601024; omega), (by show _ ≤ 7293033; omega)⟩) (fun H locs hM => ?_)
  refine lv_istore (lv' := [(6, .int v4), (5, .int v2), (0, .ref b), (1, .ref (u 0)), (2, .ref (w 0)), (3, .ref (u 52001)), (4, .int (nI (6 * n)))]) hx hb dz_1038 hl (by decide) rfl (fun ls hl => ?_)
  refine lv_goto (tgt := 1693) hx hb dz_1040 (by decide) ?_
  exact kk _ _ H locs ls hM (lv_sub hl [2, 3, 4, 5, 6] rfl) hq
theorem dz_1043 : decode cL_law 1043 = .ok (.aload_n 1, 1) := dw_at dwl_8 (p := 83) rfl (by decide +kernel)
theorem dz_1044 : decode cL_law 1044 = .ok (.aload_n 0, 1) := dw_at dwl_8 (p := 84) rfl (by decide +kernel)
theorem dz_1045 : decode cL_law 1045 = .ok (.iload 4, 2) := dw_at dwl_8 (p := 85) rfl (by decide +kernel)
theorem dz_1047 : decode cL_law 1047 = .ok (.iconst 1, 1) := dw_at dwl_8 (p := 87) rfl (by decide +kernel)
theorem dz_1048 : decode cL_law 1048 = .ok (.iadd, 1) := dw_at dwl_8 (p := 88) rfl (by decide +kernel)
theorem dz_1049 : decode cL_law 1049 = .ok (.iaload, 1) := dw_at dwl_8 (p := 89) rfl (by decide +kernel)
theorem dz_1050 : decode cL_law 1050 = .ok (.aload_n 0, 1) := dw_at dwl_8 (p := 90) rfl (by decide +kernel)
theorem dz_1051 : decode cL_law 1051 = .ok (.iload 4, 2) := dw_at dwl_8 (p := 91) rfl (by decide +kernel)
theorem dz_1053 : decode cL_law 1053 = .ok (.iconst 2, 1) := dw_at dwl_8 (p := 93) rfl (by decide +kernel)
theorem dz_1054 : decode cL_law 1054 = .ok (.iadd, 1) := dw_at dwl_8 (p := 94) rfl (by decide +kernel)
theorem dz_1055 : decode cL_law 1055 = .ok (.iaload, 1) := dw_at dwl_8 (p := 95) rfl (by decide +kernel)
theorem dz_1056 : decode cL_law 1056 = .ok (.aload_n 3, 1) := dw_at dwl_8 (p := 96) rfl (by decide +kernel)
theorem dz_1057 : decode cL_law 1057 = .ok (.invokestatic 214, 3) := dw_at dwl_8 (p := 97) rfl (by decide +kernel)
theorem dz_1060 : decode cL_law 1060 = .ok (.istore 5, 2) := dw_at dwl_8 (p := 100) rfl (by decide +kernel)
theorem dz_1062 : decode cL_law 1062 = .ok (.aload_n 2, 1) := dw_at dwl_8 (p := 102) rfl (by decide +kernel)
theorem dz_1063 : decode cL_law 1063 = .ok (.aload_n 0, 1) := dw_at dwl_8 (p := 103) rfl (by decide +kernel)
theorem dz_1064 : decode cL_law 1064 = .ok (.iload 4, 2) := dw_at dwl_8 (p := 104) rfl (by decide +kernel)
theorem dz_1066 : decode cL_law 1066 = .ok (.iconst 1, 1) := dw_at dwl_8 (p := 106) rfl (by decide +kernel)
theorem dz_1067 : decode cL_law 1067 = .ok (.iadd, 1) := dw_at dwl_8 (p := 107) rfl (by decide +kernel)
theorem dz_1068 : decode cL_law 1068 = .ok (.iaload, 1) := dw_at dwl_8 (p := 108) rfl (by decide +kernel)
theorem dz_1069 : decode cL_law 1069 = .ok (.aload_n 0, 1) := dw_at dwl_8 (p := 109) rfl (by decide +kernel)
theorem dz_1070 : decode cL_law 1070 = .ok (.iload 4, 2) := dw_at dwl_8 (p := 110) rfl (by decide +kernel)
theorem dz_1072 : decode cL_law 1072 = .ok (.iconst 2, 1) := dw_at dwl_8 (p := 112) rfl (by decide +kernel)
theorem dz_1073 : decode cL_law 1073 = .ok (.iadd, 1) := dw_at dwl_8 (p := 113) rfl (by decide +kernel)
theorem dz_1074 : decode cL_law 1074 = .ok (.iaload, 1) := dw_at dwl_8 (p := 114) rfl (by decide +kernel)
theorem dz_1075 : decode cL_law 1075 = .ok (.invokevirtual 216, 3) := dw_at dwl_8 (p := 115) rfl (by decide +kernel)
theorem dz_1078 : decode cL_law 1078 = .ok (.istore 6, 2) := dw_at dwl_8 (p := 118) rfl (by decide +kernel)
theorem dz_1080 : decode cL_law 1080 = .ok (.goto 613, 3) := dw_at dwl_9 (p := 0) rfl (by decide +kernel)
def ltp_conway (vl : Nat → Nat) (K : Nat) (x1 : Int32) (x2 : Int32) (x3 : Int32) (x4 : Int32) (x5 : Int32) (zc zm : ow_MS) : Option ow_LwS :=
 cs1 (le_L_conway vl K 0 x1 x2 zc) fun v2 zc1 => cs1 (qe_X13_conway K x1 x2 zm) fun v4 zm3 => some (vl, zc1, zm3)
set_option maxHeartbeats 4000000 in
set_option maxRecDepth 100000 in
theorem lxc_conway {p : Program} {l : Launch} {e : Env} {s : State} {m : MethodId} {args : Array Value} {below : List Frame} {meth : Method} {c : Code} {b L K n : Nat} {xs : Nat → Int32} {D : va_G} {q : Nat → ClassId} {q5 : ow_Q5} {vl u w sa : Nat → Nat} {zc zm : ow_MS} {S1 : ow_LwS} {Ts : List Cond} {Q : State → Prop} {H : Heap} {locs : List Loc} {ls : Array Slot} {cells slots : Nat} (hx : p.tables.exec = Jvm.exec) (hb : c.code = cL_law) (hml : c.maxLocals = 8) (hown : s.vm.findClass RL = some m.cls) (hts : ∀ w ∈ Ts, w.before args s = true) (hX : va_X b L xs s s.heap) (hbl : b < s.heap.size) (hZ : ∀ w ∈ wZ, w ∈ Ts) (hL1 : ∀ w ∈ wLL, w ∈ Ts) (hC1 : ∀ w ∈ wC, w ∈ Ts) (hM1 : ∀ w ∈ wM, w ∈ Ts) (hG : lx_G l s D q q5 sa) (hLn : L ≤ 3072) (hn : 6 * n + 6 ≤ L) (hq : ltp_conway vl K (xs (6 * n + 1)) (xs (6 * n + 2)) (xs (6 * n + 3)) (xs (6 * n + 4)) (xs (6 * n + 5)) zc zm = some S1) (hM : lx_M D q q5 s vl u w zc zm H locs) (hl : lv_has ls 8 [(0, .ref b), (1, .ref (u 0)), (2, .ref (w 0)), (3, .ref (u 52001)), (4, .int (nI (6 * n)))]) (hc : cells + 1 ≤ 601024) (hs : slots + 6 ≤ 7293033) (kk : ∀ (zc1 zm1 : ow_MS) (H1 : Heap) (locs1 : List Loc) (ls1 : Array Slot), lx_M D q q5 s vl u w zc1 zm1 H1 locs1 → lv_has ls1 8 [(0, .ref b), (1, .ref (u 0)), (2, .ref (w 0)), (3, .ref (u 52001)), (4, .int (nI (6 * n)))] → some (vl, zc1, zm1) = some S1 → W p l e room_1 s m args below meth c H1 locs1 (cells + 1) (slots + 6) Q (F0 m 1693 ls1 [])) : W p l e room_1 s m args below meth c H locs cells slots Q (F0 m 1043 ls []) := by
  have hbA : ¬ lx_A s b := Nat.not_le.mpr hbl
  generalize e1 : xs (6 * n + 1) = x1 at hq
  generalize e2 : xs (6 * n + 2) = x2 at hq
  generalize e3 : xs (6 * n + 3) = x3 at hq
  generalize e4 : xs (6 * n + 4) = x4 at hq
  generalize e5 : xs (6 * n + 5) = x5 at hq
  unfold ltp_conway at hq
  refine lv_aload_n hx hb dz_1043 rfl (lv_at hl 1 rfl) ?_
  refine lv_aload_n hx hb dz_1044 rfl (lv_at hl 0 rfl) ?_
  refine lv_iload hx hb dz_1045 (lv_at hl 4 rfl) ?_
  refine lv_iconst (v := 1) hx hb dz_1047 (by decide) ?_
  refine lv_iadd hx hb dz_1048 ?_
  refine ow_topi (y := nI (6 * n + 1)) (nI_add (6 * n) 1) ?_
  refine va_sld hx hb hX hbl hbA hM.2.2.2.2.2 (vp_in_nI (n := 6 * n + 1) (N := L) (by omega) (by omega)) dz_1049 ?_
  refine ow_topi (y := x1) ((congrArg xs (nI_clamp (by omega))).trans e1) ?_
  refine lv_aload_n hx hb dz_1050 rfl (lv_at hl 0 rfl) ?_
  refine lv_iload hx hb dz_1051 (lv_at hl 4 rfl) ?_
  refine lv_iconst (v := 2) hx hb dz_1053 (by decide) ?_
  refine lv_iadd hx hb dz_1054 ?_
  refine ow_topi (y := nI (6 * n + 2)) (nI_add (6 * n) 2) ?_
  refine va_sld hx hb hX hbl hbA hM.2.2.2.2.2 (vp_in_nI (n := 6 * n + 2) (N := L) (by omega) (by omega)) dz_1055 ?_
  refine ow_topi (y := x2) ((congrArg xs (nI_clamp (by omega))).trans e2) ?_
  refine lv_aload_n hx hb dz_1056 rfl (lv_at hl 3 rfl) ?_
  obtain ⟨v2, zc1, hcq, hq⟩ := tw_cl1 hq
  refine lx_wrap hM (vx_runSX (As := [.ref (u 0), .int x1, .int x2, .ref (u 52001)]) (rest := []) ⟨hx, hb, hml, hown, hts⟩ (kl_L_conway l D q vl u hM.2.2.1.1 hG.1 sa K 0 x1 x2 (by unfold cw_X11 ci_X11; exact List.mem_singleton.mpr rfl) zc zc1 v2 hcq) (vx_cwSW 4 hts (lx_gS (lx_all wLL_good rfl) (lx_mem hL1 (hZ _ zq_164)) (hZ _ zq_165) (hZ _ zq_166) (hZ _ zq_3) rfl rfl rfl) rfl rfl rfl (by decide +kernel) ⟨(Nat.le_of_ble_eq_true rfl), (Nat.le_of_ble_eq_true rfl)⟩) (lx_preL hG hM) rfl rfl hl.1 rfl (lv_room (Nat.le_of_ble_eq_true rfl)) dz_1057 ⟨(by show _ ≤ 601024; omega), (by show _ ≤ 7293033; omega)⟩) (fun H locs hM => ?_)
  refine lv_istore (lv' := [(5, .int v2), (0, .ref b), (1, .ref (u 0)), (2, .ref (w 0)), (3, .ref (u 52001)), (4, .int (nI (6 * n)))]) hx hb dz_1060 hl (by decide) rfl (fun ls hl => ?_)
  refine lv_aload_n hx hb dz_1062 rfl (lv_at hl 3 rfl) ?_
  refine lv_aload_n hx hb dz_1063 rfl (lv_at hl 1 rfl) ?_
  refine lv_iload hx hb dz_1064 (lv_at hl 5 rfl) ?_
  refine lv_iconst (v := 1) hx hb dz_1066 (by decide) ?_
  refine lv_iadd hx hb dz_1067 ?_
  refine ow_topi (y := nI (6 * n + 1)) (nI_add (6 * n) 1) ?_
  refine va_sld hx hb hX hbl hbA hM.2.2.2.2.2 (vp_in_nI (n := 6 * n + 1) (N := L) (by omega) (by omega)) dz_1068 ?_
  refine ow_topi (y := x1) ((congrArg xs (nI_clamp (by omega))).trans e1) ?_
  refine lv_aload_n hx hb dz_1069 rfl (lv_at hl 1 rfl) ?_
  refine lv_iload hx hb dz_1070 (lv_at hl 5 rfl) ?_
  refine lv_iconst (v := 2) hx hb dz_1072 (by decide) ?_
  refine lv_iadd hx hb dz_1073 ?_
  refine ow_topi (y := nI (6 * n + 2)) (nI_add (6 * n) 2) ?_
  refine va_sld hx hb hX hbl hbA hM.2.2.2.2.2 (vp_in_nI (n := 6 * n + 2) (N := L) (by omega) (by omega)) dz_1074 ?_
  refine ow_topi (y := x2) ((congrArg xs (nI_clamp (by omega))).trans e2) ?_
  obtain ⟨v4, zm3, hcq, hq⟩ := tw_cl1 hq
  refine lx_refi hM (va_runV (As := [.int x1, .int x2]) (rest := []) ⟨hx, hb, hml, hown, hts⟩ (km_X13_conway l D q5 w hM.2.2.2.1.1 K x1 x2 zm zm3 v4 hcq) (cwV 2 hts (lx_gV (lx_all wM_good rfl) (lx_mem hM1 (hZ _ zq_167)) (hZ _ zq_168) (hZ _ zq_169) (hZ _ zq_170) (hZ _ zq_8) rfl rfl rfl rfl) rfl rfl rfl cd_X13_conway ⟨(Nat.le_of_ble_eq_true rfl), (Nat.le_of_ble_eq_true rfl)⟩) (lx_preM hG hM) rfl rfl hl.1 rfl (lv_room (Nat.le_of_ble_eq_true rfl)) dz_1075 ⟨(by show _ ≤ 601024; omega), (by show _ ≤ 7293033; omega)⟩) (fun H locs hM => ?_)
  refine lv_istore (lv' := [(6, .int v4), (5, .int v2), (0, .ref b), (1, .ref (u 0)), (2, .ref (w 0)), (3, .ref (u 52001)), (4, .int (nI (6 * n)))]) hx hb dz_1078 hl (by decide) rfl (fun ls hl => ?_)
  refine lv_goto (tgt := 1693) hx hb dz_1080 (by decide) ?_
  exact kk _ _ H locs ls hM (lv_sub hl [2, 3, 4, 5, 6] rfl) hq
theorem dz_1083 : decode cL_law 1083 = .ok (.aload_n 1, 1) := dw_at dwl_9 (p := 3) rfl (by decide +kernel)
theorem dz_1084 : decode cL_law 1084 = .ok (.aload_n 0, 1) := dw_at dwl_9 (p := 4) rfl (by decide +kernel)
theorem dz_1085 : decode cL_law 1085 = .ok (.iload 4, 2) := dw_at dwl_9 (p := 5) rfl (by decide +kernel)
theorem dz_1087 : decode cL_law 1087 = .ok (.iconst 1, 1) := dw_at dwl_9 (p := 7) rfl (by decide +kernel)
theorem dz_1088 : decode cL_law 1088 = .ok (.iadd, 1) := dw_at dwl_9 (p := 8) rfl (by decide +kernel)
theorem dz_1089 : decode cL_law 1089 = .ok (.iaload, 1) := dw_at dwl_9 (p := 9) rfl (by decide +kernel)
theorem dz_1090 : decode cL_law 1090 = .ok (.aload_n 0, 1) := dw_at dwl_9 (p := 10) rfl (by decide +kernel)
theorem dz_1091 : decode cL_law 1091 = .ok (.iload 4, 2) := dw_at dwl_9 (p := 11) rfl (by decide +kernel)
theorem dz_1093 : decode cL_law 1093 = .ok (.iconst 2, 1) := dw_at dwl_9 (p := 13) rfl (by decide +kernel)
theorem dz_1094 : decode cL_law 1094 = .ok (.iadd, 1) := dw_at dwl_9 (p := 14) rfl (by decide +kernel)
theorem dz_1095 : decode cL_law 1095 = .ok (.iaload, 1) := dw_at dwl_9 (p := 15) rfl (by decide +kernel)
theorem dz_1096 : decode cL_law 1096 = .ok (.aload_n 3, 1) := dw_at dwl_9 (p := 16) rfl (by decide +kernel)
theorem dz_1097 : decode cL_law 1097 = .ok (.invokestatic 217, 3) := dw_at dwl_9 (p := 17) rfl (by decide +kernel)
theorem dz_1100 : decode cL_law 1100 = .ok (.istore 5, 2) := dw_at dwl_9 (p := 20) rfl (by decide +kernel)
theorem dz_1102 : decode cL_law 1102 = .ok (.aload_n 2, 1) := dw_at dwl_9 (p := 22) rfl (by decide +kernel)
theorem dz_1103 : decode cL_law 1103 = .ok (.aload_n 0, 1) := dw_at dwl_9 (p := 23) rfl (by decide +kernel)
theorem dz_1104 : decode cL_law 1104 = .ok (.iload 4, 2) := dw_at dwl_9 (p := 24) rfl (by decide +kernel)
theorem dz_1106 : decode cL_law 1106 = .ok (.iconst 1, 1) := dw_at dwl_9 (p := 26) rfl (by decide +kernel)
theorem dz_1107 : decode cL_law 1107 = .ok (.iadd, 1) := dw_at dwl_9 (p := 27) rfl (by decide +kernel)
theorem dz_1108 : decode cL_law 1108 = .ok (.iaload, 1) := dw_at dwl_9 (p := 28) rfl (by decide +kernel)
theorem dz_1109 : decode cL_law 1109 = .ok (.aload_n 0, 1) := dw_at dwl_9 (p := 29) rfl (by decide +kernel)
theorem dz_1110 : decode cL_law 1110 = .ok (.iload 4, 2) := dw_at dwl_9 (p := 30) rfl (by decide +kernel)
theorem dz_1112 : decode cL_law 1112 = .ok (.iconst 2, 1) := dw_at dwl_9 (p := 32) rfl (by decide +kernel)
theorem dz_1113 : decode cL_law 1113 = .ok (.iadd, 1) := dw_at dwl_9 (p := 33) rfl (by decide +kernel)
theorem dz_1114 : decode cL_law 1114 = .ok (.iaload, 1) := dw_at dwl_9 (p := 34) rfl (by decide +kernel)
theorem dz_1115 : decode cL_law 1115 = .ok (.invokevirtual 219, 3) := dw_at dwl_9 (p := 35) rfl (by decide +kernel)
theorem dz_1118 : decode cL_law 1118 = .ok (.istore 6, 2) := dw_at dwl_9 (p := 38) rfl (by decide +kernel)
theorem dz_1120 : decode cL_law 1120 = .ok (.goto 573, 3) := dw_at dwl_9 (p := 40) rfl (by decide +kernel)
def ltp_jones (vl : Nat → Nat) (K : Nat) (x1 : Int32) (x2 : Int32) (x3 : Int32) (x4 : Int32) (x5 : Int32) (zc zm : ow_MS) : Option ow_LwS :=
 cs1 (le_L_jones vl K 0 x1 x2 zc) fun v2 zc1 => cs1 (qe_X13_jones K x1 x2 zm) fun v4 zm3 => some (vl, zc1, zm3)
set_option maxHeartbeats 4000000 in
set_option maxRecDepth 100000 in
theorem lxc_jones {p : Program} {l : Launch} {e : Env} {s : State} {m : MethodId} {args : Array Value} {below : List Frame} {meth : Method} {c : Code} {b L K n : Nat} {xs : Nat → Int32} {D : va_G} {q : Nat → ClassId} {q5 : ow_Q5} {vl u w sa : Nat → Nat} {zc zm : ow_MS} {S1 : ow_LwS} {Ts : List Cond} {Q : State → Prop} {H : Heap} {locs : List Loc} {ls : Array Slot} {cells slots : Nat} (hx : p.tables.exec = Jvm.exec) (hb : c.code = cL_law) (hml : c.maxLocals = 8) (hown : s.vm.findClass RL = some m.cls) (hts : ∀ w ∈ Ts, w.before args s = true) (hX : va_X b L xs s s.heap) (hbl : b < s.heap.size) (hZ : ∀ w ∈ wZ, w ∈ Ts) (hL1 : ∀ w ∈ wLL, w ∈ Ts) (hC1 : ∀ w ∈ wC, w ∈ Ts) (hM1 : ∀ w ∈ wM, w ∈ Ts) (hG : lx_G l s D q q5 sa) (hLn : L ≤ 3072) (hn : 6 * n + 6 ≤ L) (hq : ltp_jones vl K (xs (6 * n + 1)) (xs (6 * n + 2)) (xs (6 * n + 3)) (xs (6 * n + 4)) (xs (6 * n + 5)) zc zm = some S1) (hM : lx_M D q q5 s vl u w zc zm H locs) (hl : lv_has ls 8 [(0, .ref b), (1, .ref (u 0)), (2, .ref (w 0)), (3, .ref (u 52001)), (4, .int (nI (6 * n)))]) (hc : cells + 1 ≤ 601024) (hs : slots + 6 ≤ 7293033) (kk : ∀ (zc1 zm1 : ow_MS) (H1 : Heap) (locs1 : List Loc) (ls1 : Array Slot), lx_M D q q5 s vl u w zc1 zm1 H1 locs1 → lv_has ls1 8 [(0, .ref b), (1, .ref (u 0)), (2, .ref (w 0)), (3, .ref (u 52001)), (4, .int (nI (6 * n)))] → some (vl, zc1, zm1) = some S1 → W p l e room_1 s m args below meth c H1 locs1 (cells + 1) (slots + 6) Q (F0 m 1693 ls1 [])) : W p l e room_1 s m args below meth c H locs cells slots Q (F0 m 1083 ls []) := by
  have hbA : ¬ lx_A s b := Nat.not_le.mpr hbl
  generalize e1 : xs (6 * n + 1) = x1 at hq
  generalize e2 : xs (6 * n + 2) = x2 at hq
  generalize e3 : xs (6 * n + 3) = x3 at hq
  generalize e4 : xs (6 * n + 4) = x4 at hq
  generalize e5 : xs (6 * n + 5) = x5 at hq
  unfold ltp_jones at hq
  refine lv_aload_n hx hb dz_1083 rfl (lv_at hl 1 rfl) ?_
  refine lv_aload_n hx hb dz_1084 rfl (lv_at hl 0 rfl) ?_
  refine lv_iload hx hb dz_1085 (lv_at hl 4 rfl) ?_
  refine lv_iconst (v := 1) hx hb dz_1087 (by decide) ?_
  refine lv_iadd hx hb dz_1088 ?_
  refine ow_topi (y := nI (6 * n + 1)) (nI_add (6 * n) 1) ?_
  refine va_sld hx hb hX hbl hbA hM.2.2.2.2.2 (vp_in_nI (n := 6 * n + 1) (N := L) (by omega) (by omega)) dz_1089 ?_
  refine ow_topi (y := x1) ((congrArg xs (nI_clamp (by omega))).trans e1) ?_
  refine lv_aload_n hx hb dz_1090 rfl (lv_at hl 0 rfl) ?_
  refine lv_iload hx hb dz_1091 (lv_at hl 4 rfl) ?_
  refine lv_iconst (v := 2) hx hb dz_1093 (by decide) ?_
  refine lv_iadd hx hb dz_1094 ?_
  refine ow_topi (y := nI (6 * n + 2)) (nI_add (6 * n) 2) ?_
  refine va_sld hx hb hX hbl hbA hM.2.2.2.2.2 (vp_in_nI (n := 6 * n + 2) (N := L) (by omega) (by omega)) dz_1095 ?_
  refine ow_topi (y := x2) ((congrArg xs (nI_clamp (by omega))).trans e2) ?_
  refine lv_aload_n hx hb dz_1096 rfl (lv_at hl 3 rfl) ?_
  obtain ⟨v2, zc1, hcq, hq⟩ := tw_cl1 hq
  refine lx_wrap hM (vx_runSX (As := [.ref (u 0), .int x1, .int x2, .ref (u 52001)]) (rest := []) ⟨hx, hb, hml, hown, hts⟩ (kl_L_jones l D q vl u hM.2.2.1.1 hG.1 sa K 0 x1 x2 (by unfold cw_X11 ci_X11; exact List.mem_singleton.mpr rfl) zc zc1 v2 hcq) (vx_cwSW 4 hts (lx_gS (lx_all wLL_good rfl) (lx_mem hL1 (hZ _ zq_171)) (hZ _ zq_172) (hZ _ zq_173) (hZ _ zq_3) rfl rfl rfl) rfl rfl rfl (by decide +kernel) ⟨(Nat.le_of_ble_eq_true rfl), (Nat.le_of_ble_eq_true rfl)⟩) (lx_preL hG hM) rfl rfl hl.1 rfl (lv_room (Nat.le_of_ble_eq_true rfl)) dz_1097 ⟨(by show _ ≤ 601024; omega), (by show _ ≤ 7293033; omega)⟩) (fun H locs hM => ?_)
  refine lv_istore (lv' := [(5, .int v2), (0, .ref b), (1, .ref (u 0)), (2, .ref (w 0)), (3, .ref (u 52001)), (4, .int (nI (6 * n)))]) hx hb dz_1100 hl (by decide) rfl (fun ls hl => ?_)
  refine lv_aload_n hx hb dz_1102 rfl (lv_at hl 3 rfl) ?_
  refine lv_aload_n hx hb dz_1103 rfl (lv_at hl 1 rfl) ?_
  refine lv_iload hx hb dz_1104 (lv_at hl 5 rfl) ?_
  refine lv_iconst (v := 1) hx hb dz_1106 (by decide) ?_
  refine lv_iadd hx hb dz_1107 ?_
  refine ow_topi (y := nI (6 * n + 1)) (nI_add (6 * n) 1) ?_
  refine va_sld hx hb hX hbl hbA hM.2.2.2.2.2 (vp_in_nI (n := 6 * n + 1) (N := L) (by omega) (by omega)) dz_1108 ?_
  refine ow_topi (y := x1) ((congrArg xs (nI_clamp (by omega))).trans e1) ?_
  refine lv_aload_n hx hb dz_1109 rfl (lv_at hl 1 rfl) ?_
  refine lv_iload hx hb dz_1110 (lv_at hl 5 rfl) ?_
  refine lv_iconst (v := 2) hx hb dz_1112 (by decide) ?_
  refine lv_iadd hx hb dz_1113 ?_
  refine ow_topi (y := nI (6 * n + 2)) (nI_add (6 * n) 2) ?_
  refine va_sld hx hb hX hbl hbA hM.2.2.2.2.2 (vp_in_nI (n := 6 * n + 2) (N := L) (by omega) (by omega)) dz_1114 ?_
  refine ow_topi (y := x2) ((congrArg xs (nI_clamp (by omega))).trans e2) ?_
  obtain ⟨v4, zm3, hcq, hq⟩ := tw_cl1 hq
  refine lx_refi hM (va_runV (As := [.int x1, .int x2]) (rest := []) ⟨hx, hb, hml, hown, hts⟩ (km_X13_jones l D q5 w hM.2.2.2.1.1 K x1 x2 zm zm3 v4 hcq) (cwV 2 hts (lx_gV (lx_all wM_good rfl) (lx_mem hM1 (hZ _ zq_174)) (hZ _ zq_175) (hZ _ zq_176) (hZ _ zq_177) (hZ _ zq_8) rfl rfl rfl rfl) rfl rfl rfl cd_X13_jones ⟨(Nat.le_of_ble_eq_true rfl), (Nat.le_of_ble_eq_true rfl)⟩) (lx_preM hG hM) rfl rfl hl.1 rfl (lv_room (Nat.le_of_ble_eq_true rfl)) dz_1115 ⟨(by show _ ≤ 601024; omega), (by show _ ≤ 7293033; omega)⟩) (fun H locs hM => ?_)
  refine lv_istore (lv' := [(6, .int v4), (5, .int v2), (0, .ref b), (1, .ref (u 0)), (2, .ref (w 0)), (3, .ref (u 52001)), (4, .int (nI (6 * n)))]) hx hb dz_1118 hl (by decide) rfl (fun ls hl => ?_)
  refine lv_goto (tgt := 1693) hx hb dz_1120 (by decide) ?_
  exact kk _ _ H locs ls hM (lv_sub hl [2, 3, 4, 5, 6] rfl) hq
theorem dz_1123 : decode cL_law 1123 = .ok (.aload_n 1, 1) := dw_at dwl_9 (p := 43) rfl (by decide +kernel)
theorem dz_1124 : decode cL_law 1124 = .ok (.aload_n 0, 1) := dw_at dwl_9 (p := 44) rfl (by decide +kernel)
theorem dz_1125 : decode cL_law 1125 = .ok (.iload 4, 2) := dw_at dwl_9 (p := 45) rfl (by decide +kernel)
theorem dz_1127 : decode cL_law 1127 = .ok (.iconst 1, 1) := dw_at dwl_9 (p := 47) rfl (by decide +kernel)
theorem dz_1128 : decode cL_law 1128 = .ok (.iadd, 1) := dw_at dwl_9 (p := 48) rfl (by decide +kernel)
theorem dz_1129 : decode cL_law 1129 = .ok (.iaload, 1) := dw_at dwl_9 (p := 49) rfl (by decide +kernel)
theorem dz_1130 : decode cL_law 1130 = .ok (.aload_n 3, 1) := dw_at dwl_9 (p := 50) rfl (by decide +kernel)
theorem dz_1131 : decode cL_law 1131 = .ok (.invokestatic 220, 3) := dw_at dwl_9 (p := 51) rfl (by decide +kernel)
theorem dz_1134 : decode cL_law 1134 = .ok (.istore 5, 2) := dw_at dwl_9 (p := 54) rfl (by decide +kernel)
theorem dz_1136 : decode cL_law 1136 = .ok (.aload_n 2, 1) := dw_at dwl_9 (p := 56) rfl (by decide +kernel)
theorem dz_1137 : decode cL_law 1137 = .ok (.aload_n 0, 1) := dw_at dwl_9 (p := 57) rfl (by decide +kernel)
theorem dz_1138 : decode cL_law 1138 = .ok (.iload 4, 2) := dw_at dwl_9 (p := 58) rfl (by decide +kernel)
theorem dz_1140 : decode cL_law 1140 = .ok (.iconst 1, 1) := dw_at dwl_9 (p := 60) rfl (by decide +kernel)
theorem dz_1141 : decode cL_law 1141 = .ok (.iadd, 1) := dw_at dwl_9 (p := 61) rfl (by decide +kernel)
theorem dz_1142 : decode cL_law 1142 = .ok (.iaload, 1) := dw_at dwl_9 (p := 62) rfl (by decide +kernel)
theorem dz_1143 : decode cL_law 1143 = .ok (.invokevirtual 222, 3) := dw_at dwl_9 (p := 63) rfl (by decide +kernel)
theorem dz_1146 : decode cL_law 1146 = .ok (.istore 6, 2) := dw_at dwl_9 (p := 66) rfl (by decide +kernel)
theorem dz_1148 : decode cL_law 1148 = .ok (.goto 545, 3) := dw_at dwl_9 (p := 68) rfl (by decide +kernel)
def ltp_signature (vl : Nat → Nat) (K : Nat) (x1 : Int32) (x2 : Int32) (x3 : Int32) (x4 : Int32) (x5 : Int32) (zc zm : ow_MS) : Option ow_LwS :=
 cs1 (le_L_signature vl K 0 x1 zc) fun v2 zc1 => cs1 (qe_X13_signature K x1 zm) fun v4 zm3 => some (vl, zc1, zm3)
set_option maxHeartbeats 4000000 in
set_option maxRecDepth 100000 in
theorem lxc_signature {p : Program} {l : Launch} {e : Env} {s : State} {m : MethodId} {args : Array Value} {below : List Frame} {meth : Method} {c : Code} {b L K n : Nat} {xs : Nat → Int32} {D : va_G} {q : Nat → ClassId} {q5 : ow_Q5} {vl u w sa : Nat → Nat} {zc zm : ow_MS} {S1 : ow_LwS} {Ts : List Cond} {Q : State → Prop} {H : Heap} {locs : List Loc} {ls : Array Slot} {cells slots : Nat} (hx : p.tables.exec = Jvm.exec) (hb : c.code = cL_law) (hml : c.maxLocals = 8) (hown : s.vm.findClass RL = some m.cls) (hts : ∀ w ∈ Ts, w.before args s = true) (hX : va_X b L xs s s.heap) (hbl : b < s.heap.size) (hZ : ∀ w ∈ wZ, w ∈ Ts) (hL1 : ∀ w ∈ wLL, w ∈ Ts) (hC1 : ∀ w ∈ wC, w ∈ Ts) (hM1 : ∀ w ∈ wM, w ∈ Ts) (hG : lx_G l s D q q5 sa) (hLn : L ≤ 3072) (hn : 6 * n + 6 ≤ L) (hq : ltp_signature vl K (xs (6 * n + 1)) (xs (6 * n + 2)) (xs (6 * n + 3)) (xs (6 * n + 4)) (xs (6 * n + 5)) zc zm = some S1) (hM : lx_M D q q5 s vl u w zc zm H locs) (hl : lv_has ls 8 [(0, .ref b), (1, .ref (u 0)), (2, .ref (w 0)), (3, .ref (u 52001)), (4, .int (nI (6 * n)))]) (hc : cells + 1 ≤ 601024) (hs : slots + 6 ≤ 7293033) (kk : ∀ (zc1 zm1 : ow_MS) (H1 : Heap) (locs1 : List Loc) (ls1 : Array Slot), lx_M D q q5 s vl u w zc1 zm1 H1 locs1 → lv_has ls1 8 [(0, .ref b), (1, .ref (u 0)), (2, .ref (w 0)), (3, .ref (u 52001)), (4, .int (nI (6 * n)))] → some (vl, zc1, zm1) = some S1 → W p l e room_1 s m args below meth c H1 locs1 (cells + 1) (slots + 6) Q (F0 m 1693 ls1 [])) : W p l e room_1 s m args below meth c H locs cells slots Q (F0 m 1123 ls []) := by
  have hbA : ¬ lx_A s b := Nat.not_le.mpr hbl
  generalize e1 : xs (6 * n + 1) = x1 at hq
  generalize e2 : xs (6 * n + 2) = x2 at hq
  generalize e3 : xs (6 * n + 3) = x3 at hq
  generalize e4 : xs (6 * n + 4) = x4 at hq
  generalize e5 : xs (6 * n + 5) = x5 at hq
  unfold ltp_signature at hq
  refine lv_aload_n hx hb dz_1123 rfl (lv_at hl 1 rfl) ?_
  refine lv_aload_n hx hb dz_1124 rfl (lv_at hl 0 rfl) ?_
  refine lv_iload hx hb dz_1125 (lv_at hl 4 rfl) ?_
  refine lv_iconst (v := 1) hx hb dz_1127 (by decide) ?_
  refine lv_iadd hx hb dz_1128 ?_
  refine ow_topi (y := nI (6 * n + 1)) (nI_add (6 * n) 1) ?_
  refine va_sld hx hb hX hbl hbA hM.2.2.2.2.2 (vp_in_nI (n := 6 * n + 1) (N := L) (by omega) (by omega)) dz_1129 ?_
  refine ow_topi (y := x1) ((congrArg xs (nI_clamp (by omega))).trans e1) ?_
  refine lv_aload_n hx hb dz_1130 rfl (lv_at hl 3 rfl) ?_
  obtain ⟨v2, zc1, hcq, hq⟩ := tw_cl1 hq
  refine lx_wrap hM (vx_runSX (As := [.ref (u 0), .int x1, .ref (u 52001)]) (rest := []) ⟨hx, hb, hml, hown, hts⟩ (kl_L_signature l D q vl u hM.2.2.1.1 hG.1 sa K 0 x1 (by unfold cw_X11 ci_X11; exact List.mem_singleton.mpr rfl) zc zc1 v2 hcq) (vx_cwSW 3 hts (lx_gS (lx_all wLL_good rfl) (lx_mem hL1 (hZ _ zq_178)) (hZ _ zq_179) (hZ _ zq_180) (hZ _ zq_3) rfl rfl rfl) rfl rfl rfl (by decide +kernel) ⟨(Nat.le_of_ble_eq_true rfl), (Nat.le_of_ble_eq_true rfl)⟩) (lx_preL hG hM) rfl rfl hl.1 rfl (lv_room (Nat.le_of_ble_eq_true rfl)) dz_1131 ⟨(by show _ ≤ 601024; omega), (by show _ ≤ 7293033; omega)⟩) (fun H locs hM => ?_)
  refine lv_istore (lv' := [(5, .int v2), (0, .ref b), (1, .ref (u 0)), (2, .ref (w 0)), (3, .ref (u 52001)), (4, .int (nI (6 * n)))]) hx hb dz_1134 hl (by decide) rfl (fun ls hl => ?_)
  refine lv_aload_n hx hb dz_1136 rfl (lv_at hl 3 rfl) ?_
  refine lv_aload_n hx hb dz_1137 rfl (lv_at hl 1 rfl) ?_
  refine lv_iload hx hb dz_1138 (lv_at hl 5 rfl) ?_
  refine lv_iconst (v := 1) hx hb dz_1140 (by decide) ?_
  refine lv_iadd hx hb dz_1141 ?_
  refine ow_topi (y := nI (6 * n + 1)) (nI_add (6 * n) 1) ?_
  refine va_sld hx hb hX hbl hbA hM.2.2.2.2.2 (vp_in_nI (n := 6 * n + 1) (N := L) (by omega) (by omega)) dz_1142 ?_
  refine ow_topi (y := x1) ((congrArg xs (nI_clamp (by omega))).trans e1) ?_
  obtain ⟨v4, zm3, hcq, hq⟩ := tw_cl1 hq
  refine lx_refi hM (va_runV (As := [.int x1]) (rest := []) ⟨hx, hb, hml, hown, hts⟩ (km_X13_signature l D q5 w hM.2.2.2.1.1 K x1 zm zm3 v4 hcq) (cwV 1 hts (lx_gV (lx_all wM_good rfl) (lx_mem hM1 (hZ _ zq_181)) (hZ _ zq_182) (hZ _ zq_183) (hZ _ zq_184) (hZ _ zq_8) rfl rfl rfl rfl) rfl rfl rfl cd_X13_signature ⟨(Nat.le_of_ble_eq_true rfl), (Nat.le_of_ble_eq_true rfl)⟩) (lx_preM hG hM) rfl rfl hl.1 rfl (lv_room (Nat.le_of_ble_eq_true rfl)) dz_1143 ⟨(by show _ ≤ 601024; omega), (by show _ ≤ 7293033; omega)⟩) (fun H locs hM => ?_)
  refine lv_istore (lv' := [(6, .int v4), (5, .int v2), (0, .ref b), (1, .ref (u 0)), (2, .ref (w 0)), (3, .ref (u 52001)), (4, .int (nI (6 * n)))]) hx hb dz_1146 hl (by decide) rfl (fun ls hl => ?_)
  refine lv_goto (tgt := 1693) hx hb dz_1148 (by decide) ?_
  exact kk _ _ H locs ls hM (lv_sub hl [2, 3, 4, 5, 6] rfl) hq
theorem dz_1151 : decode cL_law 1151 = .ok (.aload_n 1, 1) := dw_at dwl_9 (p := 71) rfl (by decide +kernel)
theorem dz_1152 : decode cL_law 1152 = .ok (.aload_n 0, 1) := dw_at dwl_9 (p := 72) rfl (by decide +kernel)
theorem dz_1153 : decode cL_law 1153 = .ok (.iload 4, 2) := dw_at dwl_9 (p := 73) rfl (by decide +kernel)
theorem dz_1155 : decode cL_law 1155 = .ok (.iconst 1, 1) := dw_at dwl_9 (p := 75) rfl (by decide +kernel)
theorem dz_1156 : decode cL_law 1156 = .ok (.iadd, 1) := dw_at dwl_9 (p := 76) rfl (by decide +kernel)
theorem dz_1157 : decode cL_law 1157 = .ok (.iaload, 1) := dw_at dwl_9 (p := 77) rfl (by decide +kernel)
theorem dz_1158 : decode cL_law 1158 = .ok (.aload_n 0, 1) := dw_at dwl_9 (p := 78) rfl (by decide +kernel)
theorem dz_1159 : decode cL_law 1159 = .ok (.iload 4, 2) := dw_at dwl_9 (p := 79) rfl (by decide +kernel)
theorem dz_1161 : decode cL_law 1161 = .ok (.iconst 2, 1) := dw_at dwl_9 (p := 81) rfl (by decide +kernel)
theorem dz_1162 : decode cL_law 1162 = .ok (.iadd, 1) := dw_at dwl_9 (p := 82) rfl (by decide +kernel)
theorem dz_1163 : decode cL_law 1163 = .ok (.iaload, 1) := dw_at dwl_9 (p := 83) rfl (by decide +kernel)
theorem dz_1164 : decode cL_law 1164 = .ok (.aload_n 3, 1) := dw_at dwl_9 (p := 84) rfl (by decide +kernel)
theorem dz_1165 : decode cL_law 1165 = .ok (.invokestatic 223, 3) := dw_at dwl_9 (p := 85) rfl (by decide +kernel)
theorem dz_1168 : decode cL_law 1168 = .ok (.istore 5, 2) := dw_at dwl_9 (p := 88) rfl (by decide +kernel)
theorem dz_1170 : decode cL_law 1170 = .ok (.aload_n 2, 1) := dw_at dwl_9 (p := 90) rfl (by decide +kernel)
theorem dz_1171 : decode cL_law 1171 = .ok (.aload_n 0, 1) := dw_at dwl_9 (p := 91) rfl (by decide +kernel)
theorem dz_1172 : decode cL_law 1172 = .ok (.iload 4, 2) := dw_at dwl_9 (p := 92) rfl (by decide +kernel)
theorem dz_1174 : decode cL_law 1174 = .ok (.iconst 1, 1) := dw_at dwl_9 (p := 94) rfl (by decide +kernel)
theorem dz_1175 : decode cL_law 1175 = .ok (.iadd, 1) := dw_at dwl_9 (p := 95) rfl (by decide +kernel)
theorem dz_1176 : decode cL_law 1176 = .ok (.iaload, 1) := dw_at dwl_9 (p := 96) rfl (by decide +kernel)
theorem dz_1177 : decode cL_law 1177 = .ok (.aload_n 0, 1) := dw_at dwl_9 (p := 97) rfl (by decide +kernel)
theorem dz_1178 : decode cL_law 1178 = .ok (.iload 4, 2) := dw_at dwl_9 (p := 98) rfl (by decide +kernel)
theorem dz_1180 : decode cL_law 1180 = .ok (.iconst 2, 1) := dw_at dwl_9 (p := 100) rfl (by decide +kernel)
theorem dz_1181 : decode cL_law 1181 = .ok (.iadd, 1) := dw_at dwl_9 (p := 101) rfl (by decide +kernel)
theorem dz_1182 : decode cL_law 1182 = .ok (.iaload, 1) := dw_at dwl_9 (p := 102) rfl (by decide +kernel)
theorem dz_1183 : decode cL_law 1183 = .ok (.invokevirtual 225, 3) := dw_at dwl_9 (p := 103) rfl (by decide +kernel)
theorem dz_1186 : decode cL_law 1186 = .ok (.istore 6, 2) := dw_at dwl_9 (p := 106) rfl (by decide +kernel)
theorem dz_1188 : decode cL_law 1188 = .ok (.goto 505, 3) := dw_at dwl_9 (p := 108) rfl (by decide +kernel)
def ltp_cover (vl : Nat → Nat) (K : Nat) (x1 : Int32) (x2 : Int32) (x3 : Int32) (x4 : Int32) (x5 : Int32) (zc zm : ow_MS) : Option ow_LwS :=
 cs1 (le_L_cover vl K 0 x1 x2 zc) fun v2 zc1 => cs1 (qe_X13_cover K x1 x2 zm) fun v4 zm3 => some (vl, zc1, zm3)
set_option maxHeartbeats 4000000 in
set_option maxRecDepth 100000 in
theorem lxc_cover {p : Program} {l : Launch} {e : Env} {s : State} {m : MethodId} {args : Array Value} {below : List Frame} {meth : Method} {c : Code} {b L K n : Nat} {xs : Nat → Int32} {D : va_G} {q : Nat → ClassId} {q5 : ow_Q5} {vl u w sa : Nat → Nat} {zc zm : ow_MS} {S1 : ow_LwS} {Ts : List Cond} {Q : State → Prop} {H : Heap} {locs : List Loc} {ls : Array Slot} {cells slots : Nat} (hx : p.tables.exec = Jvm.exec) (hb : c.code = cL_law) (hml : c.maxLocals = 8) (hown : s.vm.findClass RL = some m.cls) (hts : ∀ w ∈ Ts, w.before args s = true) (hX : va_X b L xs s s.heap) (hbl : b < s.heap.size) (hZ : ∀ w ∈ wZ, w ∈ Ts) (hL1 : ∀ w ∈ wLL, w ∈ Ts) (hC1 : ∀ w ∈ wC, w ∈ Ts) (hM1 : ∀ w ∈ wM, w ∈ Ts) (hG : lx_G l s D q q5 sa) (hLn : L ≤ 3072) (hn : 6 * n + 6 ≤ L) (hq : ltp_cover vl K (xs (6 * n + 1)) (xs (6 * n + 2)) (xs (6 * n + 3)) (xs (6 * n + 4)) (xs (6 * n + 5)) zc zm = some S1) (hM : lx_M D q q5 s vl u w zc zm H locs) (hl : lv_has ls 8 [(0, .ref b), (1, .ref (u 0)), (2, .ref (w 0)), (3, .ref (u 52001)), (4, .int (nI (6 * n)))]) (hc : cells + 1 ≤ 601024) (hs : slots + 6 ≤ 7293033) (kk : ∀ (zc1 zm1 : ow_MS) (H1 : Heap) (locs1 : List Loc) (ls1 : Array Slot), lx_M D q q5 s vl u w zc1 zm1 H1 locs1 → lv_has ls1 8 [(0, .ref b), (1, .ref (u 0)), (2, .ref (w 0)), (3, .ref (u 52001)), (4, .int (nI (6 * n)))] → some (vl, zc1, zm1) = some S1 → W p l e room_1 s m args below meth c H1 locs1 (cells + 1) (slots + 6) Q (F0 m 1693 ls1 [])) : W p l e room_1 s m args below meth c H locs cells slots Q (F0 m 1151 ls []) := by
  have hbA : ¬ lx_A s b := Nat.not_le.mpr hbl
  generalize e1 : xs (6 * n + 1) = x1 at hq
  generalize e2 : xs (6 * n + 2) = x2 at hq
  generalize e3 : xs (6 * n + 3) = x3 at hq
  generalize e4 : xs (6 * n + 4) = x4 at hq
  generalize e5 : xs (6 * n + 5) = x5 at hq
  unfold ltp_cover at hq
  refine lv_aload_n hx hb dz_1151 rfl (lv_at hl 1 rfl) ?_
  refine lv_aload_n hx hb dz_1152 rfl (lv_at hl 0 rfl) ?_
  refine lv_iload hx hb dz_1153 (lv_at hl 4 rfl) ?_
  refine lv_iconst (v := 1) hx hb dz_1155 (by decide) ?_
  refine lv_iadd hx hb dz_1156 ?_
  refine ow_topi (y := nI (6 * n + 1)) (nI_add (6 * n) 1) ?_
  refine va_sld hx hb hX hbl hbA hM.2.2.2.2.2 (vp_in_nI (n := 6 * n + 1) (N := L) (by omega) (by omega)) dz_1157 ?_
  refine ow_topi (y := x1) ((congrArg xs (nI_clamp (by omega))).trans e1) ?_
  refine lv_aload_n hx hb dz_1158 rfl (lv_at hl 0 rfl) ?_
  refine lv_iload hx hb dz_1159 (lv_at hl 4 rfl) ?_
  refine lv_iconst (v := 2) hx hb dz_1161 (by decide) ?_
  refine lv_iadd hx hb dz_1162 ?_
  refine ow_topi (y := nI (6 * n + 2)) (nI_add (6 * n) 2) ?_
  refine va_sld hx hb hX hbl hbA hM.2.2.2.2.2 (vp_in_nI (n := 6 * n + 2) (N := L) (by omega) (by omega)) dz_1163 ?_
  refine ow_topi (y := x2) ((congrArg xs (nI_clamp (by omega))).trans e2) ?_
  refine lv_aload_n hx hb dz_1164 rfl (lv_at hl 3 rfl) ?_
  obtain ⟨v2, zc1, hcq, hq⟩ := tw_cl1 hq
  refine lx_wrap hM (vx_runSX (As := [.ref (u 0), .int x1, .int x2, .ref (u 52001)]) (rest := []) ⟨hx, hb, hml, hown, hts⟩ (kl_L_cover l D q vl u hM.2.2.1.1 hG.1 sa K 0 x1 x2 (by unfold cw_X11 ci_X11; exact List.mem_singleton.mpr rfl) zc zc1 v2 hcq) (vx_cwSW 4 hts (lx_gS (lx_all wLL_good rfl) (lx_mem hL1 (hZ _ zq_185)) (hZ _ zq_186) (hZ _ zq_187) (hZ _ zq_3) rfl rfl rfl) rfl rfl rfl (by decide +kernel) ⟨(Nat.le_of_ble_eq_true rfl), (Nat.le_of_ble_eq_true rfl)⟩) (lx_preL hG hM) rfl rfl hl.1 rfl (lv_room (Nat.le_of_ble_eq_true rfl)) dz_1165 ⟨(by show _ ≤ 601024; omega), (by show _ ≤ 7293033; omega)⟩) (fun H locs hM => ?_)
  refine lv_istore (lv' := [(5, .int v2), (0, .ref b), (1, .ref (u 0)), (2, .ref (w 0)), (3, .ref (u 52001)), (4, .int (nI (6 * n)))]) hx hb dz_1168 hl (by decide) rfl (fun ls hl => ?_)
  refine lv_aload_n hx hb dz_1170 rfl (lv_at hl 3 rfl) ?_
  refine lv_aload_n hx hb dz_1171 rfl (lv_at hl 1 rfl) ?_
  refine lv_iload hx hb dz_1172 (lv_at hl 5 rfl) ?_
  refine lv_iconst (v := 1) hx hb dz_1174 (by decide) ?_
  refine lv_iadd hx hb dz_1175 ?_
  refine ow_topi (y := nI (6 * n + 1)) (nI_add (6 * n) 1) ?_
  refine va_sld hx hb hX hbl hbA hM.2.2.2.2.2 (vp_in_nI (n := 6 * n + 1) (N := L) (by omega) (by omega)) dz_1176 ?_
  refine ow_topi (y := x1) ((congrArg xs (nI_clamp (by omega))).trans e1) ?_
  refine lv_aload_n hx hb dz_1177 rfl (lv_at hl 1 rfl) ?_
  refine lv_iload hx hb dz_1178 (lv_at hl 5 rfl) ?_
  refine lv_iconst (v := 2) hx hb dz_1180 (by decide) ?_
  refine lv_iadd hx hb dz_1181 ?_
  refine ow_topi (y := nI (6 * n + 2)) (nI_add (6 * n) 2) ?_
  refine va_sld hx hb hX hbl hbA hM.2.2.2.2.2 (vp_in_nI (n := 6 * n + 2) (N := L) (by omega) (by omega)) dz_1182 ?_
  refine ow_topi (y := x2) ((congrArg xs (nI_clamp (by omega))).trans e2) ?_
  obtain ⟨v4, zm3, hcq, hq⟩ := tw_cl1 hq
  refine lx_refi hM (va_runV (As := [.int x1, .int x2]) (rest := []) ⟨hx, hb, hml, hown, hts⟩ (km_X13_cover l D q5 w hM.2.2.2.1.1 K x1 x2 zm zm3 v4 hcq) (cwV 2 hts (lx_gV (lx_all wM_good rfl) (lx_mem hM1 (hZ _ zq_188)) (hZ _ zq_189) (hZ _ zq_190) (hZ _ zq_191) (hZ _ zq_8) rfl rfl rfl rfl) rfl rfl rfl cd_X13_cover ⟨(Nat.le_of_ble_eq_true rfl), (Nat.le_of_ble_eq_true rfl)⟩) (lx_preM hG hM) rfl rfl hl.1 rfl (lv_room (Nat.le_of_ble_eq_true rfl)) dz_1183 ⟨(by show _ ≤ 601024; omega), (by show _ ≤ 7293033; omega)⟩) (fun H locs hM => ?_)
  refine lv_istore (lv' := [(6, .int v4), (5, .int v2), (0, .ref b), (1, .ref (u 0)), (2, .ref (w 0)), (3, .ref (u 52001)), (4, .int (nI (6 * n)))]) hx hb dz_1186 hl (by decide) rfl (fun ls hl => ?_)
  refine lv_goto (tgt := 1693) hx hb dz_1188 (by decide) ?_
  exact kk _ _ H locs ls hM (lv_sub hl [2, 3, 4, 5, 6] rfl) hq
theorem dz_1191 : decode cL_law 1191 = .ok (.aload_n 1, 1) := dw_at dwl_9 (p := 111) rfl (by decide +kernel)
theorem dz_1192 : decode cL_law 1192 = .ok (.aload_n 0, 1) := dw_at dwl_9 (p := 112) rfl (by decide +kernel)
theorem dz_1193 : decode cL_law 1193 = .ok (.iload 4, 2) := dw_at dwl_9 (p := 113) rfl (by decide +kernel)
theorem dz_1195 : decode cL_law 1195 = .ok (.iconst 1, 1) := dw_at dwl_9 (p := 115) rfl (by decide +kernel)
theorem dz_1196 : decode cL_law 1196 = .ok (.iadd, 1) := dw_at dwl_9 (p := 116) rfl (by decide +kernel)
theorem dz_1197 : decode cL_law 1197 = .ok (.iaload, 1) := dw_at dwl_9 (p := 117) rfl (by decide +kernel)
theorem dz_1198 : decode cL_law 1198 = .ok (.aload_n 0, 1) := dw_at dwl_9 (p := 118) rfl (by decide +kernel)
theorem dz_1199 : decode cL_law 1199 = .ok (.iload 4, 2) := dw_at dwl_9 (p := 119) rfl (by decide +kernel)
theorem dz_1201 : decode cL_law 1201 = .ok (.iconst 2, 1) := dw_at dwl_10 (p := 1) rfl (by decide +kernel)
theorem dz_1202 : decode cL_law 1202 = .ok (.iadd, 1) := dw_at dwl_10 (p := 2) rfl (by decide +kernel)
theorem dz_1203 : decode cL_law 1203 = .ok (.iaload, 1) := dw_at dwl_10 (p := 3) rfl (by decide +kernel)
theorem dz_1204 : decode cL_law 1204 = .ok (.aload_n 3, 1) := dw_at dwl_10 (p := 4) rfl (by decide +kernel)
theorem dz_1205 : decode cL_law 1205 = .ok (.invokestatic 226, 3) := dw_at dwl_10 (p := 5) rfl (by decide +kernel)
theorem dz_1208 : decode cL_law 1208 = .ok (.istore 5, 2) := dw_at dwl_10 (p := 8) rfl (by decide +kernel)
theorem dz_1210 : decode cL_law 1210 = .ok (.aload_n 2, 1) := dw_at dwl_10 (p := 10) rfl (by decide +kernel)
theorem dz_1211 : decode cL_law 1211 = .ok (.aload_n 0, 1) := dw_at dwl_10 (p := 11) rfl (by decide +kernel)
theorem dz_1212 : decode cL_law 1212 = .ok (.iload 4, 2) := dw_at dwl_10 (p := 12) rfl (by decide +kernel)
theorem dz_1214 : decode cL_law 1214 = .ok (.iconst 1, 1) := dw_at dwl_10 (p := 14) rfl (by decide +kernel)
theorem dz_1215 : decode cL_law 1215 = .ok (.iadd, 1) := dw_at dwl_10 (p := 15) rfl (by decide +kernel)
theorem dz_1216 : decode cL_law 1216 = .ok (.iaload, 1) := dw_at dwl_10 (p := 16) rfl (by decide +kernel)
theorem dz_1217 : decode cL_law 1217 = .ok (.aload_n 0, 1) := dw_at dwl_10 (p := 17) rfl (by decide +kernel)
theorem dz_1218 : decode cL_law 1218 = .ok (.iload 4, 2) := dw_at dwl_10 (p := 18) rfl (by decide +kernel)
theorem dz_1220 : decode cL_law 1220 = .ok (.iconst 2, 1) := dw_at dwl_10 (p := 20) rfl (by decide +kernel)
theorem dz_1221 : decode cL_law 1221 = .ok (.iadd, 1) := dw_at dwl_10 (p := 21) rfl (by decide +kernel)
theorem dz_1222 : decode cL_law 1222 = .ok (.iaload, 1) := dw_at dwl_10 (p := 22) rfl (by decide +kernel)
theorem dz_1223 : decode cL_law 1223 = .ok (.invokevirtual 228, 3) := dw_at dwl_10 (p := 23) rfl (by decide +kernel)
theorem dz_1226 : decode cL_law 1226 = .ok (.lstore 6, 2) := dw_at dwl_10 (p := 26) rfl (by decide +kernel)
theorem dz_1228 : decode cL_law 1228 = .ok (.goto 465, 3) := dw_at dwl_10 (p := 28) rfl (by decide +kernel)
def ltp_colours (vl : Nat → Nat) (K : Nat) (x1 : Int32) (x2 : Int32) (x3 : Int32) (x4 : Int32) (x5 : Int32) (zc zm : ow_MS) : Option ow_LwS :=
 cs1 (le_L_colours vl K 0 x1 x2 zc) fun v2 zc1 => cs1 (qe_X13_colours K x1 x2 zm) fun v4 zm3 => some (vl, zc1, zm3)
set_option maxHeartbeats 4000000 in
set_option maxRecDepth 100000 in
theorem lxc_colours {p : Program} {l : Launch} {e : Env} {s : State} {m : MethodId} {args : Array Value} {below : List Frame} {meth : Method} {c : Code} {b L K n : Nat} {xs : Nat → Int32} {D : va_G} {q : Nat → ClassId} {q5 : ow_Q5} {vl u w sa : Nat → Nat} {zc zm : ow_MS} {S1 : ow_LwS} {Ts : List Cond} {Q : State → Prop} {H : Heap} {locs : List Loc} {ls : Array Slot} {cells slots : Nat} (hx : p.tables.exec = Jvm.exec) (hb : c.code = cL_law) (hml : c.maxLocals = 8) (hown : s.vm.findClass RL = some m.cls) (hts : ∀ w ∈ Ts, w.before args s = true) (hX : va_X b L xs s s.heap) (hbl : b < s.heap.size) (hZ : ∀ w ∈ wZ, w ∈ Ts) (hL1 : ∀ w ∈ wLL, w ∈ Ts) (hC1 : ∀ w ∈ wC, w ∈ Ts) (hM1 : ∀ w ∈ wM, w ∈ Ts) (hG : lx_G l s D q q5 sa) (hLn : L ≤ 3072) (hn : 6 * n + 6 ≤ L) (hq : ltp_colours vl K (xs (6 * n + 1)) (xs (6 * n + 2)) (xs (6 * n + 3)) (xs (6 * n + 4)) (xs (6 * n + 5)) zc zm = some S1) (hM : lx_M D q q5 s vl u w zc zm H locs) (hl : lv_has ls 8 [(0, .ref b), (1, .ref (u 0)), (2, .ref (w 0)), (3, .ref (u 52001)), (4, .int (nI (6 * n)))]) (hc : cells + 2 ≤ 601024) (hs : slots + 12 ≤ 7293033) (kk : ∀ (zc1 zm1 : ow_MS) (H1 : Heap) (locs1 : List Loc) (ls1 : Array Slot), lx_M D q q5 s vl u w zc1 zm1 H1 locs1 → lv_has ls1 8 [(0, .ref b), (1, .ref (u 0)), (2, .ref (w 0)), (3, .ref (u 52001)), (4, .int (nI (6 * n)))] → some (vl, zc1, zm1) = some S1 → W p l e room_1 s m args below meth c H1 locs1 (cells + 2) (slots + 12) Q (F0 m 1693 ls1 [])) : W p l e room_1 s m args below meth c H locs cells slots Q (F0 m 1191 ls []) := by
  have hbA : ¬ lx_A s b := Nat.not_le.mpr hbl
  generalize e1 : xs (6 * n + 1) = x1 at hq
  generalize e2 : xs (6 * n + 2) = x2 at hq
  generalize e3 : xs (6 * n + 3) = x3 at hq
  generalize e4 : xs (6 * n + 4) = x4 at hq
  generalize e5 : xs (6 * n + 5) = x5 at hq
  unfold ltp_colours at hq
  refine lv_aload_n hx hb dz_1191 rfl (lv_at hl 1 rfl) ?_
  refine lv_aload_n hx hb dz_1192 rfl (lv_at hl 0 rfl) ?_
  refine lv_iload hx hb dz_1193 (lv_at hl 4 rfl) ?_
  refine lv_iconst (v := 1) hx hb dz_1195 (by decide) ?_
  refine lv_iadd hx hb dz_1196 ?_
  refine ow_topi (y := nI (6 * n + 1)) (nI_add (6 * n) 1) ?_
  refine va_sld hx hb hX hbl hbA hM.2.2.2.2.2 (vp_in_nI (n := 6 * n + 1) (N := L) (by omega) (by omega)) dz_1197 ?_
  refine ow_topi (y := x1) ((congrArg xs (nI_clamp (by omega))).trans e1) ?_
  refine lv_aload_n hx hb dz_1198 rfl (lv_at hl 0 rfl) ?_
  refine lv_iload hx hb dz_1199 (lv_at hl 4 rfl) ?_
  refine lv_iconst (v := 2) hx hb dz_1201 (by decide) ?_
  refine lv_iadd hx hb dz_1202 ?_
  refine ow_topi (y := nI (6 * n + 2)) (nI_add (6 * n) 2) ?_
  refine va_sld hx hb hX hbl hbA hM.2.2.2.2.2 (vp_in_nI (n := 6 * n + 2) (N := L) (by omega) (by omega)) dz_1203 ?_
  refine ow_topi (y := x2) ((congrArg xs (nI_clamp (by omega))).trans e2) ?_
  refine lv_aload_n hx hb dz_1204 rfl (lv_at hl 3 rfl) ?_
  obtain ⟨v2, zc1, hcq, hq⟩ := tw_cl1 hq
  refine lx_wrap hM (vx_runSX (As := [.ref (u 0), .int x1, .int x2, .ref (u 52001)]) (rest := []) ⟨hx, hb, hml, hown, hts⟩ (kl_L_colours l D q vl u hM.2.2.1.1 hG.1 sa K 0 x1 x2 (by unfold cw_X11 ci_X11; exact List.mem_singleton.mpr rfl) zc zc1 v2 hcq) (vx_cwSW 4 hts (lx_gS (lx_all wLL_good rfl) (lx_mem hL1 (hZ _ zq_192)) (hZ _ zq_193) (hZ _ zq_194) (hZ _ zq_3) rfl rfl rfl) rfl rfl rfl (by decide +kernel) ⟨(Nat.le_of_ble_eq_true rfl), (Nat.le_of_ble_eq_true rfl)⟩) (lx_preL hG hM) rfl rfl hl.1 rfl (lv_room (Nat.le_of_ble_eq_true rfl)) dz_1205 ⟨(by show _ ≤ 601024; omega), (by show _ ≤ 7293033; omega)⟩) (fun H locs hM => ?_)
  refine lv_istore (lv' := [(5, .int v2), (0, .ref b), (1, .ref (u 0)), (2, .ref (w 0)), (3, .ref (u 52001)), (4, .int (nI (6 * n)))]) hx hb dz_1208 hl (by decide) rfl (fun ls hl => ?_)
  refine lv_aload_n hx hb dz_1210 rfl (lv_at hl 3 rfl) ?_
  refine lv_aload_n hx hb dz_1211 rfl (lv_at hl 1 rfl) ?_
  refine lv_iload hx hb dz_1212 (lv_at hl 5 rfl) ?_
  refine lv_iconst (v := 1) hx hb dz_1214 (by decide) ?_
  refine lv_iadd hx hb dz_1215 ?_
  refine ow_topi (y := nI (6 * n + 1)) (nI_add (6 * n) 1) ?_
  refine va_sld hx hb hX hbl hbA hM.2.2.2.2.2 (vp_in_nI (n := 6 * n + 1) (N := L) (by omega) (by omega)) dz_1216 ?_
  refine ow_topi (y := x1) ((congrArg xs (nI_clamp (by omega))).trans e1) ?_
  refine lv_aload_n hx hb dz_1217 rfl (lv_at hl 1 rfl) ?_
  refine lv_iload hx hb dz_1218 (lv_at hl 5 rfl) ?_
  refine lv_iconst (v := 2) hx hb dz_1220 (by decide) ?_
  refine lv_iadd hx hb dz_1221 ?_
  refine ow_topi (y := nI (6 * n + 2)) (nI_add (6 * n) 2) ?_
  refine va_sld hx hb hX hbl hbA hM.2.2.2.2.2 (vp_in_nI (n := 6 * n + 2) (N := L) (by omega) (by omega)) dz_1222 ?_
  refine ow_topi (y := x2) ((congrArg xs (nI_clamp (by omega))).trans e2) ?_
  obtain ⟨v4, zm3, hcq, hq⟩ := tw_cl1 hq
  refine lx_refl hM (va_runV (As := [.int x1, .int x2]) (rest := []) ⟨hx, hb, hml, hown, hts⟩ (km_X13_colours l D q5 w hM.2.2.2.1.1 K x1 x2 zm zm3 v4 hcq) (cwV 2 hts (lx_gV (lx_all wM_good rfl) (lx_mem hM1 (hZ _ zq_195)) (hZ _ zq_196) (hZ _ zq_197) (hZ _ zq_198) (hZ _ zq_8) rfl rfl rfl rfl) rfl rfl rfl cd_X13_colours ⟨(Nat.le_of_ble_eq_true rfl), (Nat.le_of_ble_eq_true rfl)⟩) (lx_preM hG hM) rfl rfl hl.1 rfl (lv_room (Nat.le_of_ble_eq_true rfl)) dz_1223 ⟨(by show _ ≤ 601024; omega), (by show _ ≤ 7293033; omega)⟩) (fun H locs hM => ?_)
  refine lv_lstore (lv' := [(6, .long v4), (5, .int v2), (0, .ref b), (1, .ref (u 0)), (2, .ref (w 0)), (3, .ref (u 52001)), (4, .int (nI (6 * n)))]) hx hb dz_1226 hl (by decide) rfl (fun ls hl => ?_)
  refine lv_goto (tgt := 1693) hx hb dz_1228 (by decide) ?_
  exact kk _ _ H locs ls hM (lv_sub hl [2, 3, 4, 5, 6] rfl) hq
theorem dz_1231 : decode cL_law 1231 = .ok (.aload_n 1, 1) := dw_at dwl_10 (p := 31) rfl (by decide +kernel)
theorem dz_1232 : decode cL_law 1232 = .ok (.aload_n 0, 1) := dw_at dwl_10 (p := 32) rfl (by decide +kernel)
theorem dz_1233 : decode cL_law 1233 = .ok (.iload 4, 2) := dw_at dwl_10 (p := 33) rfl (by decide +kernel)
theorem dz_1235 : decode cL_law 1235 = .ok (.iconst 1, 1) := dw_at dwl_10 (p := 35) rfl (by decide +kernel)
theorem dz_1236 : decode cL_law 1236 = .ok (.iadd, 1) := dw_at dwl_10 (p := 36) rfl (by decide +kernel)
theorem dz_1237 : decode cL_law 1237 = .ok (.iaload, 1) := dw_at dwl_10 (p := 37) rfl (by decide +kernel)
theorem dz_1238 : decode cL_law 1238 = .ok (.aload_n 0, 1) := dw_at dwl_10 (p := 38) rfl (by decide +kernel)
theorem dz_1239 : decode cL_law 1239 = .ok (.iload 4, 2) := dw_at dwl_10 (p := 39) rfl (by decide +kernel)
theorem dz_1241 : decode cL_law 1241 = .ok (.iconst 2, 1) := dw_at dwl_10 (p := 41) rfl (by decide +kernel)
theorem dz_1242 : decode cL_law 1242 = .ok (.iadd, 1) := dw_at dwl_10 (p := 42) rfl (by decide +kernel)
theorem dz_1243 : decode cL_law 1243 = .ok (.iaload, 1) := dw_at dwl_10 (p := 43) rfl (by decide +kernel)
theorem dz_1244 : decode cL_law 1244 = .ok (.aload_n 3, 1) := dw_at dwl_10 (p := 44) rfl (by decide +kernel)
theorem dz_1245 : decode cL_law 1245 = .ok (.invokestatic 229, 3) := dw_at dwl_10 (p := 45) rfl (by decide +kernel)
theorem dz_1248 : decode cL_law 1248 = .ok (.istore 5, 2) := dw_at dwl_10 (p := 48) rfl (by decide +kernel)
theorem dz_1250 : decode cL_law 1250 = .ok (.aload_n 2, 1) := dw_at dwl_10 (p := 50) rfl (by decide +kernel)
theorem dz_1251 : decode cL_law 1251 = .ok (.aload_n 0, 1) := dw_at dwl_10 (p := 51) rfl (by decide +kernel)
theorem dz_1252 : decode cL_law 1252 = .ok (.iload 4, 2) := dw_at dwl_10 (p := 52) rfl (by decide +kernel)
theorem dz_1254 : decode cL_law 1254 = .ok (.iconst 1, 1) := dw_at dwl_10 (p := 54) rfl (by decide +kernel)
theorem dz_1255 : decode cL_law 1255 = .ok (.iadd, 1) := dw_at dwl_10 (p := 55) rfl (by decide +kernel)
theorem dz_1256 : decode cL_law 1256 = .ok (.iaload, 1) := dw_at dwl_10 (p := 56) rfl (by decide +kernel)
theorem dz_1257 : decode cL_law 1257 = .ok (.aload_n 0, 1) := dw_at dwl_10 (p := 57) rfl (by decide +kernel)
theorem dz_1258 : decode cL_law 1258 = .ok (.iload 4, 2) := dw_at dwl_10 (p := 58) rfl (by decide +kernel)
theorem dz_1260 : decode cL_law 1260 = .ok (.iconst 2, 1) := dw_at dwl_10 (p := 60) rfl (by decide +kernel)
theorem dz_1261 : decode cL_law 1261 = .ok (.iadd, 1) := dw_at dwl_10 (p := 61) rfl (by decide +kernel)
theorem dz_1262 : decode cL_law 1262 = .ok (.iaload, 1) := dw_at dwl_10 (p := 62) rfl (by decide +kernel)
theorem dz_1263 : decode cL_law 1263 = .ok (.invokevirtual 231, 3) := dw_at dwl_10 (p := 63) rfl (by decide +kernel)
theorem dz_1266 : decode cL_law 1266 = .ok (.istore 6, 2) := dw_at dwl_10 (p := 66) rfl (by decide +kernel)
theorem dz_1268 : decode cL_law 1268 = .ok (.goto 425, 3) := dw_at dwl_10 (p := 68) rfl (by decide +kernel)
def ltp_maps (vl : Nat → Nat) (K : Nat) (x1 : Int32) (x2 : Int32) (x3 : Int32) (x4 : Int32) (x5 : Int32) (zc zm : ow_MS) : Option ow_LwS :=
 cs1 (le_L_maps vl K 0 x1 x2 zc) fun v2 zc1 => cs1 (qe_X13_maps K x1 x2 zm) fun v4 zm3 => some (vl, zc1, zm3)
set_option maxHeartbeats 4000000 in
set_option maxRecDepth 100000 in
theorem lxc_maps {p : Program} {l : Launch} {e : Env} {s : State} {m : MethodId} {args : Array Value} {below : List Frame} {meth : Method} {c : Code} {b L K n : Nat} {xs : Nat → Int32} {D : va_G} {q : Nat → ClassId} {q5 : ow_Q5} {vl u w sa : Nat → Nat} {zc zm : ow_MS} {S1 : ow_LwS} {Ts : List Cond} {Q : State → Prop} {H : Heap} {locs : List Loc} {ls : Array Slot} {cells slots : Nat} (hx : p.tables.exec = Jvm.exec) (hb : c.code = cL_law) (hml : c.maxLocals = 8) (hown : s.vm.findClass RL = some m.cls) (hts : ∀ w ∈ Ts, w.before args s = true) (hX : va_X b L xs s s.heap) (hbl : b < s.heap.size) (hZ : ∀ w ∈ wZ, w ∈ Ts) (hL1 : ∀ w ∈ wLL, w ∈ Ts) (hC1 : ∀ w ∈ wC, w ∈ Ts) (hM1 : ∀ w ∈ wM, w ∈ Ts) (hG : lx_G l s D q q5 sa) (hLn : L ≤ 3072) (hn : 6 * n + 6 ≤ L) (hq : ltp_maps vl K (xs (6 * n + 1)) (xs (6 * n + 2)) (xs (6 * n + 3)) (xs (6 * n + 4)) (xs (6 * n + 5)) zc zm = some S1) (hM : lx_M D q q5 s vl u w zc zm H locs) (hl : lv_has ls 8 [(0, .ref b), (1, .ref (u 0)), (2, .ref (w 0)), (3, .ref (u 52001)), (4, .int (nI (6 * n)))]) (hc : cells + 2 ≤ 601024) (hs : slots + 12 ≤ 7293033) (kk : ∀ (zc1 zm1 : ow_MS) (H1 : Heap) (locs1 : List Loc) (ls1 : Array Slot), lx_M D q q5 s vl u w zc1 zm1 H1 locs1 → lv_has ls1 8 [(0, .ref b), (1, .ref (u 0)), (2, .ref (w 0)), (3, .ref (u 52001)), (4, .int (nI (6 * n)))] → some (vl, zc1, zm1) = some S1 → W p l e room_1 s m args below meth c H1 locs1 (cells + 2) (slots + 12) Q (F0 m 1693 ls1 [])) : W p l e room_1 s m args below meth c H locs cells slots Q (F0 m 1231 ls []) := by
  have hbA : ¬ lx_A s b := Nat.not_le.mpr hbl
  generalize e1 : xs (6 * n + 1) = x1 at hq
  generalize e2 : xs (6 * n + 2) = x2 at hq
  generalize e3 : xs (6 * n + 3) = x3 at hq
  generalize e4 : xs (6 * n + 4) = x4 at hq
  generalize e5 : xs (6 * n + 5) = x5 at hq
  unfold ltp_maps at hq
  refine lv_aload_n hx hb dz_1231 rfl (lv_at hl 1 rfl) ?_
  refine lv_aload_n hx hb dz_1232 rfl (lv_at hl 0 rfl) ?_
  refine lv_iload hx hb dz_1233 (lv_at hl 4 rfl) ?_
  refine lv_iconst (v := 1) hx hb dz_1235 (by decide) ?_
  refine lv_iadd hx hb dz_1236 ?_
  refine ow_topi (y := nI (6 * n + 1)) (nI_add (6 * n) 1) ?_
  refine va_sld hx hb hX hbl hbA hM.2.2.2.2.2 (vp_in_nI (n := 6 * n + 1) (N := L) (by omega) (by omega)) dz_1237 ?_
  refine ow_topi (y := x1) ((congrArg xs (nI_clamp (by omega))).trans e1) ?_
  refine lv_aload_n hx hb dz_1238 rfl (lv_at hl 0 rfl) ?_
  refine lv_iload hx hb dz_1239 (lv_at hl 4 rfl) ?_
  refine lv_iconst (v := 2) hx hb dz_1241 (by decide) ?_
  refine lv_iadd hx hb dz_1242 ?_
  refine ow_topi (y := nI (6 * n + 2)) (nI_add (6 * n) 2) ?_
  refine va_sld hx hb hX hbl hbA hM.2.2.2.2.2 (vp_in_nI (n := 6 * n + 2) (N := L) (by omega) (by omega)) dz_1243 ?_
  refine ow_topi (y := x2) ((congrArg xs (nI_clamp (by omega))).trans e2) ?_
  refine lv_aload_n hx hb dz_1244 rfl (lv_at hl 3 rfl) ?_
  obtain ⟨v2, zc1, hcq, hq⟩ := tw_cl1 hq
  refine lx_wrap hM (vx_runSX (As := [.ref (u 0), .int x1, .int x2, .ref (u 52001)]) (rest := []) ⟨hx, hb, hml, hown, hts⟩ (kl_L_maps l D q vl u hM.2.2.1.1 hG.1 sa K 0 x1 x2 (by unfold cw_X11 ci_X11; exact List.mem_singleton.mpr rfl) zc zc1 v2 hcq) (vx_cwSW 4 hts (lx_gS (lx_all wLL_good rfl) (lx_mem hL1 (hZ _ zq_199)) (hZ _ zq_200) (hZ _ zq_201) (hZ _ zq_3) rfl rfl rfl) rfl rfl rfl (by decide +kernel) ⟨(Nat.le_of_ble_eq_true rfl), (Nat.le_of_ble_eq_true rfl)⟩) (lx_preL hG hM) rfl rfl hl.1 rfl (lv_room (Nat.le_of_ble_eq_true rfl)) dz_1245 ⟨(by show _ ≤ 601024; omega), (by show _ ≤ 7293033; omega)⟩) (fun H locs hM => ?_)
  refine lv_istore (lv' := [(5, .int v2), (0, .ref b), (1, .ref (u 0)), (2, .ref (w 0)), (3, .ref (u 52001)), (4, .int (nI (6 * n)))]) hx hb dz_1248 hl (by decide) rfl (fun ls hl => ?_)
  refine lv_aload_n hx hb dz_1250 rfl (lv_at hl 3 rfl) ?_
  refine lv_aload_n hx hb dz_1251 rfl (lv_at hl 1 rfl) ?_
  refine lv_iload hx hb dz_1252 (lv_at hl 5 rfl) ?_
  refine lv_iconst (v := 1) hx hb dz_1254 (by decide) ?_
  refine lv_iadd hx hb dz_1255 ?_
  refine ow_topi (y := nI (6 * n + 1)) (nI_add (6 * n) 1) ?_
  refine va_sld hx hb hX hbl hbA hM.2.2.2.2.2 (vp_in_nI (n := 6 * n + 1) (N := L) (by omega) (by omega)) dz_1256 ?_
  refine ow_topi (y := x1) ((congrArg xs (nI_clamp (by omega))).trans e1) ?_
  refine lv_aload_n hx hb dz_1257 rfl (lv_at hl 1 rfl) ?_
  refine lv_iload hx hb dz_1258 (lv_at hl 5 rfl) ?_
  refine lv_iconst (v := 2) hx hb dz_1260 (by decide) ?_
  refine lv_iadd hx hb dz_1261 ?_
  refine ow_topi (y := nI (6 * n + 2)) (nI_add (6 * n) 2) ?_
  refine va_sld hx hb hX hbl hbA hM.2.2.2.2.2 (vp_in_nI (n := 6 * n + 2) (N := L) (by omega) (by omega)) dz_1262 ?_
  refine ow_topi (y := x2) ((congrArg xs (nI_clamp (by omega))).trans e2) ?_
  obtain ⟨v4, zm3, hcq, hq⟩ := tw_cl1 hq
  refine lx_refi hM (va_runV (As := [.int x1, .int x2]) (rest := []) ⟨hx, hb, hml, hown, hts⟩ (km_X13_maps l D q5 w hM.2.2.2.1.1 K x1 x2 zm zm3 v4 hcq) (cwV 2 hts (lx_gV (lx_all wM_good rfl) (lx_mem hM1 (hZ _ zq_202)) (hZ _ zq_203) (hZ _ zq_204) (hZ _ zq_205) (hZ _ zq_8) rfl rfl rfl rfl) rfl rfl rfl cd_X13_maps ⟨(Nat.le_of_ble_eq_true rfl), (Nat.le_of_ble_eq_true rfl)⟩) (lx_preM hG hM) rfl rfl hl.1 rfl (lv_room (Nat.le_of_ble_eq_true rfl)) dz_1263 ⟨(by show _ ≤ 601024; omega), (by show _ ≤ 7293033; omega)⟩) (fun H locs hM => ?_)
  refine lv_istore (lv' := [(6, .int v4), (5, .int v2), (0, .ref b), (1, .ref (u 0)), (2, .ref (w 0)), (3, .ref (u 52001)), (4, .int (nI (6 * n)))]) hx hb dz_1266 hl (by decide) rfl (fun ls hl => ?_)
  refine lv_goto (tgt := 1693) hx hb dz_1268 (by decide) ?_
  exact kk _ _ H locs ls hM (lv_sub hl [2, 3, 4, 5, 6] rfl) hq
theorem dz_1271 : decode cL_law 1271 = .ok (.aload_n 1, 1) := dw_at dwl_10 (p := 71) rfl (by decide +kernel)
theorem dz_1272 : decode cL_law 1272 = .ok (.aload_n 0, 1) := dw_at dwl_10 (p := 72) rfl (by decide +kernel)
theorem dz_1273 : decode cL_law 1273 = .ok (.iload 4, 2) := dw_at dwl_10 (p := 73) rfl (by decide +kernel)
theorem dz_1275 : decode cL_law 1275 = .ok (.iconst 1, 1) := dw_at dwl_10 (p := 75) rfl (by decide +kernel)
theorem dz_1276 : decode cL_law 1276 = .ok (.iadd, 1) := dw_at dwl_10 (p := 76) rfl (by decide +kernel)
theorem dz_1277 : decode cL_law 1277 = .ok (.iaload, 1) := dw_at dwl_10 (p := 77) rfl (by decide +kernel)
theorem dz_1278 : decode cL_law 1278 = .ok (.aload_n 0, 1) := dw_at dwl_10 (p := 78) rfl (by decide +kernel)
theorem dz_1279 : decode cL_law 1279 = .ok (.iload 4, 2) := dw_at dwl_10 (p := 79) rfl (by decide +kernel)
theorem dz_1281 : decode cL_law 1281 = .ok (.iconst 2, 1) := dw_at dwl_10 (p := 81) rfl (by decide +kernel)
theorem dz_1282 : decode cL_law 1282 = .ok (.iadd, 1) := dw_at dwl_10 (p := 82) rfl (by decide +kernel)
theorem dz_1283 : decode cL_law 1283 = .ok (.iaload, 1) := dw_at dwl_10 (p := 83) rfl (by decide +kernel)
theorem dz_1284 : decode cL_law 1284 = .ok (.aload_n 3, 1) := dw_at dwl_10 (p := 84) rfl (by decide +kernel)
theorem dz_1285 : decode cL_law 1285 = .ok (.invokestatic 232, 3) := dw_at dwl_10 (p := 85) rfl (by decide +kernel)
theorem dz_1288 : decode cL_law 1288 = .ok (.istore 5, 2) := dw_at dwl_10 (p := 88) rfl (by decide +kernel)
theorem dz_1290 : decode cL_law 1290 = .ok (.aload_n 2, 1) := dw_at dwl_10 (p := 90) rfl (by decide +kernel)
theorem dz_1291 : decode cL_law 1291 = .ok (.aload_n 0, 1) := dw_at dwl_10 (p := 91) rfl (by decide +kernel)
theorem dz_1292 : decode cL_law 1292 = .ok (.iload 4, 2) := dw_at dwl_10 (p := 92) rfl (by decide +kernel)
theorem dz_1294 : decode cL_law 1294 = .ok (.iconst 1, 1) := dw_at dwl_10 (p := 94) rfl (by decide +kernel)
theorem dz_1295 : decode cL_law 1295 = .ok (.iadd, 1) := dw_at dwl_10 (p := 95) rfl (by decide +kernel)
theorem dz_1296 : decode cL_law 1296 = .ok (.iaload, 1) := dw_at dwl_10 (p := 96) rfl (by decide +kernel)
theorem dz_1297 : decode cL_law 1297 = .ok (.aload_n 0, 1) := dw_at dwl_10 (p := 97) rfl (by decide +kernel)
theorem dz_1298 : decode cL_law 1298 = .ok (.iload 4, 2) := dw_at dwl_10 (p := 98) rfl (by decide +kernel)
theorem dz_1300 : decode cL_law 1300 = .ok (.iconst 2, 1) := dw_at dwl_10 (p := 100) rfl (by decide +kernel)
theorem dz_1301 : decode cL_law 1301 = .ok (.iadd, 1) := dw_at dwl_10 (p := 101) rfl (by decide +kernel)
theorem dz_1302 : decode cL_law 1302 = .ok (.iaload, 1) := dw_at dwl_10 (p := 102) rfl (by decide +kernel)
theorem dz_1303 : decode cL_law 1303 = .ok (.invokevirtual 234, 3) := dw_at dwl_10 (p := 103) rfl (by decide +kernel)
theorem dz_1306 : decode cL_law 1306 = .ok (.istore 6, 2) := dw_at dwl_10 (p := 106) rfl (by decide +kernel)
theorem dz_1308 : decode cL_law 1308 = .ok (.goto 385, 3) := dw_at dwl_10 (p := 108) rfl (by decide +kernel)
def ltp_chain (vl : Nat → Nat) (K : Nat) (x1 : Int32) (x2 : Int32) (x3 : Int32) (x4 : Int32) (x5 : Int32) (zc zm : ow_MS) : Option ow_LwS :=
 dc1 (le_L_chain vl K 0 x1 x2 zc) fun v2 vm3 zc1 => cs1 (qe_X13_chain K x1 x2 zm) fun v5 zm4 => some (vm3, zc1, zm4)
set_option maxHeartbeats 4000000 in
set_option maxRecDepth 100000 in
theorem lxc_chain {p : Program} {l : Launch} {e : Env} {s : State} {m : MethodId} {args : Array Value} {below : List Frame} {meth : Method} {c : Code} {b L K n : Nat} {xs : Nat → Int32} {D : va_G} {q : Nat → ClassId} {q5 : ow_Q5} {vl u w sa : Nat → Nat} {zc zm : ow_MS} {S1 : ow_LwS} {Ts : List Cond} {Q : State → Prop} {H : Heap} {locs : List Loc} {ls : Array Slot} {cells slots : Nat} (hx : p.tables.exec = Jvm.exec) (hb : c.code = cL_law) (hml : c.maxLocals = 8) (hown : s.vm.findClass RL = some m.cls) (hts : ∀ w ∈ Ts, w.before args s = true) (hX : va_X b L xs s s.heap) (hbl : b < s.heap.size) (hZ : ∀ w ∈ wZ, w ∈ Ts) (hL1 : ∀ w ∈ wLL, w ∈ Ts) (hC1 : ∀ w ∈ wC, w ∈ Ts) (hM1 : ∀ w ∈ wM, w ∈ Ts) (hG : lx_G l s D q q5 sa) (hLn : L ≤ 3072) (hn : 6 * n + 6 ≤ L) (hq : ltp_chain vl K (xs (6 * n + 1)) (xs (6 * n + 2)) (xs (6 * n + 3)) (xs (6 * n + 4)) (xs (6 * n + 5)) zc zm = some S1) (hM : lx_M D q q5 s vl u w zc zm H locs) (hl : lv_has ls 8 [(0, .ref b), (1, .ref (u 0)), (2, .ref (w 0)), (3, .ref (u 52001)), (4, .int (nI (6 * n)))]) (hc : ∀ r v z1, le_L_chain vl K 0 (xs (6 * n + 1)) (xs (6 * n + 2)) zc = some (r, v, z1) → cells + (2 + dca vl v) ≤ 601024 ∧ slots + (12 + dsl vl v) ≤ 7293033) (kk : ∀ (vl1 u1 : Nat → Nat) (zc1 zm1 : ow_MS) (H1 : Heap) (locs1 : List Loc) (ls1 : Array Slot), lx_M D q q5 s vl1 u1 w zc1 zm1 H1 locs1 → lv_has ls1 8 [(0, .ref b), (1, .ref (u1 0)), (2, .ref (w 0)), (3, .ref (u1 52001)), (4, .int (nI (6 * n)))] → some (vl1, zc1, zm1) = some S1 → W p l e room_1 s m args below meth c H1 locs1 (cells + (2 + dca vl vl1)) (slots + (12 + dsl vl vl1)) Q (F0 m 1693 ls1 [])) : W p l e room_1 s m args below meth c H locs cells slots Q (F0 m 1271 ls []) := by
  have hbA : ¬ lx_A s b := Nat.not_le.mpr hbl
  generalize e1 : xs (6 * n + 1) = x1 at hq hc
  generalize e2 : xs (6 * n + 2) = x2 at hq hc
  generalize e3 : xs (6 * n + 3) = x3 at hq
  generalize e4 : xs (6 * n + 4) = x4 at hq
  generalize e5 : xs (6 * n + 5) = x5 at hq
  unfold ltp_chain at hq
  refine lv_aload_n hx hb dz_1271 rfl (lv_at hl 1 rfl) ?_
  refine lv_aload_n hx hb dz_1272 rfl (lv_at hl 0 rfl) ?_
  refine lv_iload hx hb dz_1273 (lv_at hl 4 rfl) ?_
  refine lv_iconst (v := 1) hx hb dz_1275 (by decide) ?_
  refine lv_iadd hx hb dz_1276 ?_
  refine ow_topi (y := nI (6 * n + 1)) (nI_add (6 * n) 1) ?_
  refine va_sld hx hb hX hbl hbA hM.2.2.2.2.2 (vp_in_nI (n := 6 * n + 1) (N := L) (by omega) (by omega)) dz_1277 ?_
  refine ow_topi (y := x1) ((congrArg xs (nI_clamp (by omega))).trans e1) ?_
  refine lv_aload_n hx hb dz_1278 rfl (lv_at hl 0 rfl) ?_
  refine lv_iload hx hb dz_1279 (lv_at hl 4 rfl) ?_
  refine lv_iconst (v := 2) hx hb dz_1281 (by decide) ?_
  refine lv_iadd hx hb dz_1282 ?_
  refine ow_topi (y := nI (6 * n + 2)) (nI_add (6 * n) 2) ?_
  refine va_sld hx hb hX hbl hbA hM.2.2.2.2.2 (vp_in_nI (n := 6 * n + 2) (N := L) (by omega) (by omega)) dz_1283 ?_
  refine ow_topi (y := x2) ((congrArg xs (nI_clamp (by omega))).trans e2) ?_
  refine lv_aload_n hx hb dz_1284 rfl (lv_at hl 3 rfl) ?_
  obtain ⟨v2, vm3, zc1, hcq, hq⟩ := dd_dc1 hq
  obtain ⟨hc, hs⟩ := hc v2 vm3 zc1 hcq
  refine lx_wrapD hM (vx_runSX (As := [.ref (u 0), .int x1, .int x2, .ref (u 52001)]) (rest := []) ⟨hx, hb, hml, hown, hts⟩ (kl_L_chain l D q vl u hM.2.2.1.1 hG.1 sa K 0 x1 x2 (by unfold cw_X11 ci_X11; exact List.mem_singleton.mpr rfl) zc zc1 vm3 v2 H.size hcq) (vx_cwSW 4 hts (lx_gS (lx_all wLL_good rfl) (lx_mem hL1 (hZ _ zq_206)) (hZ _ zq_207) (hZ _ zq_208) (hZ _ zq_3) rfl rfl rfl) rfl rfl rfl (by decide +kernel) ⟨(Nat.le_of_ble_eq_true rfl), (Nat.le_of_ble_eq_true rfl)⟩) (lx_preLD hG hM) rfl rfl hl.1 rfl (lv_room (Nat.le_of_ble_eq_true rfl)) dz_1285 ⟨(by show _ ≤ 601024; omega), (by show _ ≤ 7293033; omega)⟩) (fun u1 H locs hM hs1 => ?_)
  have hl : lv_has ls 8 [(0, .ref b), (1, .ref (u1 0)), (2, .ref (w 0)), (3, .ref (u1 52001)), (4, .int (nI (6 * n)))] := by rw [hs1 0 (by decide), hs1 52001 (by decide)]; exact hl
  refine lv_istore (lv' := [(5, .int v2), (0, .ref b), (1, .ref (u1 0)), (2, .ref (w 0)), (3, .ref (u1 52001)), (4, .int (nI (6 * n)))]) hx hb dz_1288 hl (by decide) rfl (fun ls hl => ?_)
  refine lv_aload_n hx hb dz_1290 rfl (lv_at hl 3 rfl) ?_
  refine lv_aload_n hx hb dz_1291 rfl (lv_at hl 1 rfl) ?_
  refine lv_iload hx hb dz_1292 (lv_at hl 5 rfl) ?_
  refine lv_iconst (v := 1) hx hb dz_1294 (by decide) ?_
  refine lv_iadd hx hb dz_1295 ?_
  refine ow_topi (y := nI (6 * n + 1)) (nI_add (6 * n) 1) ?_
  refine va_sld hx hb hX hbl hbA hM.2.2.2.2.2 (vp_in_nI (n := 6 * n + 1) (N := L) (by omega) (by omega)) dz_1296 ?_
  refine ow_topi (y := x1) ((congrArg xs (nI_clamp (by omega))).trans e1) ?_
  refine lv_aload_n hx hb dz_1297 rfl (lv_at hl 1 rfl) ?_
  refine lv_iload hx hb dz_1298 (lv_at hl 5 rfl) ?_
  refine lv_iconst (v := 2) hx hb dz_1300 (by decide) ?_
  refine lv_iadd hx hb dz_1301 ?_
  refine ow_topi (y := nI (6 * n + 2)) (nI_add (6 * n) 2) ?_
  refine va_sld hx hb hX hbl hbA hM.2.2.2.2.2 (vp_in_nI (n := 6 * n + 2) (N := L) (by omega) (by omega)) dz_1302 ?_
  refine ow_topi (y := x2) ((congrArg xs (nI_clamp (by omega))).trans e2) ?_
  obtain ⟨v5, zm4, hcq, hq⟩ := tw_cl1 hq
  refine lx_refi hM (va_runV (As := [.int x1, .int x2]) (rest := []) ⟨hx, hb, hml, hown, hts⟩ (km_X13_chain l D q5 w hM.2.2.2.1.1 K x1 x2 zm zm4 v5 hcq) (cwV 2 hts (lx_gV (lx_all wM_good rfl) (lx_mem hM1 (hZ _ zq_209)) (hZ _ zq_210) (hZ _ zq_211) (hZ _ zq_212) (hZ _ zq_8) rfl rfl rfl rfl) rfl rfl rfl cd_X13_chain ⟨(Nat.le_of_ble_eq_true rfl), (Nat.le_of_ble_eq_true rfl)⟩) (lx_preM hG hM) rfl rfl hl.1 rfl (lv_room (Nat.le_of_ble_eq_true rfl)) dz_1303 ⟨(by show _ ≤ 601024; omega), (by show _ ≤ 7293033; omega)⟩) (fun H locs hM => ?_)
  refine lv_istore (lv' := [(6, .int v5), (5, .int v2), (0, .ref b), (1, .ref (u1 0)), (2, .ref (w 0)), (3, .ref (u1 52001)), (4, .int (nI (6 * n)))]) hx hb dz_1306 hl (by decide) rfl (fun ls hl => ?_)
  refine lv_goto (tgt := 1693) hx hb dz_1308 (by decide) ?_
  exact kk _ _ _ _ H locs ls hM (lv_sub hl [2, 3, 4, 5, 6] rfl) hq
theorem dz_1311 : decode cL_law 1311 = .ok (.aload_n 1, 1) := dw_at dwl_10 (p := 111) rfl (by decide +kernel)
theorem dz_1312 : decode cL_law 1312 = .ok (.aload_n 0, 1) := dw_at dwl_10 (p := 112) rfl (by decide +kernel)
theorem dz_1313 : decode cL_law 1313 = .ok (.iload 4, 2) := dw_at dwl_10 (p := 113) rfl (by decide +kernel)
theorem dz_1315 : decode cL_law 1315 = .ok (.iconst 1, 1) := dw_at dwl_10 (p := 115) rfl (by decide +kernel)
theorem dz_1316 : decode cL_law 1316 = .ok (.iadd, 1) := dw_at dwl_10 (p := 116) rfl (by decide +kernel)
theorem dz_1317 : decode cL_law 1317 = .ok (.iaload, 1) := dw_at dwl_10 (p := 117) rfl (by decide +kernel)
theorem dz_1318 : decode cL_law 1318 = .ok (.aload_n 0, 1) := dw_at dwl_10 (p := 118) rfl (by decide +kernel)
theorem dz_1319 : decode cL_law 1319 = .ok (.iload 4, 2) := dw_at dwl_10 (p := 119) rfl (by decide +kernel)
theorem dz_1321 : decode cL_law 1321 = .ok (.iconst 2, 1) := dw_at dwl_11 (p := 1) rfl (by decide +kernel)
theorem dz_1322 : decode cL_law 1322 = .ok (.iadd, 1) := dw_at dwl_11 (p := 2) rfl (by decide +kernel)
theorem dz_1323 : decode cL_law 1323 = .ok (.iaload, 1) := dw_at dwl_11 (p := 3) rfl (by decide +kernel)
theorem dz_1324 : decode cL_law 1324 = .ok (.invokevirtual 235, 3) := dw_at dwl_11 (p := 4) rfl (by decide +kernel)
theorem dz_1327 : decode cL_law 1327 = .ok (.pop, 1) := dw_at dwl_11 (p := 7) rfl (by decide +kernel)
theorem dz_1328 : decode cL_law 1328 = .ok (.aload_n 2, 1) := dw_at dwl_11 (p := 8) rfl (by decide +kernel)
theorem dz_1329 : decode cL_law 1329 = .ok (.aload_n 0, 1) := dw_at dwl_11 (p := 9) rfl (by decide +kernel)
theorem dz_1330 : decode cL_law 1330 = .ok (.iload 4, 2) := dw_at dwl_11 (p := 10) rfl (by decide +kernel)
theorem dz_1332 : decode cL_law 1332 = .ok (.iconst 1, 1) := dw_at dwl_11 (p := 12) rfl (by decide +kernel)
theorem dz_1333 : decode cL_law 1333 = .ok (.iadd, 1) := dw_at dwl_11 (p := 13) rfl (by decide +kernel)
theorem dz_1334 : decode cL_law 1334 = .ok (.iaload, 1) := dw_at dwl_11 (p := 14) rfl (by decide +kernel)
theorem dz_1335 : decode cL_law 1335 = .ok (.aload_n 0, 1) := dw_at dwl_11 (p := 15) rfl (by decide +kernel)
theorem dz_1336 : decode cL_law 1336 = .ok (.iload 4, 2) := dw_at dwl_11 (p := 16) rfl (by decide +kernel)
theorem dz_1338 : decode cL_law 1338 = .ok (.iconst 2, 1) := dw_at dwl_11 (p := 18) rfl (by decide +kernel)
theorem dz_1339 : decode cL_law 1339 = .ok (.iadd, 1) := dw_at dwl_11 (p := 19) rfl (by decide +kernel)
theorem dz_1340 : decode cL_law 1340 = .ok (.iaload, 1) := dw_at dwl_11 (p := 20) rfl (by decide +kernel)
theorem dz_1341 : decode cL_law 1341 = .ok (.invokevirtual 238, 3) := dw_at dwl_11 (p := 21) rfl (by decide +kernel)
theorem dz_1344 : decode cL_law 1344 = .ok (.pop, 1) := dw_at dwl_11 (p := 24) rfl (by decide +kernel)
theorem dz_1345 : decode cL_law 1345 = .ok (.goto 348, 3) := dw_at dwl_11 (p := 25) rfl (by decide +kernel)
def ltp_rank (vl : Nat → Nat) (K : Nat) (x1 : Int32) (x2 : Int32) (x3 : Int32) (x4 : Int32) (x5 : Int32) (zc zm : ow_MS) : Option ow_LwS :=
 cs1 (ce_X11_rank vl K 0 x1 x2 zc) fun v2 zc1 => cs1 (qe_X13_rank K x1 x2 zm) fun v4 zm3 => some (vl, zc1, zm3)
set_option maxHeartbeats 4000000 in
set_option maxRecDepth 100000 in
theorem lxc_rank {p : Program} {l : Launch} {e : Env} {s : State} {m : MethodId} {args : Array Value} {below : List Frame} {meth : Method} {c : Code} {b L K n : Nat} {xs : Nat → Int32} {D : va_G} {q : Nat → ClassId} {q5 : ow_Q5} {vl u w sa : Nat → Nat} {zc zm : ow_MS} {S1 : ow_LwS} {Ts : List Cond} {Q : State → Prop} {H : Heap} {locs : List Loc} {ls : Array Slot} {cells slots : Nat} (hx : p.tables.exec = Jvm.exec) (hb : c.code = cL_law) (hml : c.maxLocals = 8) (hown : s.vm.findClass RL = some m.cls) (hts : ∀ w ∈ Ts, w.before args s = true) (hX : va_X b L xs s s.heap) (hbl : b < s.heap.size) (hZ : ∀ w ∈ wZ, w ∈ Ts) (hL1 : ∀ w ∈ wLL, w ∈ Ts) (hC1 : ∀ w ∈ wC, w ∈ Ts) (hM1 : ∀ w ∈ wM, w ∈ Ts) (hG : lx_G l s D q q5 sa) (hLn : L ≤ 3072) (hn : 6 * n + 6 ≤ L) (hq : ltp_rank vl K (xs (6 * n + 1)) (xs (6 * n + 2)) (xs (6 * n + 3)) (xs (6 * n + 4)) (xs (6 * n + 5)) zc zm = some S1) (hM : lx_M D q q5 s vl u w zc zm H locs) (hl : lv_has ls 8 [(0, .ref b), (1, .ref (u 0)), (2, .ref (w 0)), (3, .ref (u 52001)), (4, .int (nI (6 * n)))]) (hc : cells + 0 ≤ 601024) (hs : slots + 0 ≤ 7293033) (kk : ∀ (zc1 zm1 : ow_MS) (H1 : Heap) (locs1 : List Loc) (ls1 : Array Slot), lx_M D q q5 s vl u w zc1 zm1 H1 locs1 → lv_has ls1 8 [(0, .ref b), (1, .ref (u 0)), (2, .ref (w 0)), (3, .ref (u 52001)), (4, .int (nI (6 * n)))] → some (vl, zc1, zm1) = some S1 → W p l e room_1 s m args below meth c H1 locs1 (cells + 0) (slots + 0) Q (F0 m 1693 ls1 [])) : W p l e room_1 s m args below meth c H locs cells slots Q (F0 m 1311 ls []) := by
  have hbA : ¬ lx_A s b := Nat.not_le.mpr hbl
  generalize e1 : xs (6 * n + 1) = x1 at hq
  generalize e2 : xs (6 * n + 2) = x2 at hq
  generalize e3 : xs (6 * n + 3) = x3 at hq
  generalize e4 : xs (6 * n + 4) = x4 at hq
  generalize e5 : xs (6 * n + 5) = x5 at hq
  unfold ltp_rank at hq
  refine lv_aload_n hx hb dz_1311 rfl (lv_at hl 1 rfl) ?_
  refine lv_aload_n hx hb dz_1312 rfl (lv_at hl 0 rfl) ?_
  refine lv_iload hx hb dz_1313 (lv_at hl 4 rfl) ?_
  refine lv_iconst (v := 1) hx hb dz_1315 (by decide) ?_
  refine lv_iadd hx hb dz_1316 ?_
  refine ow_topi (y := nI (6 * n + 1)) (nI_add (6 * n) 1) ?_
  refine va_sld hx hb hX hbl hbA hM.2.2.2.2.2 (vp_in_nI (n := 6 * n + 1) (N := L) (by omega) (by omega)) dz_1317 ?_
  refine ow_topi (y := x1) ((congrArg xs (nI_clamp (by omega))).trans e1) ?_
  refine lv_aload_n hx hb dz_1318 rfl (lv_at hl 0 rfl) ?_
  refine lv_iload hx hb dz_1319 (lv_at hl 4 rfl) ?_
  refine lv_iconst (v := 2) hx hb dz_1321 (by decide) ?_
  refine lv_iadd hx hb dz_1322 ?_
  refine ow_topi (y := nI (6 * n + 2)) (nI_add (6 * n) 2) ?_
  refine va_sld hx hb hX hbl hbA hM.2.2.2.2.2 (vp_in_nI (n := 6 * n + 2) (N := L) (by omega) (by omega)) dz_1323 ?_
  refine ow_topi (y := x2) ((congrArg xs (nI_clamp (by omega))).trans e2) ?_
  obtain ⟨v2, zc1, hcq, hq⟩ := tw_cl1 hq
  refine lx_cls hM (va_runV (As := [.int x1, .int x2]) (rest := []) ⟨hx, hb, hml, hown, hts⟩ (kc_X11_rank l D q vl u hM.2.2.1.1 K 0 x1 x2 (by unfold cw_X11 ci_X11; exact List.mem_singleton.mpr rfl) zc zc1 v2 hcq) (cwV 2 hts (lx_gV (lx_all wC_good rfl) (lx_mem hC1 (hZ _ zq_213)) (hZ _ zq_214) (hZ _ zq_215) (hZ _ zq_216) (hZ _ zq_38) rfl rfl rfl rfl) rfl rfl rfl cdd_X11_rank ⟨(Nat.le_of_ble_eq_true rfl), (Nat.le_of_ble_eq_true rfl)⟩) (lx_preC hG hM) rfl rfl hl.1 rfl (lv_room (Nat.le_of_ble_eq_true rfl)) dz_1324 ⟨(by show _ ≤ 601024; omega), (by show _ ≤ 7293033; omega)⟩) (fun H locs hM => ?_)
  refine lv_pop hx hb dz_1327 rfl ?_
  refine lv_aload_n hx hb dz_1328 rfl (lv_at hl 2 rfl) ?_
  refine lv_aload_n hx hb dz_1329 rfl (lv_at hl 0 rfl) ?_
  refine lv_iload hx hb dz_1330 (lv_at hl 4 rfl) ?_
  refine lv_iconst (v := 1) hx hb dz_1332 (by decide) ?_
  refine lv_iadd hx hb dz_1333 ?_
  refine ow_topi (y := nI (6 * n + 1)) (nI_add (6 * n) 1) ?_
  refine va_sld hx hb hX hbl hbA hM.2.2.2.2.2 (vp_in_nI (n := 6 * n + 1) (N := L) (by omega) (by omega)) dz_1334 ?_
  refine ow_topi (y := x1) ((congrArg xs (nI_clamp (by omega))).trans e1) ?_
  refine lv_aload_n hx hb dz_1335 rfl (lv_at hl 0 rfl) ?_
  refine lv_iload hx hb dz_1336 (lv_at hl 4 rfl) ?_
  refine lv_iconst (v := 2) hx hb dz_1338 (by decide) ?_
  refine lv_iadd hx hb dz_1339 ?_
  refine ow_topi (y := nI (6 * n + 2)) (nI_add (6 * n) 2) ?_
  refine va_sld hx hb hX hbl hbA hM.2.2.2.2.2 (vp_in_nI (n := 6 * n + 2) (N := L) (by omega) (by omega)) dz_1340 ?_
  refine ow_topi (y := x2) ((congrArg xs (nI_clamp (by omega))).trans e2) ?_
  obtain ⟨v4, zm3, hcq, hq⟩ := tw_cl1 hq
  refine lx_refi hM (va_runV (As := [.int x1, .int x2]) (rest := []) ⟨hx, hb, hml, hown, hts⟩ (km_X13_rank l D q5 w hM.2.2.2.1.1 K x1 x2 zm zm3 v4 hcq) (cwV 2 hts (lx_gV (lx_all wM_good rfl) (lx_mem hM1 (hZ _ zq_217)) (hZ _ zq_218) (hZ _ zq_219) (hZ _ zq_220) (hZ _ zq_8) rfl rfl rfl rfl) rfl rfl rfl cd_X13_rank ⟨(Nat.le_of_ble_eq_true rfl), (Nat.le_of_ble_eq_true rfl)⟩) (lx_preM hG hM) rfl rfl hl.1 rfl (lv_room (Nat.le_of_ble_eq_true rfl)) dz_1341 ⟨(by show _ ≤ 601024; omega), (by show _ ≤ 7293033; omega)⟩) (fun H locs hM => ?_)
  refine lv_pop hx hb dz_1344 rfl ?_
  refine lv_goto (tgt := 1693) hx hb dz_1345 (by decide) ?_
  exact kk _ _ H locs ls hM (lv_sub hl [0, 1, 2, 3, 4] rfl) hq
theorem dz_1348 : decode cL_law 1348 = .ok (.aload_n 1, 1) := dw_at dwl_11 (p := 28) rfl (by decide +kernel)
theorem dz_1349 : decode cL_law 1349 = .ok (.aload_n 0, 1) := dw_at dwl_11 (p := 29) rfl (by decide +kernel)
theorem dz_1350 : decode cL_law 1350 = .ok (.iload 4, 2) := dw_at dwl_11 (p := 30) rfl (by decide +kernel)
theorem dz_1352 : decode cL_law 1352 = .ok (.iconst 1, 1) := dw_at dwl_11 (p := 32) rfl (by decide +kernel)
theorem dz_1353 : decode cL_law 1353 = .ok (.iadd, 1) := dw_at dwl_11 (p := 33) rfl (by decide +kernel)
theorem dz_1354 : decode cL_law 1354 = .ok (.iaload, 1) := dw_at dwl_11 (p := 34) rfl (by decide +kernel)
theorem dz_1355 : decode cL_law 1355 = .ok (.aload_n 3, 1) := dw_at dwl_11 (p := 35) rfl (by decide +kernel)
theorem dz_1356 : decode cL_law 1356 = .ok (.invokestatic 239, 3) := dw_at dwl_11 (p := 36) rfl (by decide +kernel)
theorem dz_1359 : decode cL_law 1359 = .ok (.istore 5, 2) := dw_at dwl_11 (p := 39) rfl (by decide +kernel)
theorem dz_1361 : decode cL_law 1361 = .ok (.aload_n 2, 1) := dw_at dwl_11 (p := 41) rfl (by decide +kernel)
theorem dz_1362 : decode cL_law 1362 = .ok (.aload_n 0, 1) := dw_at dwl_11 (p := 42) rfl (by decide +kernel)
theorem dz_1363 : decode cL_law 1363 = .ok (.iload 4, 2) := dw_at dwl_11 (p := 43) rfl (by decide +kernel)
theorem dz_1365 : decode cL_law 1365 = .ok (.iconst 1, 1) := dw_at dwl_11 (p := 45) rfl (by decide +kernel)
theorem dz_1366 : decode cL_law 1366 = .ok (.iadd, 1) := dw_at dwl_11 (p := 46) rfl (by decide +kernel)
theorem dz_1367 : decode cL_law 1367 = .ok (.iaload, 1) := dw_at dwl_11 (p := 47) rfl (by decide +kernel)
theorem dz_1368 : decode cL_law 1368 = .ok (.invokevirtual 241, 3) := dw_at dwl_11 (p := 48) rfl (by decide +kernel)
theorem dz_1371 : decode cL_law 1371 = .ok (.istore 6, 2) := dw_at dwl_11 (p := 51) rfl (by decide +kernel)
theorem dz_1373 : decode cL_law 1373 = .ok (.goto 320, 3) := dw_at dwl_11 (p := 53) rfl (by decide +kernel)
def ltp_closure (vl : Nat → Nat) (K : Nat) (x1 : Int32) (x2 : Int32) (x3 : Int32) (x4 : Int32) (x5 : Int32) (zc zm : ow_MS) : Option ow_LwS :=
 cs1 (le_L_closure vl K 0 x1 zc) fun v2 zc1 => cs1 (qe_X13_closure K x1 zm) fun v4 zm3 => some (vl, zc1, zm3)
set_option maxHeartbeats 4000000 in
set_option maxRecDepth 100000 in
theorem lxc_closure {p : Program} {l : Launch} {e : Env} {s : State} {m : MethodId} {args : Array Value} {below : List Frame} {meth : Method} {c : Code} {b L K n : Nat} {xs : Nat → Int32} {D : va_G} {q : Nat → ClassId} {q5 : ow_Q5} {vl u w sa : Nat → Nat} {zc zm : ow_MS} {S1 : ow_LwS} {Ts : List Cond} {Q : State → Prop} {H : Heap} {locs : List Loc} {ls : Array Slot} {cells slots : Nat} (hx : p.tables.exec = Jvm.exec) (hb : c.code = cL_law) (hml : c.maxLocals = 8) (hown : s.vm.findClass RL = some m.cls) (hts : ∀ w ∈ Ts, w.before args s = true) (hX : va_X b L xs s s.heap) (hbl : b < s.heap.size) (hZ : ∀ w ∈ wZ, w ∈ Ts) (hL1 : ∀ w ∈ wLL, w ∈ Ts) (hC1 : ∀ w ∈ wC, w ∈ Ts) (hM1 : ∀ w ∈ wM, w ∈ Ts) (hG : lx_G l s D q q5 sa) (hLn : L ≤ 3072) (hn : 6 * n + 6 ≤ L) (hq : ltp_closure vl K (xs (6 * n + 1)) (xs (6 * n + 2)) (xs (6 * n + 3)) (xs (6 * n + 4)) (xs (6 * n + 5)) zc zm = some S1) (hM : lx_M D q q5 s vl u w zc zm H locs) (hl : lv_has ls 8 [(0, .ref b), (1, .ref (u 0)), (2, .ref (w 0)), (3, .ref (u 52001)), (4, .int (nI (6 * n)))]) (hc : cells + 3 ≤ 601024) (hs : slots + 18 ≤ 7293033) (kk : ∀ (zc1 zm1 : ow_MS) (H1 : Heap) (locs1 : List Loc) (ls1 : Array Slot), lx_M D q q5 s vl u w zc1 zm1 H1 locs1 → lv_has ls1 8 [(0, .ref b), (1, .ref (u 0)), (2, .ref (w 0)), (3, .ref (u 52001)), (4, .int (nI (6 * n)))] → some (vl, zc1, zm1) = some S1 → W p l e room_1 s m args below meth c H1 locs1 (cells + 3) (slots + 18) Q (F0 m 1693 ls1 [])) : W p l e room_1 s m args below meth c H locs cells slots Q (F0 m 1348 ls []) := by
  have hbA : ¬ lx_A s b := Nat.not_le.mpr hbl
  generalize e1 : xs (6 * n + 1) = x1 at hq
  generalize e2 : xs (6 * n + 2) = x2 at hq
  generalize e3 : xs (6 * n + 3) = x3 at hq
  generalize e4 : xs (6 * n + 4) = x4 at hq
  generalize e5 : xs (6 * n + 5) = x5 at hq
  unfold ltp_closure at hq
  refine lv_aload_n hx hb dz_1348 rfl (lv_at hl 1 rfl) ?_
  refine lv_aload_n hx hb dz_1349 rfl (lv_at hl 0 rfl) ?_
  refine lv_iload hx hb dz_1350 (lv_at hl 4 rfl) ?_
  refine lv_iconst (v := 1) hx hb dz_1352 (by decide) ?_
  refine lv_iadd hx hb dz_1353 ?_
  refine ow_topi (y := nI (6 * n + 1)) (nI_add (6 * n) 1) ?_
  refine va_sld hx hb hX hbl hbA hM.2.2.2.2.2 (vp_in_nI (n := 6 * n + 1) (N := L) (by omega) (by omega)) dz_1354 ?_
  refine ow_topi (y := x1) ((congrArg xs (nI_clamp (by omega))).trans e1) ?_
  refine lv_aload_n hx hb dz_1355 rfl (lv_at hl 3 rfl) ?_
  obtain ⟨v2, zc1, hcq, hq⟩ := tw_cl1 hq
  refine lx_wrap hM (vx_runSX (As := [.ref (u 0), .int x1, .ref (u 52001)]) (rest := []) ⟨hx, hb, hml, hown, hts⟩ (kl_L_closure l D q vl u hM.2.2.1.1 hG.1 sa K 0 x1 (by unfold cw_X11 ci_X11; exact List.mem_singleton.mpr rfl) zc zc1 v2 hcq) (vx_cwSW 3 hts (lx_gS (lx_all wLL_good rfl) (lx_mem hL1 (hZ _ zq_221)) (hZ _ zq_222) (hZ _ zq_223) (hZ _ zq_3) rfl rfl rfl) rfl rfl rfl (by decide +kernel) ⟨(Nat.le_of_ble_eq_true rfl), (Nat.le_of_ble_eq_true rfl)⟩) (lx_preL hG hM) rfl rfl hl.1 rfl (lv_room (Nat.le_of_ble_eq_true rfl)) dz_1356 ⟨(by show _ ≤ 601024; omega), (by show _ ≤ 7293033; omega)⟩) (fun H locs hM => ?_)
  refine lv_istore (lv' := [(5, .int v2), (0, .ref b), (1, .ref (u 0)), (2, .ref (w 0)), (3, .ref (u 52001)), (4, .int (nI (6 * n)))]) hx hb dz_1359 hl (by decide) rfl (fun ls hl => ?_)
  refine lv_aload_n hx hb dz_1361 rfl (lv_at hl 3 rfl) ?_
  refine lv_aload_n hx hb dz_1362 rfl (lv_at hl 1 rfl) ?_
  refine lv_iload hx hb dz_1363 (lv_at hl 5 rfl) ?_
  refine lv_iconst (v := 1) hx hb dz_1365 (by decide) ?_
  refine lv_iadd hx hb dz_1366 ?_
  refine ow_topi (y := nI (6 * n + 1)) (nI_add (6 * n) 1) ?_
  refine va_sld hx hb hX hbl hbA hM.2.2.2.2.2 (vp_in_nI (n := 6 * n + 1) (N := L) (by omega) (by omega)) dz_1367 ?_
  refine ow_topi (y := x1) ((congrArg xs (nI_clamp (by omega))).trans e1) ?_
  obtain ⟨v4, zm3, hcq, hq⟩ := tw_cl1 hq
  refine lx_refi hM (va_runV (As := [.int x1]) (rest := []) ⟨hx, hb, hml, hown, hts⟩ (km_X13_closure l D q5 w hM.2.2.2.1.1 K x1 zm zm3 v4 hcq) (cwV 1 hts (lx_gV (lx_all wM_good rfl) (lx_mem hM1 (hZ _ zq_224)) (hZ _ zq_225) (hZ _ zq_226) (hZ _ zq_227) (hZ _ zq_8) rfl rfl rfl rfl) rfl rfl rfl cd_X13_closure ⟨(Nat.le_of_ble_eq_true rfl), (Nat.le_of_ble_eq_true rfl)⟩) (lx_preM hG hM) rfl rfl hl.1 rfl (lv_room (Nat.le_of_ble_eq_true rfl)) dz_1368 ⟨(by show _ ≤ 601024; omega), (by show _ ≤ 7293033; omega)⟩) (fun H locs hM => ?_)
  refine lv_istore (lv' := [(6, .int v4), (5, .int v2), (0, .ref b), (1, .ref (u 0)), (2, .ref (w 0)), (3, .ref (u 52001)), (4, .int (nI (6 * n)))]) hx hb dz_1371 hl (by decide) rfl (fun ls hl => ?_)
  refine lv_goto (tgt := 1693) hx hb dz_1373 (by decide) ?_
  exact kk _ _ H locs ls hM (lv_sub hl [2, 3, 4, 5, 6] rfl) hq
theorem dz_1376 : decode cL_law 1376 = .ok (.aload_n 1, 1) := dw_at dwl_11 (p := 56) rfl (by decide +kernel)
theorem dz_1377 : decode cL_law 1377 = .ok (.aload_n 0, 1) := dw_at dwl_11 (p := 57) rfl (by decide +kernel)
theorem dz_1378 : decode cL_law 1378 = .ok (.iload 4, 2) := dw_at dwl_11 (p := 58) rfl (by decide +kernel)
theorem dz_1380 : decode cL_law 1380 = .ok (.iconst 1, 1) := dw_at dwl_11 (p := 60) rfl (by decide +kernel)
theorem dz_1381 : decode cL_law 1381 = .ok (.iadd, 1) := dw_at dwl_11 (p := 61) rfl (by decide +kernel)
theorem dz_1382 : decode cL_law 1382 = .ok (.iaload, 1) := dw_at dwl_11 (p := 62) rfl (by decide +kernel)
theorem dz_1383 : decode cL_law 1383 = .ok (.aload_n 0, 1) := dw_at dwl_11 (p := 63) rfl (by decide +kernel)
theorem dz_1384 : decode cL_law 1384 = .ok (.iload 4, 2) := dw_at dwl_11 (p := 64) rfl (by decide +kernel)
theorem dz_1386 : decode cL_law 1386 = .ok (.iconst 2, 1) := dw_at dwl_11 (p := 66) rfl (by decide +kernel)
theorem dz_1387 : decode cL_law 1387 = .ok (.iadd, 1) := dw_at dwl_11 (p := 67) rfl (by decide +kernel)
theorem dz_1388 : decode cL_law 1388 = .ok (.iaload, 1) := dw_at dwl_11 (p := 68) rfl (by decide +kernel)
theorem dz_1389 : decode cL_law 1389 = .ok (.aload_n 3, 1) := dw_at dwl_11 (p := 69) rfl (by decide +kernel)
theorem dz_1390 : decode cL_law 1390 = .ok (.invokestatic 242, 3) := dw_at dwl_11 (p := 70) rfl (by decide +kernel)
theorem dz_1393 : decode cL_law 1393 = .ok (.istore 5, 2) := dw_at dwl_11 (p := 73) rfl (by decide +kernel)
theorem dz_1395 : decode cL_law 1395 = .ok (.aload_n 2, 1) := dw_at dwl_11 (p := 75) rfl (by decide +kernel)
theorem dz_1396 : decode cL_law 1396 = .ok (.aload_n 0, 1) := dw_at dwl_11 (p := 76) rfl (by decide +kernel)
theorem dz_1397 : decode cL_law 1397 = .ok (.iload 4, 2) := dw_at dwl_11 (p := 77) rfl (by decide +kernel)
theorem dz_1399 : decode cL_law 1399 = .ok (.iconst 1, 1) := dw_at dwl_11 (p := 79) rfl (by decide +kernel)
theorem dz_1400 : decode cL_law 1400 = .ok (.iadd, 1) := dw_at dwl_11 (p := 80) rfl (by decide +kernel)
theorem dz_1401 : decode cL_law 1401 = .ok (.iaload, 1) := dw_at dwl_11 (p := 81) rfl (by decide +kernel)
theorem dz_1402 : decode cL_law 1402 = .ok (.aload_n 0, 1) := dw_at dwl_11 (p := 82) rfl (by decide +kernel)
theorem dz_1403 : decode cL_law 1403 = .ok (.iload 4, 2) := dw_at dwl_11 (p := 83) rfl (by decide +kernel)
theorem dz_1405 : decode cL_law 1405 = .ok (.iconst 2, 1) := dw_at dwl_11 (p := 85) rfl (by decide +kernel)
theorem dz_1406 : decode cL_law 1406 = .ok (.iadd, 1) := dw_at dwl_11 (p := 86) rfl (by decide +kernel)
theorem dz_1407 : decode cL_law 1407 = .ok (.iaload, 1) := dw_at dwl_11 (p := 87) rfl (by decide +kernel)
theorem dz_1408 : decode cL_law 1408 = .ok (.invokevirtual 244, 3) := dw_at dwl_11 (p := 88) rfl (by decide +kernel)
theorem dz_1411 : decode cL_law 1411 = .ok (.istore 6, 2) := dw_at dwl_11 (p := 91) rfl (by decide +kernel)
theorem dz_1413 : decode cL_law 1413 = .ok (.goto 280, 3) := dw_at dwl_11 (p := 93) rfl (by decide +kernel)
def ltp_product (vl : Nat → Nat) (K : Nat) (x1 : Int32) (x2 : Int32) (x3 : Int32) (x4 : Int32) (x5 : Int32) (zc zm : ow_MS) : Option ow_LwS :=
 cs1 (le_L_product vl K 0 x1 x2 zc) fun v2 zc1 => cs1 (qe_X13_product K x1 x2 zm) fun v4 zm3 => some (vl, zc1, zm3)
set_option maxHeartbeats 4000000 in
set_option maxRecDepth 100000 in
theorem lxc_product {p : Program} {l : Launch} {e : Env} {s : State} {m : MethodId} {args : Array Value} {below : List Frame} {meth : Method} {c : Code} {b L K n : Nat} {xs : Nat → Int32} {D : va_G} {q : Nat → ClassId} {q5 : ow_Q5} {vl u w sa : Nat → Nat} {zc zm : ow_MS} {S1 : ow_LwS} {Ts : List Cond} {Q : State → Prop} {H : Heap} {locs : List Loc} {ls : Array Slot} {cells slots : Nat} (hx : p.tables.exec = Jvm.exec) (hb : c.code = cL_law) (hml : c.maxLocals = 8) (hown : s.vm.findClass RL = some m.cls) (hts : ∀ w ∈ Ts, w.before args s = true) (hX : va_X b L xs s s.heap) (hbl : b < s.heap.size) (hZ : ∀ w ∈ wZ, w ∈ Ts) (hL1 : ∀ w ∈ wLL, w ∈ Ts) (hC1 : ∀ w ∈ wC, w ∈ Ts) (hM1 : ∀ w ∈ wM, w ∈ Ts) (hG : lx_G l s D q q5 sa) (hLn : L ≤ 3072) (hn : 6 * n + 6 ≤ L) (hq : ltp_product vl K (xs (6 * n + 1)) (xs (6 * n + 2)) (xs (6 * n + 3)) (xs (6 * n + 4)) (xs (6 * n + 5)) zc zm = some S1) (hM : lx_M D q q5 s vl u w zc zm H locs) (hl : lv_has ls 8 [(0, .ref b), (1, .ref (u 0)), (2, .ref (w 0)), (3, .ref (u 52001)), (4, .int (nI (6 * n)))]) (hc : cells + 4 ≤ 601024) (hs : slots + 24 ≤ 7293033) (kk : ∀ (zc1 zm1 : ow_MS) (H1 : Heap) (locs1 : List Loc) (ls1 : Array Slot), lx_M D q q5 s vl u w zc1 zm1 H1 locs1 → lv_has ls1 8 [(0, .ref b), (1, .ref (u 0)), (2, .ref (w 0)), (3, .ref (u 52001)), (4, .int (nI (6 * n)))] → some (vl, zc1, zm1) = some S1 → W p l e room_1 s m args below meth c H1 locs1 (cells + 4) (slots + 24) Q (F0 m 1693 ls1 [])) : W p l e room_1 s m args below meth c H locs cells slots Q (F0 m 1376 ls []) := by
  have hbA : ¬ lx_A s b := Nat.not_le.mpr hbl
  generalize e1 : xs (6 * n + 1) = x1 at hq
  generalize e2 : xs (6 * n + 2) = x2 at hq
  generalize e3 : xs (6 * n + 3) = x3 at hq
  generalize e4 : xs (6 * n + 4) = x4 at hq
  generalize e5 : xs (6 * n + 5) = x5 at hq
  unfold ltp_product at hq
  refine lv_aload_n hx hb dz_1376 rfl (lv_at hl 1 rfl) ?_
  refine lv_aload_n hx hb dz_1377 rfl (lv_at hl 0 rfl) ?_
  refine lv_iload hx hb dz_1378 (lv_at hl 4 rfl) ?_
  refine lv_iconst (v := 1) hx hb dz_1380 (by decide) ?_
  refine lv_iadd hx hb dz_1381 ?_
  refine ow_topi (y := nI (6 * n + 1)) (nI_add (6 * n) 1) ?_
  refine va_sld hx hb hX hbl hbA hM.2.2.2.2.2 (vp_in_nI (n := 6 * n + 1) (N := L) (by omega) (by omega)) dz_1382 ?_
  refine ow_topi (y := x1) ((congrArg xs (nI_clamp (by omega))).trans e1) ?_
  refine lv_aload_n hx hb dz_1383 rfl (lv_at hl 0 rfl) ?_
  refine lv_iload hx hb dz_1384 (lv_at hl 4 rfl) ?_
  refine lv_iconst (v := 2) hx hb dz_1386 (by decide) ?_
  refine lv_iadd hx hb dz_1387 ?_
  refine ow_topi (y := nI (6 * n + 2)) (nI_add (6 * n) 2) ?_
  refine va_sld hx hb hX hbl hbA hM.2.2.2.2.2 (vp_in_nI (n := 6 * n + 2) (N := L) (by omega) (by omega)) dz_1388 ?_
  refine ow_topi (y := x2) ((congrArg xs (nI_clamp (by omega))).trans e2) ?_
  refine lv_aload_n hx hb dz_1389 rfl (lv_at hl 3 rfl) ?_
  obtain ⟨v2, zc1, hcq, hq⟩ := tw_cl1 hq
  refine lx_wrap hM (vx_runSX (As := [.ref (u 0), .int x1, .int x2, .ref (u 52001)]) (rest := []) ⟨hx, hb, hml, hown, hts⟩ (kl_L_product l D q vl u hM.2.2.1.1 hG.1 sa K 0 x1 x2 (by unfold cw_X11 ci_X11; exact List.mem_singleton.mpr rfl) zc zc1 v2 hcq) (vx_cwSW 4 hts (lx_gS (lx_all wLL_good rfl) (lx_mem hL1 (hZ _ zq_228)) (hZ _ zq_229) (hZ _ zq_230) (hZ _ zq_3) rfl rfl rfl) rfl rfl rfl (by decide +kernel) ⟨(Nat.le_of_ble_eq_true rfl), (Nat.le_of_ble_eq_true rfl)⟩) (lx_preL hG hM) rfl rfl hl.1 rfl (lv_room (Nat.le_of_ble_eq_true rfl)) dz_1390 ⟨(by show _ ≤ 601024; omega), (by show _ ≤ 7293033; omega)⟩) (fun H locs hM => ?_)
  refine lv_istore (lv' := [(5, .int v2), (0, .ref b), (1, .ref (u 0)), (2, .ref (w 0)), (3, .ref (u 52001)), (4, .int (nI (6 * n)))]) hx hb dz_1393 hl (by decide) rfl (fun ls hl => ?_)
  refine lv_aload_n hx hb dz_1395 rfl (lv_at hl 3 rfl) ?_
  refine lv_aload_n hx hb dz_1396 rfl (lv_at hl 1 rfl) ?_
  refine lv_iload hx hb dz_1397 (lv_at hl 5 rfl) ?_
  refine lv_iconst (v := 1) hx hb dz_1399 (by decide) ?_
  refine lv_iadd hx hb dz_1400 ?_
  refine ow_topi (y := nI (6 * n + 1)) (nI_add (6 * n) 1) ?_
  refine va_sld hx hb hX hbl hbA hM.2.2.2.2.2 (vp_in_nI (n := 6 * n + 1) (N := L) (by omega) (by omega)) dz_1401 ?_
  refine ow_topi (y := x1) ((congrArg xs (nI_clamp (by omega))).trans e1) ?_
  refine lv_aload_n hx hb dz_1402 rfl (lv_at hl 1 rfl) ?_
  refine lv_iload hx hb dz_1403 (lv_at hl 5 rfl) ?_
  refine lv_iconst (v := 2) hx hb dz_1405 (by decide) ?_
  refine lv_iadd hx hb dz_1406 ?_
  refine ow_topi (y := nI (6 * n + 2)) (nI_add (6 * n) 2) ?_
  refine va_sld hx hb hX hbl hbA hM.2.2.2.2.2 (vp_in_nI (n := 6 * n + 2) (N := L) (by omega) (by omega)) dz_1407 ?_
  refine ow_topi (y := x2) ((congrArg xs (nI_clamp (by omega))).trans e2) ?_
  obtain ⟨v4, zm3, hcq, hq⟩ := tw_cl1 hq
  refine lx_refi hM (va_runV (As := [.int x1, .int x2]) (rest := []) ⟨hx, hb, hml, hown, hts⟩ (km_X13_product l D q5 w hM.2.2.2.1.1 K x1 x2 zm zm3 v4 hcq) (cwV 2 hts (lx_gV (lx_all wM_good rfl) (lx_mem hM1 (hZ _ zq_231)) (hZ _ zq_232) (hZ _ zq_233) (hZ _ zq_234) (hZ _ zq_8) rfl rfl rfl rfl) rfl rfl rfl cd_X13_product ⟨(Nat.le_of_ble_eq_true rfl), (Nat.le_of_ble_eq_true rfl)⟩) (lx_preM hG hM) rfl rfl hl.1 rfl (lv_room (Nat.le_of_ble_eq_true rfl)) dz_1408 ⟨(by show _ ≤ 601024; omega), (by show _ ≤ 7293033; omega)⟩) (fun H locs hM => ?_)
  refine lv_istore (lv' := [(6, .int v4), (5, .int v2), (0, .ref b), (1, .ref (u 0)), (2, .ref (w 0)), (3, .ref (u 52001)), (4, .int (nI (6 * n)))]) hx hb dz_1411 hl (by decide) rfl (fun ls hl => ?_)
  refine lv_goto (tgt := 1693) hx hb dz_1413 (by decide) ?_
  exact kk _ _ H locs ls hM (lv_sub hl [2, 3, 4, 5, 6] rfl) hq
theorem dz_1416 : decode cL_law 1416 = .ok (.aload_n 1, 1) := dw_at dwl_11 (p := 96) rfl (by decide +kernel)
theorem dz_1417 : decode cL_law 1417 = .ok (.aload_n 0, 1) := dw_at dwl_11 (p := 97) rfl (by decide +kernel)
theorem dz_1418 : decode cL_law 1418 = .ok (.iload 4, 2) := dw_at dwl_11 (p := 98) rfl (by decide +kernel)
theorem dz_1420 : decode cL_law 1420 = .ok (.iconst 1, 1) := dw_at dwl_11 (p := 100) rfl (by decide +kernel)
theorem dz_1421 : decode cL_law 1421 = .ok (.iadd, 1) := dw_at dwl_11 (p := 101) rfl (by decide +kernel)
theorem dz_1422 : decode cL_law 1422 = .ok (.iaload, 1) := dw_at dwl_11 (p := 102) rfl (by decide +kernel)
theorem dz_1423 : decode cL_law 1423 = .ok (.aload_n 3, 1) := dw_at dwl_11 (p := 103) rfl (by decide +kernel)
theorem dz_1424 : decode cL_law 1424 = .ok (.invokestatic 245, 3) := dw_at dwl_11 (p := 104) rfl (by decide +kernel)
theorem dz_1427 : decode cL_law 1427 = .ok (.istore 5, 2) := dw_at dwl_11 (p := 107) rfl (by decide +kernel)
theorem dz_1429 : decode cL_law 1429 = .ok (.aload_n 2, 1) := dw_at dwl_11 (p := 109) rfl (by decide +kernel)
theorem dz_1430 : decode cL_law 1430 = .ok (.aload_n 0, 1) := dw_at dwl_11 (p := 110) rfl (by decide +kernel)
theorem dz_1431 : decode cL_law 1431 = .ok (.iload 4, 2) := dw_at dwl_11 (p := 111) rfl (by decide +kernel)
theorem dz_1433 : decode cL_law 1433 = .ok (.iconst 1, 1) := dw_at dwl_11 (p := 113) rfl (by decide +kernel)
theorem dz_1434 : decode cL_law 1434 = .ok (.iadd, 1) := dw_at dwl_11 (p := 114) rfl (by decide +kernel)
theorem dz_1435 : decode cL_law 1435 = .ok (.iaload, 1) := dw_at dwl_11 (p := 115) rfl (by decide +kernel)
theorem dz_1436 : decode cL_law 1436 = .ok (.invokevirtual 247, 3) := dw_at dwl_11 (p := 116) rfl (by decide +kernel)
theorem dz_1439 : decode cL_law 1439 = .ok (.istore 6, 2) := dw_at dwl_11 (p := 119) rfl (by decide +kernel)
theorem dz_1441 : decode cL_law 1441 = .ok (.goto 252, 3) := dw_at dwl_12 (p := 1) rfl (by decide +kernel)
def ltp_inverse (vl : Nat → Nat) (K : Nat) (x1 : Int32) (x2 : Int32) (x3 : Int32) (x4 : Int32) (x5 : Int32) (zc zm : ow_MS) : Option ow_LwS :=
 cs1 (le_L_inverse vl K 0 x1 zc) fun v2 zc1 => cs1 (qe_X13_inverse K x1 zm) fun v4 zm3 => some (vl, zc1, zm3)
set_option maxHeartbeats 4000000 in
set_option maxRecDepth 100000 in
theorem lxc_inverse {p : Program} {l : Launch} {e : Env} {s : State} {m : MethodId} {args : Array Value} {below : List Frame} {meth : Method} {c : Code} {b L K n : Nat} {xs : Nat → Int32} {D : va_G} {q : Nat → ClassId} {q5 : ow_Q5} {vl u w sa : Nat → Nat} {zc zm : ow_MS} {S1 : ow_LwS} {Ts : List Cond} {Q : State → Prop} {H : Heap} {locs : List Loc} {ls : Array Slot} {cells slots : Nat} (hx : p.tables.exec = Jvm.exec) (hb : c.code = cL_law) (hml : c.maxLocals = 8) (hown : s.vm.findClass RL = some m.cls) (hts : ∀ w ∈ Ts, w.before args s = true) (hX : va_X b L xs s s.heap) (hbl : b < s.heap.size) (hZ : ∀ w ∈ wZ, w ∈ Ts) (hL1 : ∀ w ∈ wLL, w ∈ Ts) (hC1 : ∀ w ∈ wC, w ∈ Ts) (hM1 : ∀ w ∈ wM, w ∈ Ts) (hG : lx_G l s D q q5 sa) (hLn : L ≤ 3072) (hn : 6 * n + 6 ≤ L) (hq : ltp_inverse vl K (xs (6 * n + 1)) (xs (6 * n + 2)) (xs (6 * n + 3)) (xs (6 * n + 4)) (xs (6 * n + 5)) zc zm = some S1) (hM : lx_M D q q5 s vl u w zc zm H locs) (hl : lv_has ls 8 [(0, .ref b), (1, .ref (u 0)), (2, .ref (w 0)), (3, .ref (u 52001)), (4, .int (nI (6 * n)))]) (hc : cells + 2 ≤ 601024) (hs : slots + 12 ≤ 7293033) (kk : ∀ (zc1 zm1 : ow_MS) (H1 : Heap) (locs1 : List Loc) (ls1 : Array Slot), lx_M D q q5 s vl u w zc1 zm1 H1 locs1 → lv_has ls1 8 [(0, .ref b), (1, .ref (u 0)), (2, .ref (w 0)), (3, .ref (u 52001)), (4, .int (nI (6 * n)))] → some (vl, zc1, zm1) = some S1 → W p l e room_1 s m args below meth c H1 locs1 (cells + 2) (slots + 12) Q (F0 m 1693 ls1 [])) : W p l e room_1 s m args below meth c H locs cells slots Q (F0 m 1416 ls []) := by
  have hbA : ¬ lx_A s b := Nat.not_le.mpr hbl
  generalize e1 : xs (6 * n + 1) = x1 at hq
  generalize e2 : xs (6 * n + 2) = x2 at hq
  generalize e3 : xs (6 * n + 3) = x3 at hq
  generalize e4 : xs (6 * n + 4) = x4 at hq
  generalize e5 : xs (6 * n + 5) = x5 at hq
  unfold ltp_inverse at hq
  refine lv_aload_n hx hb dz_1416 rfl (lv_at hl 1 rfl) ?_
  refine lv_aload_n hx hb dz_1417 rfl (lv_at hl 0 rfl) ?_
  refine lv_iload hx hb dz_1418 (lv_at hl 4 rfl) ?_
  refine lv_iconst (v := 1) hx hb dz_1420 (by decide) ?_
  refine lv_iadd hx hb dz_1421 ?_
  refine ow_topi (y := nI (6 * n + 1)) (nI_add (6 * n) 1) ?_
  refine va_sld hx hb hX hbl hbA hM.2.2.2.2.2 (vp_in_nI (n := 6 * n + 1) (N := L) (by omega) (by omega)) dz_1422 ?_
  refine ow_topi (y := x1) ((congrArg xs (nI_clamp (by omega))).trans e1) ?_
  refine lv_aload_n hx hb dz_1423 rfl (lv_at hl 3 rfl) ?_
  obtain ⟨v2, zc1, hcq, hq⟩ := tw_cl1 hq
  refine lx_wrap hM (vx_runSX (As := [.ref (u 0), .int x1, .ref (u 52001)]) (rest := []) ⟨hx, hb, hml, hown, hts⟩ (kl_L_inverse l D q vl u hM.2.2.1.1 hG.1 sa K 0 x1 (by unfold cw_X11 ci_X11; exact List.mem_singleton.mpr rfl) zc zc1 v2 hcq) (vx_cwSW 3 hts (lx_gS (lx_all wLL_good rfl) (lx_mem hL1 (hZ _ zq_235)) (hZ _ zq_236) (hZ _ zq_237) (hZ _ zq_3) rfl rfl rfl) rfl rfl rfl (by decide +kernel) ⟨(Nat.le_of_ble_eq_true rfl), (Nat.le_of_ble_eq_true rfl)⟩) (lx_preL hG hM) rfl rfl hl.1 rfl (lv_room (Nat.le_of_ble_eq_true rfl)) dz_1424 ⟨(by show _ ≤ 601024; omega), (by show _ ≤ 7293033; omega)⟩) (fun H locs hM => ?_)
  refine lv_istore (lv' := [(5, .int v2), (0, .ref b), (1, .ref (u 0)), (2, .ref (w 0)), (3, .ref (u 52001)), (4, .int (nI (6 * n)))]) hx hb dz_1427 hl (by decide) rfl (fun ls hl => ?_)
  refine lv_aload_n hx hb dz_1429 rfl (lv_at hl 3 rfl) ?_
  refine lv_aload_n hx hb dz_1430 rfl (lv_at hl 1 rfl) ?_
  refine lv_iload hx hb dz_1431 (lv_at hl 5 rfl) ?_
  refine lv_iconst (v := 1) hx hb dz_1433 (by decide) ?_
  refine lv_iadd hx hb dz_1434 ?_
  refine ow_topi (y := nI (6 * n + 1)) (nI_add (6 * n) 1) ?_
  refine va_sld hx hb hX hbl hbA hM.2.2.2.2.2 (vp_in_nI (n := 6 * n + 1) (N := L) (by omega) (by omega)) dz_1435 ?_
  refine ow_topi (y := x1) ((congrArg xs (nI_clamp (by omega))).trans e1) ?_
  obtain ⟨v4, zm3, hcq, hq⟩ := tw_cl1 hq
  refine lx_refi hM (va_runV (As := [.int x1]) (rest := []) ⟨hx, hb, hml, hown, hts⟩ (km_X13_inverse l D q5 w hM.2.2.2.1.1 K x1 zm zm3 v4 hcq) (cwV 1 hts (lx_gV (lx_all wM_good rfl) (lx_mem hM1 (hZ _ zq_238)) (hZ _ zq_239) (hZ _ zq_240) (hZ _ zq_241) (hZ _ zq_8) rfl rfl rfl rfl) rfl rfl rfl cd_X13_inverse ⟨(Nat.le_of_ble_eq_true rfl), (Nat.le_of_ble_eq_true rfl)⟩) (lx_preM hG hM) rfl rfl hl.1 rfl (lv_room (Nat.le_of_ble_eq_true rfl)) dz_1436 ⟨(by show _ ≤ 601024; omega), (by show _ ≤ 7293033; omega)⟩) (fun H locs hM => ?_)
  refine lv_istore (lv' := [(6, .int v4), (5, .int v2), (0, .ref b), (1, .ref (u 0)), (2, .ref (w 0)), (3, .ref (u 52001)), (4, .int (nI (6 * n)))]) hx hb dz_1439 hl (by decide) rfl (fun ls hl => ?_)
  refine lv_goto (tgt := 1693) hx hb dz_1441 (by decide) ?_
  exact kk _ _ H locs ls hM (lv_sub hl [2, 3, 4, 5, 6] rfl) hq
theorem dz_1444 : decode cL_law 1444 = .ok (.aload_n 1, 1) := dw_at dwl_12 (p := 4) rfl (by decide +kernel)
theorem dz_1445 : decode cL_law 1445 = .ok (.aload_n 0, 1) := dw_at dwl_12 (p := 5) rfl (by decide +kernel)
theorem dz_1446 : decode cL_law 1446 = .ok (.iload 4, 2) := dw_at dwl_12 (p := 6) rfl (by decide +kernel)
theorem dz_1448 : decode cL_law 1448 = .ok (.iconst 1, 1) := dw_at dwl_12 (p := 8) rfl (by decide +kernel)
theorem dz_1449 : decode cL_law 1449 = .ok (.iadd, 1) := dw_at dwl_12 (p := 9) rfl (by decide +kernel)
theorem dz_1450 : decode cL_law 1450 = .ok (.iaload, 1) := dw_at dwl_12 (p := 10) rfl (by decide +kernel)
theorem dz_1451 : decode cL_law 1451 = .ok (.aload_n 0, 1) := dw_at dwl_12 (p := 11) rfl (by decide +kernel)
theorem dz_1452 : decode cL_law 1452 = .ok (.iload 4, 2) := dw_at dwl_12 (p := 12) rfl (by decide +kernel)
theorem dz_1454 : decode cL_law 1454 = .ok (.iconst 2, 1) := dw_at dwl_12 (p := 14) rfl (by decide +kernel)
theorem dz_1455 : decode cL_law 1455 = .ok (.iadd, 1) := dw_at dwl_12 (p := 15) rfl (by decide +kernel)
theorem dz_1456 : decode cL_law 1456 = .ok (.iaload, 1) := dw_at dwl_12 (p := 16) rfl (by decide +kernel)
theorem dz_1457 : decode cL_law 1457 = .ok (.aload_n 3, 1) := dw_at dwl_12 (p := 17) rfl (by decide +kernel)
theorem dz_1458 : decode cL_law 1458 = .ok (.invokestatic 248, 3) := dw_at dwl_12 (p := 18) rfl (by decide +kernel)
theorem dz_1461 : decode cL_law 1461 = .ok (.istore 5, 2) := dw_at dwl_12 (p := 21) rfl (by decide +kernel)
theorem dz_1463 : decode cL_law 1463 = .ok (.aload_n 2, 1) := dw_at dwl_12 (p := 23) rfl (by decide +kernel)
theorem dz_1464 : decode cL_law 1464 = .ok (.aload_n 0, 1) := dw_at dwl_12 (p := 24) rfl (by decide +kernel)
theorem dz_1465 : decode cL_law 1465 = .ok (.iload 4, 2) := dw_at dwl_12 (p := 25) rfl (by decide +kernel)
theorem dz_1467 : decode cL_law 1467 = .ok (.iconst 1, 1) := dw_at dwl_12 (p := 27) rfl (by decide +kernel)
theorem dz_1468 : decode cL_law 1468 = .ok (.iadd, 1) := dw_at dwl_12 (p := 28) rfl (by decide +kernel)
theorem dz_1469 : decode cL_law 1469 = .ok (.iaload, 1) := dw_at dwl_12 (p := 29) rfl (by decide +kernel)
theorem dz_1470 : decode cL_law 1470 = .ok (.aload_n 0, 1) := dw_at dwl_12 (p := 30) rfl (by decide +kernel)
theorem dz_1471 : decode cL_law 1471 = .ok (.iload 4, 2) := dw_at dwl_12 (p := 31) rfl (by decide +kernel)
theorem dz_1473 : decode cL_law 1473 = .ok (.iconst 2, 1) := dw_at dwl_12 (p := 33) rfl (by decide +kernel)
theorem dz_1474 : decode cL_law 1474 = .ok (.iadd, 1) := dw_at dwl_12 (p := 34) rfl (by decide +kernel)
theorem dz_1475 : decode cL_law 1475 = .ok (.iaload, 1) := dw_at dwl_12 (p := 35) rfl (by decide +kernel)
theorem dz_1476 : decode cL_law 1476 = .ok (.invokevirtual 250, 3) := dw_at dwl_12 (p := 36) rfl (by decide +kernel)
theorem dz_1479 : decode cL_law 1479 = .ok (.istore 6, 2) := dw_at dwl_12 (p := 39) rfl (by decide +kernel)
theorem dz_1481 : decode cL_law 1481 = .ok (.goto 212, 3) := dw_at dwl_12 (p := 41) rfl (by decide +kernel)
def ltp_normal (vl : Nat → Nat) (K : Nat) (x1 : Int32) (x2 : Int32) (x3 : Int32) (x4 : Int32) (x5 : Int32) (zc zm : ow_MS) : Option ow_LwS :=
 cs1 (le_L_normal vl K 0 x1 x2 zc) fun v2 zc1 => cs1 (qe_X13_normal K x1 x2 zm) fun v4 zm3 => some (vl, zc1, zm3)
set_option maxHeartbeats 4000000 in
set_option maxRecDepth 100000 in
theorem lxc_normal {p : Program} {l : Launch} {e : Env} {s : State} {m : MethodId} {args : Array Value} {below : List Frame} {meth : Method} {c : Code} {b L K n : Nat} {xs : Nat → Int32} {D : va_G} {q : Nat → ClassId} {q5 : ow_Q5} {vl u w sa : Nat → Nat} {zc zm : ow_MS} {S1 : ow_LwS} {Ts : List Cond} {Q : State → Prop} {H : Heap} {locs : List Loc} {ls : Array Slot} {cells slots : Nat} (hx : p.tables.exec = Jvm.exec) (hb : c.code = cL_law) (hml : c.maxLocals = 8) (hown : s.vm.findClass RL = some m.cls) (hts : ∀ w ∈ Ts, w.before args s = true) (hX : va_X b L xs s s.heap) (hbl : b < s.heap.size) (hZ : ∀ w ∈ wZ, w ∈ Ts) (hL1 : ∀ w ∈ wLL, w ∈ Ts) (hC1 : ∀ w ∈ wC, w ∈ Ts) (hM1 : ∀ w ∈ wM, w ∈ Ts) (hG : lx_G l s D q q5 sa) (hLn : L ≤ 3072) (hn : 6 * n + 6 ≤ L) (hq : ltp_normal vl K (xs (6 * n + 1)) (xs (6 * n + 2)) (xs (6 * n + 3)) (xs (6 * n + 4)) (xs (6 * n + 5)) zc zm = some S1) (hM : lx_M D q q5 s vl u w zc zm H locs) (hl : lv_has ls 8 [(0, .ref b), (1, .ref (u 0)), (2, .ref (w 0)), (3, .ref (u 52001)), (4, .int (nI (6 * n)))]) (hc : cells + 2 ≤ 601024) (hs : slots + 12 ≤ 7293033) (kk : ∀ (zc1 zm1 : ow_MS) (H1 : Heap) (locs1 : List Loc) (ls1 : Array Slot), lx_M D q q5 s vl u w zc1 zm1 H1 locs1 → lv_has ls1 8 [(0, .ref b), (1, .ref (u 0)), (2, .ref (w 0)), (3, .ref (u 52001)), (4, .int (nI (6 * n)))] → some (vl, zc1, zm1) = some S1 → W p l e room_1 s m args below meth c H1 locs1 (cells + 2) (slots + 12) Q (F0 m 1693 ls1 [])) : W p l e room_1 s m args below meth c H locs cells slots Q (F0 m 1444 ls []) := by
  have hbA : ¬ lx_A s b := Nat.not_le.mpr hbl
  generalize e1 : xs (6 * n + 1) = x1 at hq
  generalize e2 : xs (6 * n + 2) = x2 at hq
  generalize e3 : xs (6 * n + 3) = x3 at hq
  generalize e4 : xs (6 * n + 4) = x4 at hq
  generalize e5 : xs (6 * n + 5) = x5 at hq
  unfold ltp_normal at hq
  refine lv_aload_n hx hb dz_1444 rfl (lv_at hl 1 rfl) ?_
  refine lv_aload_n hx hb dz_1445 rfl (lv_at hl 0 rfl) ?_
  refine lv_iload hx hb dz_1446 (lv_at hl 4 rfl) ?_
  refine lv_iconst (v := 1) hx hb dz_1448 (by decide) ?_
  refine lv_iadd hx hb dz_1449 ?_
  refine ow_topi (y := nI (6 * n + 1)) (nI_add (6 * n) 1) ?_
  refine va_sld hx hb hX hbl hbA hM.2.2.2.2.2 (vp_in_nI (n := 6 * n + 1) (N := L) (by omega) (by omega)) dz_1450 ?_
  refine ow_topi (y := x1) ((congrArg xs (nI_clamp (by omega))).trans e1) ?_
  refine lv_aload_n hx hb dz_1451 rfl (lv_at hl 0 rfl) ?_
  refine lv_iload hx hb dz_1452 (lv_at hl 4 rfl) ?_
  refine lv_iconst (v := 2) hx hb dz_1454 (by decide) ?_
  refine lv_iadd hx hb dz_1455 ?_
  refine ow_topi (y := nI (6 * n + 2)) (nI_add (6 * n) 2) ?_
  refine va_sld hx hb hX hbl hbA hM.2.2.2.2.2 (vp_in_nI (n := 6 * n + 2) (N := L) (by omega) (by omega)) dz_1456 ?_
  refine ow_topi (y := x2) ((congrArg xs (nI_clamp (by omega))).trans e2) ?_
  refine lv_aload_n hx hb dz_1457 rfl (lv_at hl 3 rfl) ?_
  obtain ⟨v2, zc1, hcq, hq⟩ := tw_cl1 hq
  refine lx_wrap hM (vx_runSX (As := [.ref (u 0), .int x1, .int x2, .ref (u 52001)]) (rest := []) ⟨hx, hb, hml, hown, hts⟩ (kl_L_normal l D q vl u hM.2.2.1.1 hG.1 sa K 0 x1 x2 (by unfold cw_X11 ci_X11; exact List.mem_singleton.mpr rfl) zc zc1 v2 hcq) (vx_cwSW 4 hts (lx_gS (lx_all wLL_good rfl) (lx_mem hL1 (hZ _ zq_242)) (hZ _ zq_243) (hZ _ zq_244) (hZ _ zq_3) rfl rfl rfl) rfl rfl rfl (by decide +kernel) ⟨(Nat.le_of_ble_eq_true rfl), (Nat.le_of_ble_eq_true rfl)⟩) (lx_preL hG hM) rfl rfl hl.1 rfl (lv_room (Nat.le_of_ble_eq_true rfl)) dz_1458 ⟨(by show _ ≤ 601024; omega), (by show _ ≤ 7293033; omega)⟩) (fun H locs hM => ?_)
  refine lv_istore (lv' := [(5, .int v2), (0, .ref b), (1, .ref (u 0)), (2, .ref (w 0)), (3, .ref (u 52001)), (4, .int (nI (6 * n)))]) hx hb dz_1461 hl (by decide) rfl (fun ls hl => ?_)
  refine lv_aload_n hx hb dz_1463 rfl (lv_at hl 3 rfl) ?_
  refine lv_aload_n hx hb dz_1464 rfl (lv_at hl 1 rfl) ?_
  refine lv_iload hx hb dz_1465 (lv_at hl 5 rfl) ?_
  refine lv_iconst (v := 1) hx hb dz_1467 (by decide) ?_
  refine lv_iadd hx hb dz_1468 ?_
  refine ow_topi (y := nI (6 * n + 1)) (nI_add (6 * n) 1) ?_
  refine va_sld hx hb hX hbl hbA hM.2.2.2.2.2 (vp_in_nI (n := 6 * n + 1) (N := L) (by omega) (by omega)) dz_1469 ?_
  refine ow_topi (y := x1) ((congrArg xs (nI_clamp (by omega))).trans e1) ?_
  refine lv_aload_n hx hb dz_1470 rfl (lv_at hl 1 rfl) ?_
  refine lv_iload hx hb dz_1471 (lv_at hl 5 rfl) ?_
  refine lv_iconst (v := 2) hx hb dz_1473 (by decide) ?_
  refine lv_iadd hx hb dz_1474 ?_
  refine ow_topi (y := nI (6 * n + 2)) (nI_add (6 * n) 2) ?_
  refine va_sld hx hb hX hbl hbA hM.2.2.2.2.2 (vp_in_nI (n := 6 * n + 2) (N := L) (by omega) (by omega)) dz_1475 ?_
  refine ow_topi (y := x2) ((congrArg xs (nI_clamp (by omega))).trans e2) ?_
  obtain ⟨v4, zm3, hcq, hq⟩ := tw_cl1 hq
  refine lx_refi hM (va_runV (As := [.int x1, .int x2]) (rest := []) ⟨hx, hb, hml, hown, hts⟩ (km_X13_normal l D q5 w hM.2.2.2.1.1 K x1 x2 zm zm3 v4 hcq) (cwV 2 hts (lx_gV (lx_all wM_good rfl) (lx_mem hM1 (hZ _ zq_245)) (hZ _ zq_246) (hZ _ zq_247) (hZ _ zq_248) (hZ _ zq_8) rfl rfl rfl rfl) rfl rfl rfl cd_X13_normal ⟨(Nat.le_of_ble_eq_true rfl), (Nat.le_of_ble_eq_true rfl)⟩) (lx_preM hG hM) rfl rfl hl.1 rfl (lv_room (Nat.le_of_ble_eq_true rfl)) dz_1476 ⟨(by show _ ≤ 601024; omega), (by show _ ≤ 7293033; omega)⟩) (fun H locs hM => ?_)
  refine lv_istore (lv' := [(6, .int v4), (5, .int v2), (0, .ref b), (1, .ref (u 0)), (2, .ref (w 0)), (3, .ref (u 52001)), (4, .int (nI (6 * n)))]) hx hb dz_1479 hl (by decide) rfl (fun ls hl => ?_)
  refine lv_goto (tgt := 1693) hx hb dz_1481 (by decide) ?_
  exact kk _ _ H locs ls hM (lv_sub hl [2, 3, 4, 5, 6] rfl) hq
theorem dz_1484 : decode cL_law 1484 = .ok (.aload_n 1, 1) := dw_at dwl_12 (p := 44) rfl (by decide +kernel)
theorem dz_1485 : decode cL_law 1485 = .ok (.aload_n 0, 1) := dw_at dwl_12 (p := 45) rfl (by decide +kernel)
theorem dz_1486 : decode cL_law 1486 = .ok (.iload 4, 2) := dw_at dwl_12 (p := 46) rfl (by decide +kernel)
theorem dz_1488 : decode cL_law 1488 = .ok (.iconst 1, 1) := dw_at dwl_12 (p := 48) rfl (by decide +kernel)
theorem dz_1489 : decode cL_law 1489 = .ok (.iadd, 1) := dw_at dwl_12 (p := 49) rfl (by decide +kernel)
theorem dz_1490 : decode cL_law 1490 = .ok (.iaload, 1) := dw_at dwl_12 (p := 50) rfl (by decide +kernel)
theorem dz_1491 : decode cL_law 1491 = .ok (.aload_n 0, 1) := dw_at dwl_12 (p := 51) rfl (by decide +kernel)
theorem dz_1492 : decode cL_law 1492 = .ok (.iload 4, 2) := dw_at dwl_12 (p := 52) rfl (by decide +kernel)
theorem dz_1494 : decode cL_law 1494 = .ok (.iconst 2, 1) := dw_at dwl_12 (p := 54) rfl (by decide +kernel)
theorem dz_1495 : decode cL_law 1495 = .ok (.iadd, 1) := dw_at dwl_12 (p := 55) rfl (by decide +kernel)
theorem dz_1496 : decode cL_law 1496 = .ok (.iaload, 1) := dw_at dwl_12 (p := 56) rfl (by decide +kernel)
theorem dz_1497 : decode cL_law 1497 = .ok (.aload_n 0, 1) := dw_at dwl_12 (p := 57) rfl (by decide +kernel)
theorem dz_1498 : decode cL_law 1498 = .ok (.iload 4, 2) := dw_at dwl_12 (p := 58) rfl (by decide +kernel)
theorem dz_1500 : decode cL_law 1500 = .ok (.iconst 3, 1) := dw_at dwl_12 (p := 60) rfl (by decide +kernel)
theorem dz_1501 : decode cL_law 1501 = .ok (.iadd, 1) := dw_at dwl_12 (p := 61) rfl (by decide +kernel)
theorem dz_1502 : decode cL_law 1502 = .ok (.iaload, 1) := dw_at dwl_12 (p := 62) rfl (by decide +kernel)
theorem dz_1503 : decode cL_law 1503 = .ok (.aload_n 3, 1) := dw_at dwl_12 (p := 63) rfl (by decide +kernel)
theorem dz_1504 : decode cL_law 1504 = .ok (.invokestatic 251, 3) := dw_at dwl_12 (p := 64) rfl (by decide +kernel)
theorem dz_1507 : decode cL_law 1507 = .ok (.istore 5, 2) := dw_at dwl_12 (p := 67) rfl (by decide +kernel)
theorem dz_1509 : decode cL_law 1509 = .ok (.aload_n 2, 1) := dw_at dwl_12 (p := 69) rfl (by decide +kernel)
theorem dz_1510 : decode cL_law 1510 = .ok (.aload_n 0, 1) := dw_at dwl_12 (p := 70) rfl (by decide +kernel)
theorem dz_1511 : decode cL_law 1511 = .ok (.iload 4, 2) := dw_at dwl_12 (p := 71) rfl (by decide +kernel)
theorem dz_1513 : decode cL_law 1513 = .ok (.iconst 1, 1) := dw_at dwl_12 (p := 73) rfl (by decide +kernel)
theorem dz_1514 : decode cL_law 1514 = .ok (.iadd, 1) := dw_at dwl_12 (p := 74) rfl (by decide +kernel)
theorem dz_1515 : decode cL_law 1515 = .ok (.iaload, 1) := dw_at dwl_12 (p := 75) rfl (by decide +kernel)
theorem dz_1516 : decode cL_law 1516 = .ok (.aload_n 0, 1) := dw_at dwl_12 (p := 76) rfl (by decide +kernel)
theorem dz_1517 : decode cL_law 1517 = .ok (.iload 4, 2) := dw_at dwl_12 (p := 77) rfl (by decide +kernel)
theorem dz_1519 : decode cL_law 1519 = .ok (.iconst 2, 1) := dw_at dwl_12 (p := 79) rfl (by decide +kernel)
theorem dz_1520 : decode cL_law 1520 = .ok (.iadd, 1) := dw_at dwl_12 (p := 80) rfl (by decide +kernel)
theorem dz_1521 : decode cL_law 1521 = .ok (.iaload, 1) := dw_at dwl_12 (p := 81) rfl (by decide +kernel)
theorem dz_1522 : decode cL_law 1522 = .ok (.aload_n 0, 1) := dw_at dwl_12 (p := 82) rfl (by decide +kernel)
theorem dz_1523 : decode cL_law 1523 = .ok (.iload 4, 2) := dw_at dwl_12 (p := 83) rfl (by decide +kernel)
theorem dz_1525 : decode cL_law 1525 = .ok (.iconst 3, 1) := dw_at dwl_12 (p := 85) rfl (by decide +kernel)
theorem dz_1526 : decode cL_law 1526 = .ok (.iadd, 1) := dw_at dwl_12 (p := 86) rfl (by decide +kernel)
theorem dz_1527 : decode cL_law 1527 = .ok (.iaload, 1) := dw_at dwl_12 (p := 87) rfl (by decide +kernel)
theorem dz_1528 : decode cL_law 1528 = .ok (.invokevirtual 253, 3) := dw_at dwl_12 (p := 88) rfl (by decide +kernel)
theorem dz_1531 : decode cL_law 1531 = .ok (.istore 6, 2) := dw_at dwl_12 (p := 91) rfl (by decide +kernel)
theorem dz_1533 : decode cL_law 1533 = .ok (.goto 160, 3) := dw_at dwl_12 (p := 93) rfl (by decide +kernel)
def ltp_factor (vl : Nat → Nat) (K : Nat) (x1 : Int32) (x2 : Int32) (x3 : Int32) (x4 : Int32) (x5 : Int32) (zc zm : ow_MS) : Option ow_LwS :=
 cs1 (le_L_factor vl K 0 x1 x2 x3 zc) fun v2 zc1 => cs1 (qe_X13_factor K x1 x2 x3 zm) fun v4 zm3 => some (vl, zc1, zm3)
set_option maxHeartbeats 4000000 in
set_option maxRecDepth 100000 in
theorem lxc_factor {p : Program} {l : Launch} {e : Env} {s : State} {m : MethodId} {args : Array Value} {below : List Frame} {meth : Method} {c : Code} {b L K n : Nat} {xs : Nat → Int32} {D : va_G} {q : Nat → ClassId} {q5 : ow_Q5} {vl u w sa : Nat → Nat} {zc zm : ow_MS} {S1 : ow_LwS} {Ts : List Cond} {Q : State → Prop} {H : Heap} {locs : List Loc} {ls : Array Slot} {cells slots : Nat} (hx : p.tables.exec = Jvm.exec) (hb : c.code = cL_law) (hml : c.maxLocals = 8) (hown : s.vm.findClass RL = some m.cls) (hts : ∀ w ∈ Ts, w.before args s = true) (hX : va_X b L xs s s.heap) (hbl : b < s.heap.size) (hZ : ∀ w ∈ wZ, w ∈ Ts) (hL1 : ∀ w ∈ wLL, w ∈ Ts) (hC1 : ∀ w ∈ wC, w ∈ Ts) (hM1 : ∀ w ∈ wM, w ∈ Ts) (hG : lx_G l s D q q5 sa) (hLn : L ≤ 3072) (hn : 6 * n + 6 ≤ L) (hq : ltp_factor vl K (xs (6 * n + 1)) (xs (6 * n + 2)) (xs (6 * n + 3)) (xs (6 * n + 4)) (xs (6 * n + 5)) zc zm = some S1) (hM : lx_M D q q5 s vl u w zc zm H locs) (hl : lv_has ls 8 [(0, .ref b), (1, .ref (u 0)), (2, .ref (w 0)), (3, .ref (u 52001)), (4, .int (nI (6 * n)))]) (hc : cells + 1 ≤ 601024) (hs : slots + 6 ≤ 7293033) (kk : ∀ (zc1 zm1 : ow_MS) (H1 : Heap) (locs1 : List Loc) (ls1 : Array Slot), lx_M D q q5 s vl u w zc1 zm1 H1 locs1 → lv_has ls1 8 [(0, .ref b), (1, .ref (u 0)), (2, .ref (w 0)), (3, .ref (u 52001)), (4, .int (nI (6 * n)))] → some (vl, zc1, zm1) = some S1 → W p l e room_1 s m args below meth c H1 locs1 (cells + 1) (slots + 6) Q (F0 m 1693 ls1 [])) : W p l e room_1 s m args below meth c H locs cells slots Q (F0 m 1484 ls []) := by
  have hbA : ¬ lx_A s b := Nat.not_le.mpr hbl
  generalize e1 : xs (6 * n + 1) = x1 at hq
  generalize e2 : xs (6 * n + 2) = x2 at hq
  generalize e3 : xs (6 * n + 3) = x3 at hq
  generalize e4 : xs (6 * n + 4) = x4 at hq
  generalize e5 : xs (6 * n + 5) = x5 at hq
  unfold ltp_factor at hq
  refine lv_aload_n hx hb dz_1484 rfl (lv_at hl 1 rfl) ?_
  refine lv_aload_n hx hb dz_1485 rfl (lv_at hl 0 rfl) ?_
  refine lv_iload hx hb dz_1486 (lv_at hl 4 rfl) ?_
  refine lv_iconst (v := 1) hx hb dz_1488 (by decide) ?_
  refine lv_iadd hx hb dz_1489 ?_
  refine ow_topi (y := nI (6 * n + 1)) (nI_add (6 * n) 1) ?_
  refine va_sld hx hb hX hbl hbA hM.2.2.2.2.2 (vp_in_nI (n := 6 * n + 1) (N := L) (by omega) (by omega)) dz_1490 ?_
  refine ow_topi (y := x1) ((congrArg xs (nI_clamp (by omega))).trans e1) ?_
  refine lv_aload_n hx hb dz_1491 rfl (lv_at hl 0 rfl) ?_
  refine lv_iload hx hb dz_1492 (lv_at hl 4 rfl) ?_
  refine lv_iconst (v := 2) hx hb dz_1494 (by decide) ?_
  refine lv_iadd hx hb dz_1495 ?_
  refine ow_topi (y := nI (6 * n + 2)) (nI_add (6 * n) 2) ?_
  refine va_sld hx hb hX hbl hbA hM.2.2.2.2.2 (vp_in_nI (n := 6 * n + 2) (N := L) (by omega) (by omega)) dz_1496 ?_
  refine ow_topi (y := x2) ((congrArg xs (nI_clamp (by omega))).trans e2) ?_
  refine lv_aload_n hx hb dz_1497 rfl (lv_at hl 0 rfl) ?_
  refine lv_iload hx hb dz_1498 (lv_at hl 4 rfl) ?_
  refine lv_iconst (v := 3) hx hb dz_1500 (by decide) ?_
  refine lv_iadd hx hb dz_1501 ?_
  refine ow_topi (y := nI (6 * n + 3)) (nI_add (6 * n) 3) ?_
  refine va_sld hx hb hX hbl hbA hM.2.2.2.2.2 (vp_in_nI (n := 6 * n + 3) (N := L) (by omega) (by omega)) dz_1502 ?_
  refine ow_topi (y := x3) ((congrArg xs (nI_clamp (by omega))).trans e3) ?_
  refine lv_aload_n hx hb dz_1503 rfl (lv_at hl 3 rfl) ?_
  obtain ⟨v2, zc1, hcq, hq⟩ := tw_cl1 hq
  refine lx_wrap hM (vx_runSX (As := [.ref (u 0), .int x1, .int x2, .int x3, .ref (u 52001)]) (rest := []) ⟨hx, hb, hml, hown, hts⟩ (kl_L_factor l D q vl u hM.2.2.1.1 hG.1 sa K 0 x1 x2 x3 (by unfold cw_X11 ci_X11; exact List.mem_singleton.mpr rfl) zc zc1 v2 hcq) (vx_cwSW 5 hts (lx_gS (lx_all wLL_good rfl) (lx_mem hL1 (hZ _ zq_249)) (hZ _ zq_250) (hZ _ zq_251) (hZ _ zq_3) rfl rfl rfl) rfl rfl rfl (by decide +kernel) ⟨(Nat.le_of_ble_eq_true rfl), (Nat.le_of_ble_eq_true rfl)⟩) (lx_preL hG hM) rfl rfl hl.1 rfl (lv_room (Nat.le_of_ble_eq_true rfl)) dz_1504 ⟨(by show _ ≤ 601024; omega), (by show _ ≤ 7293033; omega)⟩) (fun H locs hM => ?_)
  refine lv_istore (lv' := [(5, .int v2), (0, .ref b), (1, .ref (u 0)), (2, .ref (w 0)), (3, .ref (u 52001)), (4, .int (nI (6 * n)))]) hx hb dz_1507 hl (by decide) rfl (fun ls hl => ?_)
  refine lv_aload_n hx hb dz_1509 rfl (lv_at hl 3 rfl) ?_
  refine lv_aload_n hx hb dz_1510 rfl (lv_at hl 1 rfl) ?_
  refine lv_iload hx hb dz_1511 (lv_at hl 5 rfl) ?_
  refine lv_iconst (v := 1) hx hb dz_1513 (by decide) ?_
  refine lv_iadd hx hb dz_1514 ?_
  refine ow_topi (y := nI (6 * n + 1)) (nI_add (6 * n) 1) ?_
  refine va_sld hx hb hX hbl hbA hM.2.2.2.2.2 (vp_in_nI (n := 6 * n + 1) (N := L) (by omega) (by omega)) dz_1515 ?_
  refine ow_topi (y := x1) ((congrArg xs (nI_clamp (by omega))).trans e1) ?_
  refine lv_aload_n hx hb dz_1516 rfl (lv_at hl 1 rfl) ?_
  refine lv_iload hx hb dz_1517 (lv_at hl 5 rfl) ?_
  refine lv_iconst (v := 2) hx hb dz_1519 (by decide) ?_
  refine lv_iadd hx hb dz_1520 ?_
  refine ow_topi (y := nI (6 * n + 2)) (nI_add (6 * n) 2) ?_
  refine va_sld hx hb hX hbl hbA hM.2.2.2.2.2 (vp_in_nI (n := 6 * n + 2) (N := L) (by omega) (by omega)) dz_1521 ?_
  refine ow_topi (y := x2) ((congrArg xs (nI_clamp (by omega))).trans e2) ?_
  refine lv_aload_n hx hb dz_1522 rfl (lv_at hl 1 rfl) ?_
  refine lv_iload hx hb dz_1523 (lv_at hl 5 rfl) ?_
  refine lv_iconst (v := 3) hx hb dz_1525 (by decide) ?_
  refine lv_iadd hx hb dz_1526 ?_
  refine ow_topi (y := nI (6 * n + 3)) (nI_add (6 * n) 3) ?_
  refine va_sld hx hb hX hbl hbA hM.2.2.2.2.2 (vp_in_nI (n := 6 * n + 3) (N := L) (by omega) (by omega)) dz_1527 ?_
  refine ow_topi (y := x3) ((congrArg xs (nI_clamp (by omega))).trans e3) ?_
  obtain ⟨v4, zm3, hcq, hq⟩ := tw_cl1 hq
  refine lx_refi hM (va_runV (As := [.int x1, .int x2, .int x3]) (rest := []) ⟨hx, hb, hml, hown, hts⟩ (km_X13_factor l D q5 w hM.2.2.2.1.1 K x1 x2 x3 zm zm3 v4 hcq) (cwV 3 hts (lx_gV (lx_all wM_good rfl) (lx_mem hM1 (hZ _ zq_252)) (hZ _ zq_253) (hZ _ zq_254) (hZ _ zq_255) (hZ _ zq_8) rfl rfl rfl rfl) rfl rfl rfl cd_X13_factor ⟨(Nat.le_of_ble_eq_true rfl), (Nat.le_of_ble_eq_true rfl)⟩) (lx_preM hG hM) rfl rfl hl.1 rfl (lv_room (Nat.le_of_ble_eq_true rfl)) dz_1528 ⟨(by show _ ≤ 601024; omega), (by show _ ≤ 7293033; omega)⟩) (fun H locs hM => ?_)
  refine lv_istore (lv' := [(6, .int v4), (5, .int v2), (0, .ref b), (1, .ref (u 0)), (2, .ref (w 0)), (3, .ref (u 52001)), (4, .int (nI (6 * n)))]) hx hb dz_1531 hl (by decide) rfl (fun ls hl => ?_)
  refine lv_goto (tgt := 1693) hx hb dz_1533 (by decide) ?_
  exact kk _ _ H locs ls hM (lv_sub hl [2, 3, 4, 5, 6] rfl) hq
theorem dz_1536 : decode cL_law 1536 = .ok (.aload_n 1, 1) := dw_at dwl_12 (p := 96) rfl (by decide +kernel)
theorem dz_1537 : decode cL_law 1537 = .ok (.aload_n 0, 1) := dw_at dwl_12 (p := 97) rfl (by decide +kernel)
theorem dz_1538 : decode cL_law 1538 = .ok (.iload 4, 2) := dw_at dwl_12 (p := 98) rfl (by decide +kernel)
theorem dz_1540 : decode cL_law 1540 = .ok (.iconst 1, 1) := dw_at dwl_12 (p := 100) rfl (by decide +kernel)
theorem dz_1541 : decode cL_law 1541 = .ok (.iadd, 1) := dw_at dwl_12 (p := 101) rfl (by decide +kernel)
theorem dz_1542 : decode cL_law 1542 = .ok (.iaload, 1) := dw_at dwl_12 (p := 102) rfl (by decide +kernel)
theorem dz_1543 : decode cL_law 1543 = .ok (.aload_n 0, 1) := dw_at dwl_12 (p := 103) rfl (by decide +kernel)
theorem dz_1544 : decode cL_law 1544 = .ok (.iload 4, 2) := dw_at dwl_12 (p := 104) rfl (by decide +kernel)
theorem dz_1546 : decode cL_law 1546 = .ok (.iconst 2, 1) := dw_at dwl_12 (p := 106) rfl (by decide +kernel)
theorem dz_1547 : decode cL_law 1547 = .ok (.iadd, 1) := dw_at dwl_12 (p := 107) rfl (by decide +kernel)
theorem dz_1548 : decode cL_law 1548 = .ok (.iaload, 1) := dw_at dwl_12 (p := 108) rfl (by decide +kernel)
theorem dz_1549 : decode cL_law 1549 = .ok (.invokevirtual 254, 3) := dw_at dwl_12 (p := 109) rfl (by decide +kernel)
theorem dz_1552 : decode cL_law 1552 = .ok (.pop, 1) := dw_at dwl_12 (p := 112) rfl (by decide +kernel)
theorem dz_1553 : decode cL_law 1553 = .ok (.aload_n 2, 1) := dw_at dwl_12 (p := 113) rfl (by decide +kernel)
theorem dz_1554 : decode cL_law 1554 = .ok (.aload_n 0, 1) := dw_at dwl_12 (p := 114) rfl (by decide +kernel)
theorem dz_1555 : decode cL_law 1555 = .ok (.iload 4, 2) := dw_at dwl_12 (p := 115) rfl (by decide +kernel)
theorem dz_1557 : decode cL_law 1557 = .ok (.iconst 1, 1) := dw_at dwl_12 (p := 117) rfl (by decide +kernel)
theorem dz_1558 : decode cL_law 1558 = .ok (.iadd, 1) := dw_at dwl_12 (p := 118) rfl (by decide +kernel)
theorem dz_1559 : decode cL_law 1559 = .ok (.iaload, 1) := dw_at dwl_12 (p := 119) rfl (by decide +kernel)
theorem dz_1560 : decode cL_law 1560 = .ok (.aload_n 0, 1) := dw_at dwl_13 (p := 0) rfl (by decide +kernel)
theorem dz_1561 : decode cL_law 1561 = .ok (.iload 4, 2) := dw_at dwl_13 (p := 1) rfl (by decide +kernel)
theorem dz_1563 : decode cL_law 1563 = .ok (.iconst 2, 1) := dw_at dwl_13 (p := 3) rfl (by decide +kernel)
theorem dz_1564 : decode cL_law 1564 = .ok (.iadd, 1) := dw_at dwl_13 (p := 4) rfl (by decide +kernel)
theorem dz_1565 : decode cL_law 1565 = .ok (.iaload, 1) := dw_at dwl_13 (p := 5) rfl (by decide +kernel)
theorem dz_1566 : decode cL_law 1566 = .ok (.invokevirtual 257, 3) := dw_at dwl_13 (p := 6) rfl (by decide +kernel)
theorem dz_1569 : decode cL_law 1569 = .ok (.pop, 1) := dw_at dwl_13 (p := 9) rfl (by decide +kernel)
theorem dz_1570 : decode cL_law 1570 = .ok (.goto 123, 3) := dw_at dwl_13 (p := 10) rfl (by decide +kernel)
def ltp_equal (vl : Nat → Nat) (K : Nat) (x1 : Int32) (x2 : Int32) (x3 : Int32) (x4 : Int32) (x5 : Int32) (zc zm : ow_MS) : Option ow_LwS :=
 cs1 (ce_X11_equal vl K 0 x1 x2 zc) fun v2 zc1 => cs1 (qe_X13_equal K x1 x2 zm) fun v4 zm3 => some (vl, zc1, zm3)
set_option maxHeartbeats 4000000 in
set_option maxRecDepth 100000 in
theorem lxc_equal {p : Program} {l : Launch} {e : Env} {s : State} {m : MethodId} {args : Array Value} {below : List Frame} {meth : Method} {c : Code} {b L K n : Nat} {xs : Nat → Int32} {D : va_G} {q : Nat → ClassId} {q5 : ow_Q5} {vl u w sa : Nat → Nat} {zc zm : ow_MS} {S1 : ow_LwS} {Ts : List Cond} {Q : State → Prop} {H : Heap} {locs : List Loc} {ls : Array Slot} {cells slots : Nat} (hx : p.tables.exec = Jvm.exec) (hb : c.code = cL_law) (hml : c.maxLocals = 8) (hown : s.vm.findClass RL = some m.cls) (hts : ∀ w ∈ Ts, w.before args s = true) (hX : va_X b L xs s s.heap) (hbl : b < s.heap.size) (hZ : ∀ w ∈ wZ, w ∈ Ts) (hL1 : ∀ w ∈ wLL, w ∈ Ts) (hC1 : ∀ w ∈ wC, w ∈ Ts) (hM1 : ∀ w ∈ wM, w ∈ Ts) (hG : lx_G l s D q q5 sa) (hLn : L ≤ 3072) (hn : 6 * n + 6 ≤ L) (hq : ltp_equal vl K (xs (6 * n + 1)) (xs (6 * n + 2)) (xs (6 * n + 3)) (xs (6 * n + 4)) (xs (6 * n + 5)) zc zm = some S1) (hM : lx_M D q q5 s vl u w zc zm H locs) (hl : lv_has ls 8 [(0, .ref b), (1, .ref (u 0)), (2, .ref (w 0)), (3, .ref (u 52001)), (4, .int (nI (6 * n)))]) (hc : cells + 0 ≤ 601024) (hs : slots + 0 ≤ 7293033) (kk : ∀ (zc1 zm1 : ow_MS) (H1 : Heap) (locs1 : List Loc) (ls1 : Array Slot), lx_M D q q5 s vl u w zc1 zm1 H1 locs1 → lv_has ls1 8 [(0, .ref b), (1, .ref (u 0)), (2, .ref (w 0)), (3, .ref (u 52001)), (4, .int (nI (6 * n)))] → some (vl, zc1, zm1) = some S1 → W p l e room_1 s m args below meth c H1 locs1 (cells + 0) (slots + 0) Q (F0 m 1693 ls1 [])) : W p l e room_1 s m args below meth c H locs cells slots Q (F0 m 1536 ls []) := by
  have hbA : ¬ lx_A s b := Nat.not_le.mpr hbl
  generalize e1 : xs (6 * n + 1) = x1 at hq
  generalize e2 : xs (6 * n + 2) = x2 at hq
  generalize e3 : xs (6 * n + 3) = x3 at hq
  generalize e4 : xs (6 * n + 4) = x4 at hq
  generalize e5 : xs (6 * n + 5) = x5 at hq
  unfold ltp_equal at hq
  refine lv_aload_n hx hb dz_1536 rfl (lv_at hl 1 rfl) ?_
  refine lv_aload_n hx hb dz_1537 rfl (lv_at hl 0 rfl) ?_
  refine lv_iload hx hb dz_1538 (lv_at hl 4 rfl) ?_
  refine lv_iconst (v := 1) hx hb dz_1540 (by decide) ?_
  refine lv_iadd hx hb dz_1541 ?_
  refine ow_topi (y := nI (6 * n + 1)) (nI_add (6 * n) 1) ?_
  refine va_sld hx hb hX hbl hbA hM.2.2.2.2.2 (vp_in_nI (n := 6 * n + 1) (N := L) (by omega) (by omega)) dz_1542 ?_
  refine ow_topi (y := x1) ((congrArg xs (nI_clamp (by omega))).trans e1) ?_
  refine lv_aload_n hx hb dz_1543 rfl (lv_at hl 0 rfl) ?_
  refine lv_iload hx hb dz_1544 (lv_at hl 4 rfl) ?_
  refine lv_iconst (v := 2) hx hb dz_1546 (by decide) ?_
  refine lv_iadd hx hb dz_1547 ?_
  refine ow_topi (y := nI (6 * n + 2)) (nI_add (6 * n) 2) ?_
  refine va_sld hx hb hX hbl hbA hM.2.2.2.2.2 (vp_in_nI (n := 6 * n + 2) (N := L) (by omega) (by omega)) dz_1548 ?_
  refine ow_topi (y := x2) ((congrArg xs (nI_clamp (by omega))).trans e2) ?_
  obtain ⟨v2, zc1, hcq, hq⟩ := tw_cl1 hq
  refine lx_cls hM (va_runV (As := [.int x1, .int x2]) (rest := []) ⟨hx, hb, hml, hown, hts⟩ (kc_X11_equal l D q vl u hM.2.2.1.1 K 0 x1 x2 (by unfold cw_X11 ci_X11; exact List.mem_singleton.mpr rfl) zc zc1 v2 hcq) (cwV 2 hts (lx_gV (lx_all wC_good rfl) (lx_mem hC1 (hZ _ zq_256)) (hZ _ zq_257) (hZ _ zq_258) (hZ _ zq_259) (hZ _ zq_38) rfl rfl rfl rfl) rfl rfl rfl cdd_X11_equal ⟨(Nat.le_of_ble_eq_true rfl), (Nat.le_of_ble_eq_true rfl)⟩) (lx_preC hG hM) rfl rfl hl.1 rfl (lv_room (Nat.le_of_ble_eq_true rfl)) dz_1549 ⟨(by show _ ≤ 601024; omega), (by show _ ≤ 7293033; omega)⟩) (fun H locs hM => ?_)
  refine lv_pop hx hb dz_1552 rfl ?_
  refine lv_aload_n hx hb dz_1553 rfl (lv_at hl 2 rfl) ?_
  refine lv_aload_n hx hb dz_1554 rfl (lv_at hl 0 rfl) ?_
  refine lv_iload hx hb dz_1555 (lv_at hl 4 rfl) ?_
  refine lv_iconst (v := 1) hx hb dz_1557 (by decide) ?_
  refine lv_iadd hx hb dz_1558 ?_
  refine ow_topi (y := nI (6 * n + 1)) (nI_add (6 * n) 1) ?_
  refine va_sld hx hb hX hbl hbA hM.2.2.2.2.2 (vp_in_nI (n := 6 * n + 1) (N := L) (by omega) (by omega)) dz_1559 ?_
  refine ow_topi (y := x1) ((congrArg xs (nI_clamp (by omega))).trans e1) ?_
  refine lv_aload_n hx hb dz_1560 rfl (lv_at hl 0 rfl) ?_
  refine lv_iload hx hb dz_1561 (lv_at hl 4 rfl) ?_
  refine lv_iconst (v := 2) hx hb dz_1563 (by decide) ?_
  refine lv_iadd hx hb dz_1564 ?_
  refine ow_topi (y := nI (6 * n + 2)) (nI_add (6 * n) 2) ?_
  refine va_sld hx hb hX hbl hbA hM.2.2.2.2.2 (vp_in_nI (n := 6 * n + 2) (N := L) (by omega) (by omega)) dz_1565 ?_
  refine ow_topi (y := x2) ((congrArg xs (nI_clamp (by omega))).trans e2) ?_
  obtain ⟨v4, zm3, hcq, hq⟩ := tw_cl1 hq
  refine lx_refi hM (va_runV (As := [.int x1, .int x2]) (rest := []) ⟨hx, hb, hml, hown, hts⟩ (km_X13_equal l D q5 w hM.2.2.2.1.1 K x1 x2 zm zm3 v4 hcq) (cwV 2 hts (lx_gV (lx_all wM_good rfl) (lx_mem hM1 (hZ _ zq_260)) (hZ _ zq_261) (hZ _ zq_262) (hZ _ zq_263) (hZ _ zq_8) rfl rfl rfl rfl) rfl rfl rfl cd_X13_equal ⟨(Nat.le_of_ble_eq_true rfl), (Nat.le_of_ble_eq_true rfl)⟩) (lx_preM hG hM) rfl rfl hl.1 rfl (lv_room (Nat.le_of_ble_eq_true rfl)) dz_1566 ⟨(by show _ ≤ 601024; omega), (by show _ ≤ 7293033; omega)⟩) (fun H locs hM => ?_)
  refine lv_pop hx hb dz_1569 rfl ?_
  refine lv_goto (tgt := 1693) hx hb dz_1570 (by decide) ?_
  exact kk _ _ H locs ls hM (lv_sub hl [0, 1, 2, 3, 4] rfl) hq
theorem dz_1573 : decode cL_law 1573 = .ok (.aload_n 1, 1) := dw_at dwl_13 (p := 13) rfl (by decide +kernel)
theorem dz_1574 : decode cL_law 1574 = .ok (.aload_n 0, 1) := dw_at dwl_13 (p := 14) rfl (by decide +kernel)
theorem dz_1575 : decode cL_law 1575 = .ok (.iload 4, 2) := dw_at dwl_13 (p := 15) rfl (by decide +kernel)
theorem dz_1577 : decode cL_law 1577 = .ok (.iconst 1, 1) := dw_at dwl_13 (p := 17) rfl (by decide +kernel)
theorem dz_1578 : decode cL_law 1578 = .ok (.iadd, 1) := dw_at dwl_13 (p := 18) rfl (by decide +kernel)
theorem dz_1579 : decode cL_law 1579 = .ok (.iaload, 1) := dw_at dwl_13 (p := 19) rfl (by decide +kernel)
theorem dz_1580 : decode cL_law 1580 = .ok (.aload_n 3, 1) := dw_at dwl_13 (p := 20) rfl (by decide +kernel)
theorem dz_1581 : decode cL_law 1581 = .ok (.invokestatic 258, 3) := dw_at dwl_13 (p := 21) rfl (by decide +kernel)
theorem dz_1584 : decode cL_law 1584 = .ok (.istore 5, 2) := dw_at dwl_13 (p := 24) rfl (by decide +kernel)
theorem dz_1586 : decode cL_law 1586 = .ok (.aload_n 2, 1) := dw_at dwl_13 (p := 26) rfl (by decide +kernel)
theorem dz_1587 : decode cL_law 1587 = .ok (.aload_n 0, 1) := dw_at dwl_13 (p := 27) rfl (by decide +kernel)
theorem dz_1588 : decode cL_law 1588 = .ok (.iload 4, 2) := dw_at dwl_13 (p := 28) rfl (by decide +kernel)
theorem dz_1590 : decode cL_law 1590 = .ok (.iconst 1, 1) := dw_at dwl_13 (p := 30) rfl (by decide +kernel)
theorem dz_1591 : decode cL_law 1591 = .ok (.iadd, 1) := dw_at dwl_13 (p := 31) rfl (by decide +kernel)
theorem dz_1592 : decode cL_law 1592 = .ok (.iaload, 1) := dw_at dwl_13 (p := 32) rfl (by decide +kernel)
theorem dz_1593 : decode cL_law 1593 = .ok (.invokevirtual 260, 3) := dw_at dwl_13 (p := 33) rfl (by decide +kernel)
theorem dz_1596 : decode cL_law 1596 = .ok (.istore 6, 2) := dw_at dwl_13 (p := 36) rfl (by decide +kernel)
theorem dz_1598 : decode cL_law 1598 = .ok (.goto 95, 3) := dw_at dwl_13 (p := 38) rfl (by decide +kernel)
def ltp_summit (vl : Nat → Nat) (K : Nat) (x1 : Int32) (x2 : Int32) (x3 : Int32) (x4 : Int32) (x5 : Int32) (zc zm : ow_MS) : Option ow_LwS :=
 cs1 (le_L_summit vl K 0 x1 zc) fun v2 zc1 => cs1 (qe_X13_summit K x1 zm) fun v4 zm3 => some (vl, zc1, zm3)
set_option maxHeartbeats 4000000 in
set_option maxRecDepth 100000 in
theorem lxc_summit {p : Program} {l : Launch} {e : Env} {s : State} {m : MethodId} {args : Array Value} {below : List Frame} {meth : Method} {c : Code} {b L K n : Nat} {xs : Nat → Int32} {D : va_G} {q : Nat → ClassId} {q5 : ow_Q5} {vl u w sa : Nat → Nat} {zc zm : ow_MS} {S1 : ow_LwS} {Ts : List Cond} {Q : State → Prop} {H : Heap} {locs : List Loc} {ls : Array Slot} {cells slots : Nat} (hx : p.tables.exec = Jvm.exec) (hb : c.code = cL_law) (hml : c.maxLocals = 8) (hown : s.vm.findClass RL = some m.cls) (hts : ∀ w ∈ Ts, w.before args s = true) (hX : va_X b L xs s s.heap) (hbl : b < s.heap.size) (hZ : ∀ w ∈ wZ, w ∈ Ts) (hL1 : ∀ w ∈ wLL, w ∈ Ts) (hC1 : ∀ w ∈ wC, w ∈ Ts) (hM1 : ∀ w ∈ wM, w ∈ Ts) (hG : lx_G l s D q q5 sa) (hLn : L ≤ 3072) (hn : 6 * n + 6 ≤ L) (hq : ltp_summit vl K (xs (6 * n + 1)) (xs (6 * n + 2)) (xs (6 * n + 3)) (xs (6 * n + 4)) (xs (6 * n + 5)) zc zm = some S1) (hM : lx_M D q q5 s vl u w zc zm H locs) (hl : lv_has ls 8 [(0, .ref b), (1, .ref (u 0)), (2, .ref (w 0)), (3, .ref (u 52001)), (4, .int (nI (6 * n)))]) (hc : cells + 2 ≤ 601024) (hs : slots + 12 ≤ 7293033) (kk : ∀ (zc1 zm1 : ow_MS) (H1 : Heap) (locs1 : List Loc) (ls1 : Array Slot), lx_M D q q5 s vl u w zc1 zm1 H1 locs1 → lv_has ls1 8 [(0, .ref b), (1, .ref (u 0)), (2, .ref (w 0)), (3, .ref (u 52001)), (4, .int (nI (6 * n)))] → some (vl, zc1, zm1) = some S1 → W p l e room_1 s m args below meth c H1 locs1 (cells + 2) (slots + 12) Q (F0 m 1693 ls1 [])) : W p l e room_1 s m args below meth c H locs cells slots Q (F0 m 1573 ls []) := by
  have hbA : ¬ lx_A s b := Nat.not_le.mpr hbl
  generalize e1 : xs (6 * n + 1) = x1 at hq
  generalize e2 : xs (6 * n + 2) = x2 at hq
  generalize e3 : xs (6 * n + 3) = x3 at hq
  generalize e4 : xs (6 * n + 4) = x4 at hq
  generalize e5 : xs (6 * n + 5) = x5 at hq
  unfold ltp_summit at hq
  refine lv_aload_n hx hb dz_1573 rfl (lv_at hl 1 rfl) ?_
  refine lv_aload_n hx hb dz_1574 rfl (lv_at hl 0 rfl) ?_
  refine lv_iload hx hb dz_1575 (lv_at hl 4 rfl) ?_
  refine lv_iconst (v := 1) hx hb dz_1577 (by decide) ?_
  refine lv_iadd hx hb dz_1578 ?_
  refine ow_topi (y := nI (6 * n + 1)) (nI_add (6 * n) 1) ?_
  refine va_sld hx hb hX hbl hbA hM.2.2.2.2.2 (vp_in_nI (n := 6 * n + 1) (N := L) (by omega) (by omega)) dz_1579 ?_
  refine ow_topi (y := x1) ((congrArg xs (nI_clamp (by omega))).trans e1) ?_
  refine lv_aload_n hx hb dz_1580 rfl (lv_at hl 3 rfl) ?_
  obtain ⟨v2, zc1, hcq, hq⟩ := tw_cl1 hq
  refine lx_wrap hM (vx_runSX (As := [.ref (u 0), .int x1, .ref (u 52001)]) (rest := []) ⟨hx, hb, hml, hown, hts⟩ (kl_L_summit l D q vl u hM.2.2.1.1 hG.1 sa K 0 x1 (by unfold cw_X11 ci_X11; exact List.mem_singleton.mpr rfl) zc zc1 v2 hcq) (vx_cwSW 3 hts (lx_gS (lx_all wLL_good rfl) (lx_mem hL1 (hZ _ zq_264)) (hZ _ zq_265) (hZ _ zq_266) (hZ _ zq_3) rfl rfl rfl) rfl rfl rfl (by decide +kernel) ⟨(Nat.le_of_ble_eq_true rfl), (Nat.le_of_ble_eq_true rfl)⟩) (lx_preL hG hM) rfl rfl hl.1 rfl (lv_room (Nat.le_of_ble_eq_true rfl)) dz_1581 ⟨(by show _ ≤ 601024; omega), (by show _ ≤ 7293033; omega)⟩) (fun H locs hM => ?_)
  refine lv_istore (lv' := [(5, .int v2), (0, .ref b), (1, .ref (u 0)), (2, .ref (w 0)), (3, .ref (u 52001)), (4, .int (nI (6 * n)))]) hx hb dz_1584 hl (by decide) rfl (fun ls hl => ?_)
  refine lv_aload_n hx hb dz_1586 rfl (lv_at hl 3 rfl) ?_
  refine lv_aload_n hx hb dz_1587 rfl (lv_at hl 1 rfl) ?_
  refine lv_iload hx hb dz_1588 (lv_at hl 5 rfl) ?_
  refine lv_iconst (v := 1) hx hb dz_1590 (by decide) ?_
  refine lv_iadd hx hb dz_1591 ?_
  refine ow_topi (y := nI (6 * n + 1)) (nI_add (6 * n) 1) ?_
  refine va_sld hx hb hX hbl hbA hM.2.2.2.2.2 (vp_in_nI (n := 6 * n + 1) (N := L) (by omega) (by omega)) dz_1592 ?_
  refine ow_topi (y := x1) ((congrArg xs (nI_clamp (by omega))).trans e1) ?_
  obtain ⟨v4, zm3, hcq, hq⟩ := tw_cl1 hq
  refine lx_refi hM (va_runV (As := [.int x1]) (rest := []) ⟨hx, hb, hml, hown, hts⟩ (km_X13_summit l D q5 w hM.2.2.2.1.1 K x1 zm zm3 v4 hcq) (cwV 1 hts (lx_gV (lx_all wM_good rfl) (lx_mem hM1 (hZ _ zq_267)) (hZ _ zq_268) (hZ _ zq_269) (hZ _ zq_270) (hZ _ zq_8) rfl rfl rfl rfl) rfl rfl rfl cd_X13_summit ⟨(Nat.le_of_ble_eq_true rfl), (Nat.le_of_ble_eq_true rfl)⟩) (lx_preM hG hM) rfl rfl hl.1 rfl (lv_room (Nat.le_of_ble_eq_true rfl)) dz_1593 ⟨(by show _ ≤ 601024; omega), (by show _ ≤ 7293033; omega)⟩) (fun H locs hM => ?_)
  refine lv_istore (lv' := [(6, .int v4), (5, .int v2), (0, .ref b), (1, .ref (u 0)), (2, .ref (w 0)), (3, .ref (u 52001)), (4, .int (nI (6 * n)))]) hx hb dz_1596 hl (by decide) rfl (fun ls hl => ?_)
  refine lv_goto (tgt := 1693) hx hb dz_1598 (by decide) ?_
  exact kk _ _ H locs ls hM (lv_sub hl [2, 3, 4, 5, 6] rfl) hq
theorem dz_1601 : decode cL_law 1601 = .ok (.aload_n 1, 1) := dw_at dwl_13 (p := 41) rfl (by decide +kernel)
theorem dz_1602 : decode cL_law 1602 = .ok (.aload_n 0, 1) := dw_at dwl_13 (p := 42) rfl (by decide +kernel)
theorem dz_1603 : decode cL_law 1603 = .ok (.iload 4, 2) := dw_at dwl_13 (p := 43) rfl (by decide +kernel)
theorem dz_1605 : decode cL_law 1605 = .ok (.iconst 1, 1) := dw_at dwl_13 (p := 45) rfl (by decide +kernel)
theorem dz_1606 : decode cL_law 1606 = .ok (.iadd, 1) := dw_at dwl_13 (p := 46) rfl (by decide +kernel)
theorem dz_1607 : decode cL_law 1607 = .ok (.iaload, 1) := dw_at dwl_13 (p := 47) rfl (by decide +kernel)
theorem dz_1608 : decode cL_law 1608 = .ok (.aload_n 0, 1) := dw_at dwl_13 (p := 48) rfl (by decide +kernel)
theorem dz_1609 : decode cL_law 1609 = .ok (.iload 4, 2) := dw_at dwl_13 (p := 49) rfl (by decide +kernel)
theorem dz_1611 : decode cL_law 1611 = .ok (.iconst 2, 1) := dw_at dwl_13 (p := 51) rfl (by decide +kernel)
theorem dz_1612 : decode cL_law 1612 = .ok (.iadd, 1) := dw_at dwl_13 (p := 52) rfl (by decide +kernel)
theorem dz_1613 : decode cL_law 1613 = .ok (.iaload, 1) := dw_at dwl_13 (p := 53) rfl (by decide +kernel)
theorem dz_1614 : decode cL_law 1614 = .ok (.aload_n 3, 1) := dw_at dwl_13 (p := 54) rfl (by decide +kernel)
theorem dz_1615 : decode cL_law 1615 = .ok (.invokestatic 261, 3) := dw_at dwl_13 (p := 55) rfl (by decide +kernel)
theorem dz_1618 : decode cL_law 1618 = .ok (.istore 5, 2) := dw_at dwl_13 (p := 58) rfl (by decide +kernel)
theorem dz_1620 : decode cL_law 1620 = .ok (.aload_n 2, 1) := dw_at dwl_13 (p := 60) rfl (by decide +kernel)
theorem dz_1621 : decode cL_law 1621 = .ok (.aload_n 0, 1) := dw_at dwl_13 (p := 61) rfl (by decide +kernel)
theorem dz_1622 : decode cL_law 1622 = .ok (.iload 4, 2) := dw_at dwl_13 (p := 62) rfl (by decide +kernel)
theorem dz_1624 : decode cL_law 1624 = .ok (.iconst 1, 1) := dw_at dwl_13 (p := 64) rfl (by decide +kernel)
theorem dz_1625 : decode cL_law 1625 = .ok (.iadd, 1) := dw_at dwl_13 (p := 65) rfl (by decide +kernel)
theorem dz_1626 : decode cL_law 1626 = .ok (.iaload, 1) := dw_at dwl_13 (p := 66) rfl (by decide +kernel)
theorem dz_1627 : decode cL_law 1627 = .ok (.aload_n 0, 1) := dw_at dwl_13 (p := 67) rfl (by decide +kernel)
theorem dz_1628 : decode cL_law 1628 = .ok (.iload 4, 2) := dw_at dwl_13 (p := 68) rfl (by decide +kernel)
theorem dz_1630 : decode cL_law 1630 = .ok (.iconst 2, 1) := dw_at dwl_13 (p := 70) rfl (by decide +kernel)
theorem dz_1631 : decode cL_law 1631 = .ok (.iadd, 1) := dw_at dwl_13 (p := 71) rfl (by decide +kernel)
theorem dz_1632 : decode cL_law 1632 = .ok (.iaload, 1) := dw_at dwl_13 (p := 72) rfl (by decide +kernel)
theorem dz_1633 : decode cL_law 1633 = .ok (.invokevirtual 263, 3) := dw_at dwl_13 (p := 73) rfl (by decide +kernel)
theorem dz_1636 : decode cL_law 1636 = .ok (.istore 6, 2) := dw_at dwl_13 (p := 76) rfl (by decide +kernel)
theorem dz_1638 : decode cL_law 1638 = .ok (.goto 55, 3) := dw_at dwl_13 (p := 78) rfl (by decide +kernel)
def ltp_conjugate (vl : Nat → Nat) (K : Nat) (x1 : Int32) (x2 : Int32) (x3 : Int32) (x4 : Int32) (x5 : Int32) (zc zm : ow_MS) : Option ow_LwS :=
 cs1 (le_L_conjugate vl K 0 x1 x2 zc) fun v2 zc1 => cs1 (qe_X13_conjugate K x1 x2 zm) fun v4 zm3 => some (vl, zc1, zm3)
set_option maxHeartbeats 4000000 in
set_option maxRecDepth 100000 in
theorem lxc_conjugate {p : Program} {l : Launch} {e : Env} {s : State} {m : MethodId} {args : Array Value} {below : List Frame} {meth : Method} {c : Code} {b L K n : Nat} {xs : Nat → Int32} {D : va_G} {q : Nat → ClassId} {q5 : ow_Q5} {vl u w sa : Nat → Nat} {zc zm : ow_MS} {S1 : ow_LwS} {Ts : List Cond} {Q : State → Prop} {H : Heap} {locs : List Loc} {ls : Array Slot} {cells slots : Nat} (hx : p.tables.exec = Jvm.exec) (hb : c.code = cL_law) (hml : c.maxLocals = 8) (hown : s.vm.findClass RL = some m.cls) (hts : ∀ w ∈ Ts, w.before args s = true) (hX : va_X b L xs s s.heap) (hbl : b < s.heap.size) (hZ : ∀ w ∈ wZ, w ∈ Ts) (hL1 : ∀ w ∈ wLL, w ∈ Ts) (hC1 : ∀ w ∈ wC, w ∈ Ts) (hM1 : ∀ w ∈ wM, w ∈ Ts) (hG : lx_G l s D q q5 sa) (hLn : L ≤ 3072) (hn : 6 * n + 6 ≤ L) (hq : ltp_conjugate vl K (xs (6 * n + 1)) (xs (6 * n + 2)) (xs (6 * n + 3)) (xs (6 * n + 4)) (xs (6 * n + 5)) zc zm = some S1) (hM : lx_M D q q5 s vl u w zc zm H locs) (hl : lv_has ls 8 [(0, .ref b), (1, .ref (u 0)), (2, .ref (w 0)), (3, .ref (u 52001)), (4, .int (nI (6 * n)))]) (hc : cells + 4 ≤ 601024) (hs : slots + 24 ≤ 7293033) (kk : ∀ (zc1 zm1 : ow_MS) (H1 : Heap) (locs1 : List Loc) (ls1 : Array Slot), lx_M D q q5 s vl u w zc1 zm1 H1 locs1 → lv_has ls1 8 [(0, .ref b), (1, .ref (u 0)), (2, .ref (w 0)), (3, .ref (u 52001)), (4, .int (nI (6 * n)))] → some (vl, zc1, zm1) = some S1 → W p l e room_1 s m args below meth c H1 locs1 (cells + 4) (slots + 24) Q (F0 m 1693 ls1 [])) : W p l e room_1 s m args below meth c H locs cells slots Q (F0 m 1601 ls []) := by
  have hbA : ¬ lx_A s b := Nat.not_le.mpr hbl
  generalize e1 : xs (6 * n + 1) = x1 at hq
  generalize e2 : xs (6 * n + 2) = x2 at hq
  generalize e3 : xs (6 * n + 3) = x3 at hq
  generalize e4 : xs (6 * n + 4) = x4 at hq
  generalize e5 : xs (6 * n + 5) = x5 at hq
  unfold ltp_conjugate at hq
  refine lv_aload_n hx hb dz_1601 rfl (lv_at hl 1 rfl) ?_
  refine lv_aload_n hx hb dz_1602 rfl (lv_at hl 0 rfl) ?_
  refine lv_iload hx hb dz_1603 (lv_at hl 4 rfl) ?_
  refine lv_iconst (v := 1) hx hb dz_1605 (by decide) ?_
  refine lv_iadd hx hb dz_1606 ?_
  refine ow_topi (y := nI (6 * n + 1)) (nI_add (6 * n) 1) ?_
  refine va_sld hx hb hX hbl hbA hM.2.2.2.2.2 (vp_in_nI (n := 6 * n + 1) (N := L) (by omega) (by omega)) dz_1607 ?_
  refine ow_topi (y := x1) ((congrArg xs (nI_clamp (by omega))).trans e1) ?_
  refine lv_aload_n hx hb dz_1608 rfl (lv_at hl 0 rfl) ?_
  refine lv_iload hx hb dz_1609 (lv_at hl 4 rfl) ?_
  refine lv_iconst (v := 2) hx hb dz_1611 (by decide) ?_
  refine lv_iadd hx hb dz_1612 ?_
  refine ow_topi (y := nI (6 * n + 2)) (nI_add (6 * n) 2) ?_
  refine va_sld hx hb hX hbl hbA hM.2.2.2.2.2 (vp_in_nI (n := 6 * n + 2) (N := L) (by omega) (by omega)) dz_1613 ?_
  refine ow_topi (y := x2) ((congrArg xs (nI_clamp (by omega))).trans e2) ?_
  refine lv_aload_n hx hb dz_1614 rfl (lv_at hl 3 rfl) ?_
  obtain ⟨v2, zc1, hcq, hq⟩ := tw_cl1 hq
  refine lx_wrap hM (vx_runSX (As := [.ref (u 0), .int x1, .int x2, .ref (u 52001)]) (rest := []) ⟨hx, hb, hml, hown, hts⟩ (kl_L_conjugate l D q vl u hM.2.2.1.1 hG.1 sa K 0 x1 x2 (by unfold cw_X11 ci_X11; exact List.mem_singleton.mpr rfl) zc zc1 v2 hcq) (vx_cwSW 4 hts (lx_gS (lx_all wLL_good rfl) (lx_mem hL1 (hZ _ zq_271)) (hZ _ zq_272) (hZ _ zq_273) (hZ _ zq_3) rfl rfl rfl) rfl rfl rfl (by decide +kernel) ⟨(Nat.le_of_ble_eq_true rfl), (Nat.le_of_ble_eq_true rfl)⟩) (lx_preL hG hM) rfl rfl hl.1 rfl (lv_room (Nat.le_of_ble_eq_true rfl)) dz_1615 ⟨(by show _ ≤ 601024; omega), (by show _ ≤ 7293033; omega)⟩) (fun H locs hM => ?_)
  refine lv_istore (lv' := [(5, .int v2), (0, .ref b), (1, .ref (u 0)), (2, .ref (w 0)), (3, .ref (u 52001)), (4, .int (nI (6 * n)))]) hx hb dz_1618 hl (by decide) rfl (fun ls hl => ?_)
  refine lv_aload_n hx hb dz_1620 rfl (lv_at hl 3 rfl) ?_
  refine lv_aload_n hx hb dz_1621 rfl (lv_at hl 1 rfl) ?_
  refine lv_iload hx hb dz_1622 (lv_at hl 5 rfl) ?_
  refine lv_iconst (v := 1) hx hb dz_1624 (by decide) ?_
  refine lv_iadd hx hb dz_1625 ?_
  refine ow_topi (y := nI (6 * n + 1)) (nI_add (6 * n) 1) ?_
  refine va_sld hx hb hX hbl hbA hM.2.2.2.2.2 (vp_in_nI (n := 6 * n + 1) (N := L) (by omega) (by omega)) dz_1626 ?_
  refine ow_topi (y := x1) ((congrArg xs (nI_clamp (by omega))).trans e1) ?_
  refine lv_aload_n hx hb dz_1627 rfl (lv_at hl 1 rfl) ?_
  refine lv_iload hx hb dz_1628 (lv_at hl 5 rfl) ?_
  refine lv_iconst (v := 2) hx hb dz_1630 (by decide) ?_
  refine lv_iadd hx hb dz_1631 ?_
  refine ow_topi (y := nI (6 * n + 2)) (nI_add (6 * n) 2) ?_
  refine va_sld hx hb hX hbl hbA hM.2.2.2.2.2 (vp_in_nI (n := 6 * n + 2) (N := L) (by omega) (by omega)) dz_1632 ?_
  refine ow_topi (y := x2) ((congrArg xs (nI_clamp (by omega))).trans e2) ?_
  obtain ⟨v4, zm3, hcq, hq⟩ := tw_cl1 hq
  refine lx_refi hM (va_runV (As := [.int x1, .int x2]) (rest := []) ⟨hx, hb, hml, hown, hts⟩ (km_X13_conjugate l D q5 w hM.2.2.2.1.1 K x1 x2 zm zm3 v4 hcq) (cwV 2 hts (lx_gV (lx_all wM_good rfl) (lx_mem hM1 (hZ _ zq_274)) (hZ _ zq_275) (hZ _ zq_276) (hZ _ zq_277) (hZ _ zq_8) rfl rfl rfl rfl) rfl rfl rfl cd_X13_conjugate ⟨(Nat.le_of_ble_eq_true rfl), (Nat.le_of_ble_eq_true rfl)⟩) (lx_preM hG hM) rfl rfl hl.1 rfl (lv_room (Nat.le_of_ble_eq_true rfl)) dz_1633 ⟨(by show _ ≤ 601024; omega), (by show _ ≤ 7293033; omega)⟩) (fun H locs hM => ?_)
  refine lv_istore (lv' := [(6, .int v4), (5, .int v2), (0, .ref b), (1, .ref (u 0)), (2, .ref (w 0)), (3, .ref (u 52001)), (4, .int (nI (6 * n)))]) hx hb dz_1636 hl (by decide) rfl (fun ls hl => ?_)
  refine lv_goto (tgt := 1693) hx hb dz_1638 (by decide) ?_
  exact kk _ _ H locs ls hM (lv_sub hl [2, 3, 4, 5, 6] rfl) hq
theorem dz_1641 : decode cL_law 1641 = .ok (.aload_n 1, 1) := dw_at dwl_13 (p := 81) rfl (by decide +kernel)
theorem dz_1642 : decode cL_law 1642 = .ok (.aload_n 0, 1) := dw_at dwl_13 (p := 82) rfl (by decide +kernel)
theorem dz_1643 : decode cL_law 1643 = .ok (.iload 4, 2) := dw_at dwl_13 (p := 83) rfl (by decide +kernel)
theorem dz_1645 : decode cL_law 1645 = .ok (.iconst 1, 1) := dw_at dwl_13 (p := 85) rfl (by decide +kernel)
theorem dz_1646 : decode cL_law 1646 = .ok (.iadd, 1) := dw_at dwl_13 (p := 86) rfl (by decide +kernel)
theorem dz_1647 : decode cL_law 1647 = .ok (.iaload, 1) := dw_at dwl_13 (p := 87) rfl (by decide +kernel)
theorem dz_1648 : decode cL_law 1648 = .ok (.aload_n 0, 1) := dw_at dwl_13 (p := 88) rfl (by decide +kernel)
theorem dz_1649 : decode cL_law 1649 = .ok (.iload 4, 2) := dw_at dwl_13 (p := 89) rfl (by decide +kernel)
theorem dz_1651 : decode cL_law 1651 = .ok (.iconst 2, 1) := dw_at dwl_13 (p := 91) rfl (by decide +kernel)
theorem dz_1652 : decode cL_law 1652 = .ok (.iadd, 1) := dw_at dwl_13 (p := 92) rfl (by decide +kernel)
theorem dz_1653 : decode cL_law 1653 = .ok (.iaload, 1) := dw_at dwl_13 (p := 93) rfl (by decide +kernel)
theorem dz_1654 : decode cL_law 1654 = .ok (.aload_n 0, 1) := dw_at dwl_13 (p := 94) rfl (by decide +kernel)
theorem dz_1655 : decode cL_law 1655 = .ok (.iload 4, 2) := dw_at dwl_13 (p := 95) rfl (by decide +kernel)
theorem dz_1657 : decode cL_law 1657 = .ok (.iconst 3, 1) := dw_at dwl_13 (p := 97) rfl (by decide +kernel)
theorem dz_1658 : decode cL_law 1658 = .ok (.iadd, 1) := dw_at dwl_13 (p := 98) rfl (by decide +kernel)
theorem dz_1659 : decode cL_law 1659 = .ok (.iaload, 1) := dw_at dwl_13 (p := 99) rfl (by decide +kernel)
theorem dz_1660 : decode cL_law 1660 = .ok (.aload_n 3, 1) := dw_at dwl_13 (p := 100) rfl (by decide +kernel)
theorem dz_1661 : decode cL_law 1661 = .ok (.invokestatic 264, 3) := dw_at dwl_13 (p := 101) rfl (by decide +kernel)
theorem dz_1664 : decode cL_law 1664 = .ok (.istore 5, 2) := dw_at dwl_13 (p := 104) rfl (by decide +kernel)
theorem dz_1666 : decode cL_law 1666 = .ok (.aload_n 2, 1) := dw_at dwl_13 (p := 106) rfl (by decide +kernel)
theorem dz_1667 : decode cL_law 1667 = .ok (.aload_n 0, 1) := dw_at dwl_13 (p := 107) rfl (by decide +kernel)
theorem dz_1668 : decode cL_law 1668 = .ok (.iload 4, 2) := dw_at dwl_13 (p := 108) rfl (by decide +kernel)
theorem dz_1670 : decode cL_law 1670 = .ok (.iconst 1, 1) := dw_at dwl_13 (p := 110) rfl (by decide +kernel)
theorem dz_1671 : decode cL_law 1671 = .ok (.iadd, 1) := dw_at dwl_13 (p := 111) rfl (by decide +kernel)
theorem dz_1672 : decode cL_law 1672 = .ok (.iaload, 1) := dw_at dwl_13 (p := 112) rfl (by decide +kernel)
theorem dz_1673 : decode cL_law 1673 = .ok (.aload_n 0, 1) := dw_at dwl_13 (p := 113) rfl (by decide +kernel)
theorem dz_1674 : decode cL_law 1674 = .ok (.iload 4, 2) := dw_at dwl_13 (p := 114) rfl (by decide +kernel)
theorem dz_1676 : decode cL_law 1676 = .ok (.iconst 2, 1) := dw_at dwl_13 (p := 116) rfl (by decide +kernel)
theorem dz_1677 : decode cL_law 1677 = .ok (.iadd, 1) := dw_at dwl_13 (p := 117) rfl (by decide +kernel)
theorem dz_1678 : decode cL_law 1678 = .ok (.iaload, 1) := dw_at dwl_13 (p := 118) rfl (by decide +kernel)
theorem dz_1679 : decode cL_law 1679 = .ok (.aload_n 0, 1) := dw_at dwl_13 (p := 119) rfl (by decide +kernel)
theorem dz_1680 : decode cL_law 1680 = .ok (.iload 4, 2) := dw_at dwl_14 (p := 0) rfl (by decide +kernel)
theorem dz_1682 : decode cL_law 1682 = .ok (.iconst 3, 1) := dw_at dwl_14 (p := 2) rfl (by decide +kernel)
theorem dz_1683 : decode cL_law 1683 = .ok (.iadd, 1) := dw_at dwl_14 (p := 3) rfl (by decide +kernel)
theorem dz_1684 : decode cL_law 1684 = .ok (.iaload, 1) := dw_at dwl_14 (p := 4) rfl (by decide +kernel)
theorem dz_1685 : decode cL_law 1685 = .ok (.invokevirtual 266, 3) := dw_at dwl_14 (p := 5) rfl (by decide +kernel)
theorem dz_1688 : decode cL_law 1688 = .ok (.istore 6, 2) := dw_at dwl_14 (p := 8) rfl (by decide +kernel)
theorem dz_1690 : decode cL_law 1690 = .ok (.goto 3, 3) := dw_at dwl_14 (p := 10) rfl (by decide +kernel)
def ltp_two (vl : Nat → Nat) (K : Nat) (x1 : Int32) (x2 : Int32) (x3 : Int32) (x4 : Int32) (x5 : Int32) (zc zm : ow_MS) : Option ow_LwS :=
 cs1 (le_L_two vl K 0 x1 x2 x3 zc) fun v2 zc1 => cs1 (qe_X13_two K x1 x2 x3 zm) fun v4 zm3 => some (vl, zc1, zm3)
set_option maxHeartbeats 4000000 in
set_option maxRecDepth 100000 in
theorem lxc_two {p : Program} {l : Launch} {e : Env} {s : State} {m : MethodId} {args : Array Value} {below : List Frame} {meth : Method} {c : Code} {b L K n : Nat} {xs : Nat → Int32} {D : va_G} {q : Nat → ClassId} {q5 : ow_Q5} {vl u w sa : Nat → Nat} {zc zm : ow_MS} {S1 : ow_LwS} {Ts : List Cond} {Q : State → Prop} {H : Heap} {locs : List Loc} {ls : Array Slot} {cells slots : Nat} (hx : p.tables.exec = Jvm.exec) (hb : c.code = cL_law) (hml : c.maxLocals = 8) (hown : s.vm.findClass RL = some m.cls) (hts : ∀ w ∈ Ts, w.before args s = true) (hX : va_X b L xs s s.heap) (hbl : b < s.heap.size) (hZ : ∀ w ∈ wZ, w ∈ Ts) (hL1 : ∀ w ∈ wLL, w ∈ Ts) (hC1 : ∀ w ∈ wC, w ∈ Ts) (hM1 : ∀ w ∈ wM, w ∈ Ts) (hG : lx_G l s D q q5 sa) (hLn : L ≤ 3072) (hn : 6 * n + 6 ≤ L) (hq : ltp_two vl K (xs (6 * n + 1)) (xs (6 * n + 2)) (xs (6 * n + 3)) (xs (6 * n + 4)) (xs (6 * n + 5)) zc zm = some S1) (hM : lx_M D q q5 s vl u w zc zm H locs) (hl : lv_has ls 8 [(0, .ref b), (1, .ref (u 0)), (2, .ref (w 0)), (3, .ref (u 52001)), (4, .int (nI (6 * n)))]) (hc : cells + 2 ≤ 601024) (hs : slots + 12 ≤ 7293033) (kk : ∀ (zc1 zm1 : ow_MS) (H1 : Heap) (locs1 : List Loc) (ls1 : Array Slot), lx_M D q q5 s vl u w zc1 zm1 H1 locs1 → lv_has ls1 8 [(0, .ref b), (1, .ref (u 0)), (2, .ref (w 0)), (3, .ref (u 52001)), (4, .int (nI (6 * n)))] → some (vl, zc1, zm1) = some S1 → W p l e room_1 s m args below meth c H1 locs1 (cells + 2) (slots + 12) Q (F0 m 1693 ls1 [])) : W p l e room_1 s m args below meth c H locs cells slots Q (F0 m 1641 ls []) := by
  have hbA : ¬ lx_A s b := Nat.not_le.mpr hbl
  generalize e1 : xs (6 * n + 1) = x1 at hq
  generalize e2 : xs (6 * n + 2) = x2 at hq
  generalize e3 : xs (6 * n + 3) = x3 at hq
  generalize e4 : xs (6 * n + 4) = x4 at hq
  generalize e5 : xs (6 * n + 5) = x5 at hq
  unfold ltp_two at hq
  refine lv_aload_n hx hb dz_1641 rfl (lv_at hl 1 rfl) ?_
  refine lv_aload_n hx hb dz_1642 rfl (lv_at hl 0 rfl) ?_
  refine lv_iload hx hb dz_1643 (lv_at hl 4 rfl) ?_
  refine lv_iconst (v := 1) hx hb dz_1645 (by decide) ?_
  refine lv_iadd hx hb dz_1646 ?_
  refine ow_topi (y := nI (6 * n + 1)) (nI_add (6 * n) 1) ?_
  refine va_sld hx hb hX hbl hbA hM.2.2.2.2.2 (vp_in_nI (n := 6 * n + 1) (N := L) (by omega) (by omega)) dz_1647 ?_
  refine ow_topi (y := x1) ((congrArg xs (nI_clamp (by omega))).trans e1) ?_
  refine lv_aload_n hx hb dz_1648 rfl (lv_at hl 0 rfl) ?_
  refine lv_iload hx hb dz_1649 (lv_at hl 4 rfl) ?_
  refine lv_iconst (v := 2) hx hb dz_1651 (by decide) ?_
  refine lv_iadd hx hb dz_1652 ?_
  refine ow_topi (y := nI (6 * n + 2)) (nI_add (6 * n) 2) ?_
  refine va_sld hx hb hX hbl hbA hM.2.2.2.2.2 (vp_in_nI (n := 6 * n + 2) (N := L) (by omega) (by omega)) dz_1653 ?_
  refine ow_topi (y := x2) ((congrArg xs (nI_clamp (by omega))).trans e2) ?_
  refine lv_aload_n hx hb dz_1654 rfl (lv_at hl 0 rfl) ?_
  refine lv_iload hx hb dz_1655 (lv_at hl 4 rfl) ?_
  refine lv_iconst (v := 3) hx hb dz_1657 (by decide) ?_
  refine lv_iadd hx hb dz_1658 ?_
  refine ow_topi (y := nI (6 * n + 3)) (nI_add (6 * n) 3) ?_
  refine va_sld hx hb hX hbl hbA hM.2.2.2.2.2 (vp_in_nI (n := 6 * n + 3) (N := L) (by omega) (by omega)) dz_1659 ?_
  refine ow_topi (y := x3) ((congrArg xs (nI_clamp (by omega))).trans e3) ?_
  refine lv_aload_n hx hb dz_1660 rfl (lv_at hl 3 rfl) ?_
  obtain ⟨v2, zc1, hcq, hq⟩ := tw_cl1 hq
  refine lx_wrap hM (vx_runSX (As := [.ref (u 0), .int x1, .int x2, .int x3, .ref (u 52001)]) (rest := []) ⟨hx, hb, hml, hown, hts⟩ (kl_L_two l D q vl u hM.2.2.1.1 hG.1 sa K 0 x1 x2 x3 (by unfold cw_X11 ci_X11; exact List.mem_singleton.mpr rfl) zc zc1 v2 hcq) (vx_cwSW 5 hts (lx_gS (lx_all wLL_good rfl) (lx_mem hL1 (hZ _ zq_278)) (hZ _ zq_279) (hZ _ zq_280) (hZ _ zq_3) rfl rfl rfl) rfl rfl rfl (by decide +kernel) ⟨(Nat.le_of_ble_eq_true rfl), (Nat.le_of_ble_eq_true rfl)⟩) (lx_preL hG hM) rfl rfl hl.1 rfl (lv_room (Nat.le_of_ble_eq_true rfl)) dz_1661 ⟨(by show _ ≤ 601024; omega), (by show _ ≤ 7293033; omega)⟩) (fun H locs hM => ?_)
  refine lv_istore (lv' := [(5, .int v2), (0, .ref b), (1, .ref (u 0)), (2, .ref (w 0)), (3, .ref (u 52001)), (4, .int (nI (6 * n)))]) hx hb dz_1664 hl (by decide) rfl (fun ls hl => ?_)
  refine lv_aload_n hx hb dz_1666 rfl (lv_at hl 3 rfl) ?_
  refine lv_aload_n hx hb dz_1667 rfl (lv_at hl 1 rfl) ?_
  refine lv_iload hx hb dz_1668 (lv_at hl 5 rfl) ?_
  refine lv_iconst (v := 1) hx hb dz_1670 (by decide) ?_
  refine lv_iadd hx hb dz_1671 ?_
  refine ow_topi (y := nI (6 * n + 1)) (nI_add (6 * n) 1) ?_
  refine va_sld hx hb hX hbl hbA hM.2.2.2.2.2 (vp_in_nI (n := 6 * n + 1) (N := L) (by omega) (by omega)) dz_1672 ?_
  refine ow_topi (y := x1) ((congrArg xs (nI_clamp (by omega))).trans e1) ?_
  refine lv_aload_n hx hb dz_1673 rfl (lv_at hl 1 rfl) ?_
  refine lv_iload hx hb dz_1674 (lv_at hl 5 rfl) ?_
  refine lv_iconst (v := 2) hx hb dz_1676 (by decide) ?_
  refine lv_iadd hx hb dz_1677 ?_
  refine ow_topi (y := nI (6 * n + 2)) (nI_add (6 * n) 2) ?_
  refine va_sld hx hb hX hbl hbA hM.2.2.2.2.2 (vp_in_nI (n := 6 * n + 2) (N := L) (by omega) (by omega)) dz_1678 ?_
  refine ow_topi (y := x2) ((congrArg xs (nI_clamp (by omega))).trans e2) ?_
  refine lv_aload_n hx hb dz_1679 rfl (lv_at hl 1 rfl) ?_
  refine lv_iload hx hb dz_1680 (lv_at hl 5 rfl) ?_
  refine lv_iconst (v := 3) hx hb dz_1682 (by decide) ?_
  refine lv_iadd hx hb dz_1683 ?_
  refine ow_topi (y := nI (6 * n + 3)) (nI_add (6 * n) 3) ?_
  refine va_sld hx hb hX hbl hbA hM.2.2.2.2.2 (vp_in_nI (n := 6 * n + 3) (N := L) (by omega) (by omega)) dz_1684 ?_
  refine ow_topi (y := x3) ((congrArg xs (nI_clamp (by omega))).trans e3) ?_
  obtain ⟨v4, zm3, hcq, hq⟩ := tw_cl1 hq
  refine lx_refi hM (va_runV (As := [.int x1, .int x2, .int x3]) (rest := []) ⟨hx, hb, hml, hown, hts⟩ (km_X13_two l D q5 w hM.2.2.2.1.1 K x1 x2 x3 zm zm3 v4 hcq) (cwV 3 hts (lx_gV (lx_all wM_good rfl) (lx_mem hM1 (hZ _ zq_281)) (hZ _ zq_282) (hZ _ zq_283) (hZ _ zq_284) (hZ _ zq_8) rfl rfl rfl rfl) rfl rfl rfl cd_X13_two ⟨(Nat.le_of_ble_eq_true rfl), (Nat.le_of_ble_eq_true rfl)⟩) (lx_preM hG hM) rfl rfl hl.1 rfl (lv_room (Nat.le_of_ble_eq_true rfl)) dz_1685 ⟨(by show _ ≤ 601024; omega), (by show _ ≤ 7293033; omega)⟩) (fun H locs hM => ?_)
  refine lv_istore (lv' := [(6, .int v4), (5, .int v2), (0, .ref b), (1, .ref (u 0)), (2, .ref (w 0)), (3, .ref (u 52001)), (4, .int (nI (6 * n)))]) hx hb dz_1688 hl (by decide) rfl (fun ls hl => ?_)
  refine lv_goto (tgt := 1693) hx hb dz_1690 (by decide) ?_
  exact kk _ _ H locs ls hM (lv_sub hl [2, 3, 4, 5, 6] rfl) hq
