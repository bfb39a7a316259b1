/** "Terms" of the law: its parts, its signs and its faults, each at its bounds. */
public final class LawBoundsTest extends Sentences {
    private static final String SIGNS = "+-*/%^&|";
    private static final String OPENING = "(~<r";
    private static final String DIGITS = "0123456789";

    private static int hash(String law, int key) {
        SplitBehind x = new SplitBehind();
        int answer = Texts.law(x, law);
        return answer != 0 ? answer : x.keyIs(key, 0);
    }

    private static int told(String law) {
        return Texts.law(new SplitBehind(), law);
    }

    private static boolean isOf(String signs, int sign) {
        return signs.indexOf((char) sign) >= 0;
    }

    @Says(promise = 0, words = "THE LAW: a TEXT of at most 60 bytes, no blanks")
    static void sixtyBytes() {
        String sixty = "k+".repeat(29) + "11";
        due("60 bytes", told(sixty), 0);
        due("60 bytes are in force, the last one, too", hash(sixty, 1), 40);
        due("61 bytes", told(sixty + "1"), NONE);
        due("one byte", told("k"), 0);
        due("a blank ahead", told(" k"), -1000);
        due("a blank between", told("k +1"), -1001);
        due("a blank behind", told("k "), -1001);
    }

    @Says(promise = 0, words = "E: PART { SIGN PART } from the left on, SIGN + - * / % ^ & or |")
    static void signs() {
        due("no sign binds more", hash("2+3*k", 10), 50);
        due("nor the other way", hash("2*3+k", 10), 16);
        due("minus from the left", hash("k-3-2", 10), 5);
        due("by from the left", hash("k/4/2", 100), 12);
        for (int b = 0; b < 256; b++) {
            due("behind a part, byte " + b, told("k" + (char) b), isOf(SIGNS, b) ? -1002 : -1001);
            boolean isPart = isOf(DIGITS, b) || b == 'k';
            due("behind a sign, byte " + b, told("k+" + (char) b), isPart ? 0 : isOf(OPENING, b) ? -1003 : -1002);
        }
        int[] of12and10 = {22, 2, 120, 1, 2, 6, 8, 14};
        for (int i = 0; i < 8; i++) due("12 " + SIGNS.charAt(i) + " 10", hash("k" + SIGNS.charAt(i) + "10", 12), of12and10[i]);
    }

    @Says(promise = 0, words = "PART: a NUMBER (one to five digits, 65535 at most), k (the KEY), (E)")
    static void parts() {
        for (int b = 0; b < 256; b++) {
            boolean isPart = isOf(DIGITS, b) || b == 'k';
            due("a part of one byte, " + b, told("" + (char) b), isPart ? 0 : isOf(OPENING, b) ? -1001 : -1000);
            boolean goesOn = isOf(SIGNS, b);
            due("behind an open bracket's part, byte " + b, told("(k" + (char) b), b == ')' ? 0 : goesOn ? -1003 : -1002);
            due("behind a number, byte " + b, told("5" + (char) b), isOf(DIGITS, b) ? 0 : goesOn ? -1002 : -1001);
        }
        for (String seven : new String[] {"7", "07", "007", "0007", "00007"}) due(seven, hash(seven, 1), 7);
        due("no sixth digit", told("000007"), -2005);
        due("0", hash("0", 1), 0);
        due("five zeros", hash("00000", 1), 0);
        due("65535", hash("65535", 1), 65535);
        due("65536", told("65536"), -3000);
        due("99999", told("99999"), -3000);
        due("the key", hash("k", 65535), 65535);
        due("a bracket", hash("2*(3+k)", 10), 26);
        due("an empty bracket", told("()"), -1001);
        due("a bracket in a bracket", hash("((k))", 9), 9);
    }

    @Says(promise = 0, words = "~PART (its 16 bits turned)")
    static void turned() {
        due("of 0", hash("~k", 0), 65535);
        due("of 65535", hash("~k", 65535), 0);
        due("of 32768", hash("~k", 32768), 32767);
        due("its part alone", hash("~k+1", 65535), 1);
        due("of a bracket", hash("~(k+1)", 65535), 65535);
        due("twice", hash("~~k", 12345), 12345);
        due("of a number", hash("~65535", 7), 0);
        for (int b = 0; b < 256; b++) {
            boolean isPart = isOf(DIGITS, b) || b == 'k';
            due("behind ~, byte " + b, told("~" + (char) b), isPart ? 0 : isOf(OPENING, b) ? -1002 : -1001);
        }
    }

    @Says(promise = 0, words = "<DPART (its 16 bits moved round to the left by D, a digit 1 to 9)")
    static void movedRound() {
        for (int d = 1; d <= 9; d++) {
            due("bit 0 by " + d, hash("<" + d + "k", 1), 1 << d);
            due("bit 15 by " + d, hash("<" + d + "k", 32768), 1 << d - 1);
            due("the last bit that goes round, by " + d, hash("<" + d + "k", 1 << 16 - d), 1);
            due("the bit below it, by " + d, hash("<" + d + "k", 1 << 15 - d), 32768);
            due("all bits, by " + d, hash("<" + d + "k", 65535), 65535);
            due("no bits, by " + d, hash("<" + d + "k", 0), 0);
        }
        for (int b = 0; b < 256; b++) {
            int want = b == '0' ? -3001 : isOf(DIGITS, b) ? -1002 : -1001;
            due("behind <, byte " + b, told("<" + (char) b), want);
            boolean isPart = isOf(DIGITS, b) || b == 'k';
            due("behind <1, byte " + b, told("<1" + (char) b), isPart ? 0 : isOf(OPENING, b) ? -1003 : -1002);
        }
        due("D is one digit, what is behind it is the part", hash("<112345", 0), 24690);
        due("its part alone", hash("<1k+1", 32768), 2);
    }

    @Says(promise = 0, words = "rPART (its 16 bits in reverse)")
    static void reversed() {
        for (int i = 0; i < 16; i++) due("bit " + i, hash("rk", 1 << i), 1 << 15 - i);
        due("no bits", hash("rk", 0), 0);
        due("all bits", hash("rk", 65535), 65535);
        due("its part alone", hash("rk+1", 1), 32769);
        for (int b = 0; b < 256; b++) {
            boolean isPart = isOf(DIGITS, b) || b == 'k';
            due("behind r, byte " + b, told("r" + (char) b), isPart ? 0 : isOf(OPENING, b) ? -1002 : -1001);
        }
    }

    @Says(promise = 0, words = "All modulo 65536 (what would be below 0, too, comes to 0 to 65535)")
    static void modulo() {
        due("65535 and 1", hash("k+1", 65535), 0);
        due("65535 and 65535", hash("k+k", 65535), 65534);
        due("0 less 1", hash("k-1", 0), 65535);
        due("0 less 65535", hash("k-65535", 0), 1);
        due("like ones", hash("k-k", 65535), 0);
        due("256 times 256", hash("k*k", 256), 0);
        due("255 times 257", hash("k*257", 255), 65535);
        due("65535 times 65535", hash("k*k", 65535), 1);
        due("each step, not the end alone", hash("k+1/2", 65535), 0);
        due("below 0, then by 2", hash("k-1/2", 0), 32767);
        due("times, then by 2", hash("k*k/2", 256), 0);
        due("in brackets, too", hash("1-(k+1)%7", 65535), 1);
    }

    @Says(promise = 0, words = "/ cuts, / and % by 0 give 0.")
    static void divided() {
        due("65535 by 65535", hash("k/65535", 65535), 1);
        due("65534 by 65535", hash("k/65535", 65534), 0);
        due("65535 by 2", hash("k/2", 65535), 32767);
        due("65535 by 1", hash("k/1", 65535), 65535);
        due("by 0", hash("k/0", 65535), 0);
        due("0 by 0", hash("k/k", 0), 0);
        due("by what comes to 0", hash("5/(k+1)", 65535), 0);
        due("modulo 0", hash("k%0", 65535), 0);
        due("0 modulo 0", hash("k%k", 0), 0);
        due("modulo 1", hash("k%1", 65535), 0);
        due("65534 modulo 65535", hash("k%65535", 65534), 65534);
        due("65535 modulo 65535", hash("k%65535", 65535), 0);
        due("it goes on behind that", hash("k/0+7", 1), 7);
    }

    @Says(promise = 0, words = "FAULTS, the first from the left")
    static void firstFault() {
        due("1 ahead of 3", told("k)65536"), -1001);
        due("3 ahead of 1", told("65536)"), -3000);
        due("3 ahead of the end", told("65536+"), -3000);
        due("3 ahead of 2", told("65536+000000"), -3000);
        due("2 ahead of 3", told("000000+65536"), -2005);
        due("D ahead of 5", told("<0((((((("), -3001);
        due("5 ahead of 1", told("(((((((+"), -5006);
        due("the first of two", told("k+99999+99999"), -3002);
    }

    @Says(promise = 0, words = "1 what can't stand there (the end, too)")
    static void cantStand() {
        due("the end behind a sign", told("k+"), -1002);
        due("the end in a bracket", told("(k"), -1002);
        due("the end behind a bracket that opens", told("("), -1001);
        due("the end behind ~", told("~"), -1001);
        due("the end behind r", told("r"), -1001);
        due("the end behind <", told("<"), -1001);
        due("the end behind D", told("<9"), -1002);
        due("the end of 60 bytes", told("k+".repeat(30)), -1060);
        due("a bracket that was not opened", told("k)"), -1001);
        due("one bracket too much", told("(k))"), -1003);
        due("a sign behind a sign", told("k++k"), -1002);
        due("a bracket behind a part", told("k(k)"), -1001);
        due("~ behind a part", told("k~k"), -1001);
        due("a part behind a bracket", told("(k)k"), -1003);
        due("a number behind k", told("k5"), -1001);
        due("k behind a number", told("5k"), -1001);
    }

    @Says(promise = 0, words = "2 a sixth digit, at it")
    static void sixthDigit() {
        due("five are none", told("12345"), 0);
        due("a sixth", told("123456"), -2005);
        due("a sixth of what is too great already", told("999999"), -2005);
        due("a sixth of zeros", told("000000"), -2005);
        due("at its place", told("k+k*000001"), -2009);
        due("a seventh comes behind it", told("0000000"), -2005);
        due("D is no digit of a number", told("<112345"), 0);
        due("but behind D five are all", told("<1123456"), -2007);
    }

    @Says(promise = 0, words = "3 a NUMBER above 65535, at its first digit, asked when it ends")
    static void tooGreat() {
        due("65535", told("65535"), 0);
        due("65536 ends with the text", told("65536"), -3000);
        due("65536 ends with a sign", told("65536+k"), -3000);
        due("65536 ends with what can't stand there", told("65536x"), -3000);
        due("65536 has not ended: a sixth digit", told("655360"), -2005);
        due("at its first digit", told("(k+65536)"), -3003);
        due("70000", told("k+70000"), -3002);
    }

    @Says(promise = 0, words = "0 as a D, at it")
    static void roundBy0() {
        due("alone", told("<0k"), -3001);
        due("farther on", told("k+<0k"), -3003);
        due("with nothing behind it", told("<0"), -3001);
        due("1 is fine", told("<1k"), 0);
        due("9 is fine", told("<9k"), 0);
        due("10: D is 1, 0 is the part", told("<10"), 0);
    }

    @Says(promise = 0, words = "5 a seventh of ( ~ < r that are open in one another, at it (~ < r till their PART ends).")
    static void seventhOpen() {
        due("six brackets", told("((((((k))))))"), 0);
        due("seven brackets", told("(((((((k)))))))"), -5006);
        due("six ~", told("~~~~~~k"), 0);
        due("seven ~", told("~~~~~~~k"), -5006);
        due("six r", told("rrrrrrk"), 0);
        due("seven r", told("rrrrrrrk"), -5006);
        due("six <", told("<1<1<1<1<1<1k"), 0);
        due("seven <", told("<1<1<1<1<1<1<1k"), -5012);
        for (char seventh : OPENING.toCharArray()) due("the seventh is " + seventh, told("(~r(~r" + seventh), -5006);
        due("a seventh < ahead of its D", told("((((((<0k"), -5006);
        due("a sixth < has its D asked", told("(((((<0k"), -3006);
        due("six, then the end", told("(((((("), -1006);
        due("~ is open while its bracket is", told("~~~(~~(k))"), -5006);
        due("six of both", told("~~~(~(k))"), 0);
        due("~ ends with its part", told("(((((~k+~k)))))"), 0);
        due("< ends with its part", told("(((((<1k+<1k)))))"), 0);
        due("r ends with its part", told("(((((rk+(k))))))"), 0);
        due("~ ends with its bracket", told("~(k)+((((((k))))))"), 0);
        due("all six end with one part", told("(~r~r~k+~r~r~k)"), 0);
        due("a bracket ends with )", told("(k)+((((((k))))))"), 0);
        due("a bracket that is not closed stays open", told("(k+((((((k"), -5008);
        due("what can't stand there is no seventh", told("((((((k("), -1007);
        // 1234, in reverse 2C48, turned D3B7, round 3B7D, in reverse BEDC, turned 4123
        due("six deep, reckoned from within", hash("~r<4~r(k)", 0x1234), 0x4123);
        due("six deep and each with a left part", hash("1+(2+(3+(4+(5+(6+(7+k))))))", 8), 36);
    }

    public static void main(String[] args) throws IllegalAccessException {
        runAll(LawBoundsTest.class);
    }
}
