import java.util.ArrayList;
import java.util.List;

/** Terms I: NAMES, NUMBERS, blanks, and the FAULTS. */
final class EdgesOfFaults {
    private static final String R = "room 3 by 3;";
    // Each sort of STATEMENT, and each part of a SUM and of a TEST, cut into words, numbers and signs by blanks.
    private static final String WHOLE = "room 4 by 5 ; lamp 3 4 ; door d at 0 0 blows 3 reach 6 ; open d ; heir h at 1 2 tall 9 ; "
        + "bubble b at 1 2 film 99 size 9 ; thins 1 + drift * ( film - size ) / second % 7 ; "
        + "bursts not [ tall < 4 or all and film > 2 ] or size = 3 ; hue min ( 1 , max ( deeds , 2 ) ) + if ( all , 3 , 4 ) ; breath 100 ;";
    private static final String OWN = "room by lamp door at blows reach open heir tall bubble film size thins bursts hue breath second "
        + "drift deeds if or and not all min max";
    private final Sheet sheet;

    EdgesOfFaults(Sheet sheet) {
        this.sheet = sheet;
    }

    void run() {
        sheet.section("I");
        names();
        numbers();
        blanks();
        sideBySide();
        ownWords();
        firstOfAll();
        wrongByte();
        leftOut();
        tooSoon();
        tooLong();
        ownWordForName();
        nameAgain();
        noShutDoor();
        cannotBe();
        tooDeep();
        tooMany();
    }

    /** Where each word, number or sign of WHOLE begins. */
    private static List<Integer> starts() {
        List<Integer> starts = new ArrayList<>();
        starts.add(0);
        for (int k = WHOLE.indexOf(' '); k >= 0; k = WHOLE.indexOf(' ', k + 1)) {
            starts.add(k + 1);
        }
        return starts;
    }

    private void names() {
        sheet.says("NAMES: 1 to 6 letters, unlike ones (of all sorts), told ahead of where they are asked.");
        String[] names = {"a", "z", "az", "abcde", "uvwxyz", "zzzzzz"};
        for (String name : names) {
            SoapDeeds x = sheet.good(2, R + "heir " + name + " at 0 0 tall 0;");
            for (int k = 0; k < 6; k++) {
                sheet.due("letter " + k + " of " + name, x.letter(1, 0, k), k < name.length() ? name.charAt(k) - 96 : 0);
            }
        }
        sheet.fault(1, R + "heir ^at 0 0 tall 0;");
        sheet.fault(1, R + "heir abcdef^g at 0 0 tall 0;");
        for (char c : new char[] {'`', '{', '@', 'A', 'Z', '[', '_', '0', (char) 225}) {
            sheet.fault(1, R + "heir ^" + c + " at 0 0 tall 0;");
            sheet.fault(1, R + "heir a^" + c + " at 0 0 tall 0;");
        }
        // Unlike in any one letter, or in how many there are.
        for (String other : new String[] {"bbcdef", "accdef", "abddef", "abceef", "abcdff", "abcdee", "abcde", "a"}) {
            sheet.good(3, R + "heir abcdef at 0 0 tall 0;bubble " + other + " at 0 0 film 1 size 1;");
        }
        sheet.fault(2, R + "heir abcdef at 0 0 tall 0;bubble ^abcdef at 0 0 film 1 size 1;");
        sheet.fault(3, R + "open ^d;door d at 0 0 blows 0 reach 1;");
        sheet.good(3, R + "door d at 0 0 blows 0 reach 1;open d;");
    }

    private void numbers() {
        sheet.says("NUMBERS: 1 to 4 digits.");
        sheet.good(1, "room 3 by 07;");
        sheet.good(1, "room 003 by 0007;");
        sheet.fault(1, "room 0000^3 by 7;");
        sheet.fault(1, "room 3 by 0000^7;");
        sheet.good(2, R + "thins 9999;");
        sheet.good(2, R + "thins 0000;");
        sheet.fault(1, R + "thins 1000^0;");
        sheet.fault(1, R + "thins ^;");
        sheet.due("all digits", sheet.good(4, R + "bubble b at 0 0 film 9 size 1;bursts 1234+5678-6912=0;thins 0;").seconds(1), 1);
        sheet.due("the last digit", sheet.good(4, R + "bubble b at 0 0 film 9 size 1;bursts 9990+9=9999;thins 0;").seconds(1), 1);
        for (char c : new char[] {'/', ':'}) {
            sheet.fault(1, "room ^" + c + " by 3;");
        }
    }

    private void blanks() {
        sheet.says("Blanks (10, 32) are where one likes");
        for (char c : new char[] {10, 32}) {
            sheet.good(10, WHOLE.replace(' ', c));
            sheet.good(10, c + WHOLE.replace(" ", "" + c + c + c) + c);
        }
        // None at all where two words, or a word and a number, are not side by side.
        sheet.good(10, WHOLE.replaceAll("(?<![a-z0-9]) | (?![a-z0-9])", ""));
        for (char c : new char[] {0, 8, 9, 11, 12, 13, 31, 33, 127, 128, 138, 160, 255}) {
            sheet.fault(1, "^" + c + R);
            sheet.fault(1, "room^" + c + "3 by 3;");
            sheet.fault(1, R + "^" + c);
        }
    }

    private void sideBySide() {
        sheet.says("(words and numbers side by side need one).");
        sheet.fault(1, "room^3 by 3;");
        sheet.fault(1, "room 3^by 3;");
        sheet.fault(1, "room 3 by^3;");
        sheet.fault(1, R + "lamp^0 0;");
        sheet.fault(1, R + "door d^0 at 0 0 blows 0 reach 1;");
        sheet.fault(1, R + "heir h at 0 0^tall 0;");
        sheet.fault(1, R + "bursts film<6^and all;");
        sheet.fault(1, R + "thins film^2;");
        sheet.fault(1, "^roomx 3 by 3;");
        sheet.fault(1, R + "lamp 00^;");
        sheet.good(3, R + "bursts[film<6]and[all]or not[all];thins(film)+2;");
    }

    private void ownWords() {
        sheet.says("OWN WORDS, which no NAME is: room, by, lamp, door, at, blows, reach, open, heir, tall, bubble, film, size, thins, bursts, hue,"
            + " breath, second, drift, deeds, if, or, and, not, all, min, max.");
        for (String own : OWN.split(" ")) {
            sheet.fault(1, R + "heir ^" + own + " at 0 0 tall 0;");
            // Without its first letter it is a NAME, but for tall, which is all then.
            if (!own.equals("tall")) {
                sheet.good(2, R + "heir " + own.substring(1) + " at 0 0 tall 0;");
            }
            sheet.good(2, R + "heir x" + own.substring(1) + " at 0 0 tall 0;");
            if (own.length() < 6) {
                sheet.good(2, R + "heir " + own + "x at 0 0 tall 0;");
            }
        }
        for (String free : new String[] {"deed", "lost", "rent", "none", "column", "row", "way", "doors", "bubbl", "seed"}) {
            sheet.good(2, R + "heir " + free + " at 0 0 tall 0;");
        }
    }

    private void firstOfAll() {
        sheet.says("FAULTS, the first along the text:");
        sheet.fault(4, "room ^2 by 9;#");
        sheet.fault(4, R + "lamp ^3 3;#");
        sheet.fault(1, R + "^# lamp 3 3;");
        sheet.fault(2, R + "heir h at 0 0 tall 0;heir ^h at 0 0 tall 10;open x;");
        sheet.fault(4, R + "heir h at 0 0 tall 0;heir k at 0 ^0 tall 10;open x;");
        sheet.fault(4, R + "heir h at 0 0 tall 0;heir k at 0 1 tall ^10;open x;");
        sheet.fault(3, R + "heir h at 0 0 tall 0;open ^x;heir h at 0 0 tall 0;");
        sheet.fault(5, R + "thins (((((((^((1;");
        sheet.fault(6, R + "thins 1;^thins ((((((((1;");
        sheet.fault(1, R + "thins ((((((^);thins 1;");
        sheet.fault(4, R + "lamp ^3x");
        sheet.fault(4, R + "lamp ^9999 12345");
    }

    /** What may stand nowhere, put ahead of each word, number and sign of a whole ROOM. */
    private void wrongByte() {
        sheet.says("1 the first byte with which no ROOM goes on (words and numbers whole, at their first byte;");
        sheet.good(10, WHOLE);
        for (int start : starts()) {
            for (String foreign : new String[] {"#", "!", "^", "A", "" + (char) 200, "" + (char) 0}) {
                sheet.faultAt(1, start, WHOLE.substring(0, start) + foreign + WHOLE.substring(start));
            }
        }
        sheet.fault(1, "^rooms 3 by 3;");
        sheet.fault(1, "^roo 3 by 3;");
        sheet.fault(1, "room 3 ^bye 3;");
        sheet.fault(1, "room 3 ^b 3;");
        sheet.fault(1, R + "^lam");
        sheet.fault(1, R + "^lampe");
        sheet.fault(1, R + "^12");
        sheet.fault(1, R + "lamp 0 0 ^12");
        sheet.fault(1, R + "bursts film<1 ^andall;");
        sheet.fault(1, R + "thins ^filmx;");
    }

    /** STATEMENTS that end too soon with a ; or that have a word less: no ROOM goes on with what stands there then. */
    private void leftOut() {
        sheet.says("1 the first byte with which no ROOM goes on");
        String[] plain = {"lamp 2 2", "door e at 0 0 blows 3 reach 6", "open d", "heir h at 1 2 tall 9", "bubble b at 1 2 film 99 size 9", "breath 100",
            "thins 1 + 2 * 3", "bursts film < 2 and size > 1", "hue 9"};
        for (String statement : plain) {
            String ahead = R + "door d at 0 0 blows 0 reach 1;";
            sheet.good(3, ahead + statement + ";");
            String[] parts = statement.split(" ");
            StringBuilder told = new StringBuilder(ahead);
            for (int k = 0; k < parts.length; k++) {
                boolean whole = parts[0].equals("thins") && k > 1 && k % 2 == 0 || parts[0].equals("bursts") && k == 4;
                if (!whole) {
                    sheet.faultAt(1, told.length(), told + ";");
                    sheet.faultAt(1, told.length(), told + ";lamp 0 0;");
                }
                if (parts[k].matches("[a-z]+")) {
                    sheet.faultAt(1, told.length(), told + String.join(" ", java.util.Arrays.copyOfRange(parts, k + 1, parts.length)) + ";");
                }
                told.append(parts[k]).append(' ');
            }
        }
    }

    /** The ROOM cut behind each of its words, numbers and signs, and behind a blank that follows. */
    private void tooSoon() {
        sheet.says("at the text's length, if it ends too soon: a text without a STATEMENT has FAULT 1 at its length;");
        int statements = 0;
        for (int start : starts()) {
            String text = WHOLE.substring(0, start).trim();
            if (text.endsWith(";")) {
                statements++;
                sheet.good(statements, text);
                sheet.good(statements, text + " \n ");
            } else {
                sheet.faultAt(1, text.length(), text);
                sheet.faultAt(1, text.length() + 3, text + " \n ");
            }
        }
        sheet.fault(1, "^");
        sheet.fault(1, " ^");
        sheet.fault(1, "\n^");
        for (int length : new int[] {1599, 1600}) {
            sheet.faultAt(1, length, " ".repeat(length));
            sheet.faultAt(1, length, "room 3 by 3" + " ".repeat(length - 11));
            sheet.good(1, R + "\n".repeat(length - 12));
            sheet.good(1, "\n".repeat(length - 12) + R);
        }
    }

    private void tooLong() {
        sheet.says("a 7th letter, a 5th digit at itself, whatever may stand there;");
        for (int start : starts()) {
            String ahead = WHOLE.substring(0, start);
            sheet.faultAt(1, start + 6, ahead + "abcdefg " + WHOLE.substring(start));
            sheet.faultAt(1, start + 6, ahead + "bubbleabc " + WHOLE.substring(start));
            sheet.faultAt(1, start + 4, ahead + "12345 " + WHOLE.substring(start));
            sheet.faultAt(1, start + 4, ahead + "0000000 " + WHOLE.substring(start));
        }
        sheet.fault(1, R + "bubble^s");
        sheet.fault(1, R + "thins second^s;");
        sheet.fault(1, R + "heir abcdef at 0 0 tall 0;heir abcdef^g at 0 0 tall 0;");
    }

    private void ownWordForName() {
        sheet.says("an OWN WORD where a NAME must be);");
        for (String own : OWN.split(" ")) {
            sheet.fault(1, R + "door ^" + own + " at 0 0 blows 0 reach 1;");
            sheet.fault(1, R + "open ^" + own + ";");
            sheet.fault(1, R + "heir ^" + own);
            sheet.fault(1, R + "bubble ^" + own + ";");
        }
    }

    private void nameAgain() {
        sheet.says("2 a NAME that is there already, at its first byte;");
        String[] told = {"door same at 0 0 blows 0 reach 1;", "heir same at 0 0 tall 0;", "bubble same at 0 0 film 1 size 1;"};
        String[] words = {"door ", "heir ", "bubble "};
        for (String first : told) {
            for (String second : words) {
                sheet.fault(2, R + first + second + "^same");
                sheet.fault(2, R + first + "heir b at 1 1 tall 0;" + second + "\n ^same at 9 9");
            }
        }
        sheet.fault(2, R + told[0] + "open same;heir ^same at 0 0 tall 0;");
        // The last of six.
        StringBuilder six = new StringBuilder(R);
        for (int k = 0; k < 6; k++) {
            six.append("heir n").append((char) ('a' + k)).append(" at ").append(k % 3).append(' ').append(k / 3).append(" tall 0;");
        }
        sheet.fault(2, six + "bubble ^nf at 0 0 film 1 size 1;");
        sheet.fault(2, six + "bubble ^na at 0 0 film 1 size 1;");
        sheet.good(8, six + "bubble ng at 0 0 film 1 size 1;");
    }

    private void noShutDoor() {
        sheet.says("3 a NAME that is none of a DOOR, or of one that is OPEN, at its first byte;");
        String all = R + "door d at 0 0 blows 0 reach 1;heir h at 0 0 tall 0;bubble b at 0 0 film 1 size 1;";
        sheet.fault(3, R + "open ^d;");
        sheet.fault(3, all + "open ^h;");
        sheet.fault(3, all + "open ^b;");
        sheet.fault(3, all + "open ^dd;");
        sheet.fault(3, all + "open \n ^x ;");
        sheet.fault(3, all + "open d;open ^d");
        sheet.good(5, all + "open d;");
        sheet.good(7, all + "open d;door e at 0 0 blows 0 reach 1;open e;");
    }

    private void cannotBe() {
        sheet.says("4 a NUMBER that can't be (of a CELL in which one of that sort is the row), at its first byte;");
        sheet.fault(4, "room ^0002 by 3;");
        sheet.fault(4, "room 3 by ^0008;");
        sheet.fault(4, R + "lamp \n ^3 0;");
        sheet.fault(4, R + "breath ^101");
        sheet.fault(4, R + "heir h at 1 2 tall 0;heir k at 1 ^2");
        sheet.fault(4, R + "heir h at 1 2 tall 0;heir k at 01 ^0002 tall 0;");
        sheet.fault(4, R + "bubble b at 2 2 film 1 size 1;bubble c at 2 ^2 film 1 size 1;");
        sheet.good(3, R + "heir h at 1 2 tall 0;bubble c at 1 2 film 1 size 1;");
        sheet.good(3, R + "door d at 1 2 blows 0 reach 1;door e at 1 2 blows 0 reach 1;");
        sheet.good(3, R + "lamp 1 2;lamp 1 2;");
    }

    private void tooDeep() {
        sheet.says("5 the 8th ( [ not that is open at once (not until its FACT ends), at it;");
        String[] opens = {"(", "[", "not ", "min(", "max(", "if("};
        sheet.good(2, R + "thins " + "(".repeat(6) + "1" + ")".repeat(6) + ";");
        sheet.good(2, R + "thins " + "(".repeat(7) + "1" + ")".repeat(7) + ";");
        sheet.fault(5, R + "thins " + "(".repeat(7) + "^(1" + ")".repeat(8) + ";");
        sheet.good(2, R + "bursts " + "[".repeat(7) + "all" + "]".repeat(7) + ";");
        sheet.fault(5, R + "bursts " + "[".repeat(7) + "^[all" + "]".repeat(8) + ";");
        sheet.good(2, R + "bursts " + "not ".repeat(7) + "all;");
        sheet.fault(5, R + "bursts " + "not ".repeat(7) + "^not all;");
        for (int nots = 0; nots <= 7; nots++) {
            for (int squares = 0; nots + squares <= 7; squares++) {
                int rounds = 7 - nots - squares;
                String ahead = R + "bursts " + "not ".repeat(nots) + "[".repeat(squares) + "(".repeat(rounds);
                String behind = rounds == 0 ? "all" + "]".repeat(squares) : "1" + ")".repeat(rounds) + "=1" + "]".repeat(squares);
                sheet.good(2, ahead + behind + ";");
                sheet.fault(5, ahead + "^(1");
                sheet.fault(rounds == 0 ? 5 : 1, ahead + "^[1");
                sheet.fault(rounds == 0 ? 5 : 1, ahead + "^not 1");
                sheet.fault(5, ahead + "min^(1");
                sheet.fault(5, ahead + "max ^(1");
                sheet.fault(5, ahead + "if^(all");
            }
        }
        for (String pair : new String[] {"min", "max"}) {
            sheet.good(2, R + "thins " + (pair + "(1,").repeat(7) + "1" + ")".repeat(7) + ";");
            sheet.fault(5, R + "thins " + (pair + "(1,").repeat(7) + pair + "^(1");
            sheet.good(2, R + "thins " + (pair + "(").repeat(7) + "1" + ",1)".repeat(7) + ";");
            sheet.fault(5, R + "thins " + (pair + "(").repeat(7) + pair + "^(1");
        }
        sheet.good(2, R + "hue " + "if(all,1,".repeat(7) + "1" + ")".repeat(7) + ";");
        sheet.fault(5, R + "hue " + "if(all,1,".repeat(7) + "if^(");
        sheet.fault(5, R + "hue " + "if(all,".repeat(7) + "if^(");
        sheet.fault(5, R + "hue " + "if(".repeat(7) + "if^(");
        // Closed ones count no more; a not is open until its FACT ends, and no longer.
        sheet.good(2, R + "thins " + ("(".repeat(7) + "1" + ")".repeat(7) + "+").repeat(3) + "1;");
        sheet.good(2, R + "thins (((((((1)+(1))+((1" + ")".repeat(7) + ";");
        sheet.fault(5, R + "thins (((((((1)+(1))+((^(1");
        sheet.good(2, R + "bursts " + ("not ".repeat(7) + "1=1 or ").repeat(3) + "all;");
        sheet.good(2, R + "bursts " + "not ".repeat(7) + "1=1 and (1)=1;");
        sheet.fault(5, R + "bursts " + "not ".repeat(7) + "1=^(1);");
        sheet.fault(5, R + "bursts " + "not ".repeat(7) + "^(1)=1;");
        sheet.good(2, R + "bursts " + "not ".repeat(6) + "(1)=(1);");
        sheet.good(2, R + "bursts not [not 1=1 and " + "not ".repeat(5) + "all];");
        sheet.fault(5, R + "bursts not [not 1=1 and " + "not ".repeat(5) + "^not all];");
        for (String open : opens) {
            sheet.fault(1, R + "lamp ^" + open);
        }
    }

    private void tooMany() {
        sheet.says("6 one too many of a kind of STATEMENT (a second thins, bursts, hue, too), or the 81st STATEMENT (whatever it is), at its first byte.");
        String[] rules = {"thins 1;", "bursts all;", "hue 1;"};
        for (String rule : rules) {
            String word = rule.substring(0, rule.indexOf(' '));
            sheet.good(2, R + rule);
            sheet.fault(6, R + rule + "^" + rule);
            sheet.fault(6, R + rule + "\n \n^" + word);
            sheet.fault(6, R + rule + "lamp 0 0;^" + word + " #");
        }
        String eighty = R + "breath 0;".repeat(79);
        sheet.good(80, eighty);
        sheet.good(80, eighty + " \n ");
        for (String more : new String[] {R, "lamp 9 9;", "breath 0;", "thins 1;", "bursts all;", "hue 1;", "heir h at 0 0 tall 0;", "open d;",
            "bubble b at 0 0 film 1 size 1;", "door d at 0 0 blows 0 reach 1;", "door"}) {
            sheet.fault(6, eighty + "^" + more);
            sheet.fault(6, eighty + " \n ^" + more);
        }
        sheet.fault(1, R + "breath 0;".repeat(78) + "breath 0^");
        sheet.fault(1, R + "breath 0;".repeat(78) + "breath 0 ^breath 0;");
    }
}
