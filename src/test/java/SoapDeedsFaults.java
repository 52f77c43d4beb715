/** Texts with their FAULTS; a ^ stands ahead of the byte at which the FAULT is due. */
public final class SoapDeedsFaults {
    private static final String R = "room 3 by 3;";
    private static int wrong = 0;
    private static final SoapDeeds[] OBJECT = {new SoapDeeds()};
    private static int uses = 0;

    public static void main(String[] args) {
        ends();
        wordsAndNumbers();
        names();
        openDoors();
        numbers();
        nested();
        tooMany();
        formulas();
        rooms();
        stays();
        System.out.println(wrong == 0 ? "all faults are as due" : wrong + " faults are not as due");
        if (wrong != 0) {
            System.exit(1);
        }
    }

    private static int roomOf(SoapDeeds x, String text) {
        for (int at = 0; at < text.length(); at += 20) {
            int[] v = new int[5];
            for (int k = 0; k < 20; k++) {
                v[k / 4] = v[k / 4] << 8 | (at + k < text.length() ? text.charAt(at + k) : 32);
            }
            x.feed(v[0], v[1], v[2], v[3], v[4]);
        }
        x.end(text.length());
        return x.room();
    }

    private static SoapDeeds object() {
        if (++uses % 5 == 0) {
            OBJECT[0] = new SoapDeeds();
        }
        return OBJECT[0];
    }

    private static void fault(int kind, String marked) {
        int place = marked.indexOf('^');
        String text = marked.substring(0, place) + marked.substring(place + 1);
        SoapDeeds x = object();
        int got = roomOf(x, text);
        if (got != -1 || x.fault(0) != kind || x.fault(1) != place) {
            wrong++;
            System.out.println("room() answered " + got + " with fault " + x.fault(0) + " at " + x.fault(1) + ", due is "
                + kind + " at " + place + ": " + text);
        }
    }

    private static SoapDeeds good(int statements, String text) {
        SoapDeeds x = object();
        int got = roomOf(x, text);
        if (got != statements || x.fault(0) != 0 || x.fault(1) != -1) {
            wrong++;
            System.out.println("room() answered " + got + " with fault " + x.fault(0) + " at " + x.fault(1) + ", due are "
                + statements + " statements: " + text);
        }
        return x;
    }

    private static String times(int n, String s) {
        return s.repeat(n);
    }

    private static void ends() {
        fault(1, "^");
        fault(1, "   \n^");
        fault(1, "room^");
        fault(1, "room 3^");
        fault(1, "room 3 ^");
        fault(1, "room 3 by^");
        fault(1, "room 3 by 3^");
        fault(1, "room 3 by 3  ^");
        fault(1, R + "door^");
        fault(1, R + "door d^");
        fault(1, R + "door d at^");
        fault(1, R + "door d at 0^");
        fault(1, R + "door d at 0 0 blows 1 reach 1^");
        fault(1, R + "thins^");
        fault(1, R + "thins 1+^");
        fault(1, R + "thins (1^");
        fault(1, R + "bursts film<^");
        fault(1, R + "bursts not^");
        fault(1, R + "hue if(all,1^");
    }

    private static void wordsAndNumbers() {
        fault(1, "^roo");
        fault(1, "^lamp 0 0;");
        fault(1, "^x");
        fault(1, "^;");
        fault(1, "^Room 3 by 3;");
        fault(1, "room^\t3 by 3;");
        fault(1, "room^\r3 by 3;");
        fault(1, R + "^;");
        fault(1, R + "^#");
        fault(1, R + "^" + (char) 233);
        fault(1, R + "^" + (char) 0);
        fault(1, R + "^lam 0 0;");
        fault(1, R + "^by 0 0;");
        fault(1, R + "^room 3 by 3;");
        fault(1, R + "lamp 0 0 ^0;");
        fault(1, R + "lamp 0 ^x;");
        fault(1, R + "lamp 0 ^at;");
        fault(1, R + "door d ^0 0 blows 1 reach 1;");
        fault(1, R + "door d at 0 0 ^reach 1;");
        fault(1, R + "heir h at 0 0 ^film 1;");
        fault(1, R + "bubble b at 0 0 film 1 ^tall 1;");
        // A 7th letter, a 5th digit at itself, whatever may stand there.
        fault(1, "abcdef^g");
        fault(1, "1234^5");
        fault(1, R + "abcdef^g");
        fault(1, R + "1234^5 x");
        fault(1, R + "bubble^s b");
        fault(1, R + "lamp abcdef^gh 0;");
        fault(1, R + "lamp 9999^9 0;");
        fault(1, R + "lamp 0000^0 0;");
        fault(1, R + "door abcdef^gh at 0 0");
        fault(1, R + "thins 9999^9;");
        fault(1, R + "thins second^s;");
        // Words and numbers side by side need a blank.
        fault(1, "room^3 by 3;");
        fault(1, "room 3^by 3;");
        fault(1, "room 3 by^3;");
        fault(1, R + "lamp 0 0;lamp^12345");
        fault(1, R + "bursts film<6^and size>1;");
        fault(1, R + "bursts all^1");
        fault(1, R + "door d^1 at");
        fault(4, "room ^9by 3;");
        good(3, "room 3 by 3\n;\nlamp\n0\n0;thins(1)+2;");
        good(1, "  room\n\n0003   by 007 ;  \n");
        good(2, R + "bursts[film<6]and[size>1]or not(1)=2;");
    }

    private static void names() {
        for (String own : ("room by lamp door at blows reach open heir tall bubble film size thins bursts hue breath second "
            + "drift deeds if or and not all min max").split(" ")) {
            fault(1, R + "door ^" + own + " at 0 0 blows 1 reach 1;");
            fault(1, R + "open ^" + own + ";");
            fault(1, R + "heir ^" + own + " at 0 0 tall 1;");
            fault(1, R + "bubble ^" + own + " at 0 0 film 1 size 1;");
            // One letter more or less is a NAME.
            String less = own.length() == 6 ? own.substring(1) : own + "z";
            good(2, R + "heir " + less + " at 0 0 tall 1;");
        }
        fault(1, R + "door ^1 at 0 0");
        String d = R + "door d at 0 0 blows 0 reach 1;heir h at 0 0 tall 0;bubble b at 0 0 film 1 size 1;";
        for (String sort : new String[] {"door", "heir", "bubble"}) {
            fault(2, d + sort + " ^d at 9");
            fault(2, d + sort + " ^h");
            fault(2, d + sort + " ^b;");
        }
        good(5, d + "heir bb at 1 1 tall 0;");
        good(3, R + "heir abcdef at 0 0 tall 1;heir abcdeg at 1 0 tall 1;");
    }

    private static void openDoors() {
        String d = R + "door d at 0 0 blows 0 reach 1;heir h at 0 0 tall 0;bubble b at 0 0 film 1 size 1;";
        fault(3, d + "open ^h;");
        fault(3, d + "open ^b;");
        fault(3, d + "open ^e;");
        fault(3, R + "open ^d;door d at 0 0 blows 0 reach 1;");
        fault(3, d + "open d;open ^d;");
        fault(1, d + "open ^1;");
        fault(1, d + "open d ^d;");
        good(5, d + "open d;");
    }

    private static void numbers() {
        fault(4, "room ^2 by 3;");
        fault(4, "room ^8 by 3;");
        fault(4, "room 3 by ^2;");
        fault(4, "room 7 by ^8;");
        good(1, "room 7 by 7;");
        String r = "room 3 by 5;";
        for (String ahead : new String[] {"lamp ", "door d at ", "heir h at ", "bubble b at "}) {
            fault(4, r + ahead + "^3 0");
            fault(4, r + ahead + "0 ^5");
            fault(1, r + ahead + "2 4^");
        }
        good(2, r + "lamp 2 4;");
        fault(4, r + "door d at 0 0 blows ^4");
        fault(4, r + "door d at 0 0 blows 3 reach ^0");
        fault(4, r + "door d at 0 0 blows 3 reach ^7");
        good(3, r + "door d at 0 0 blows 3 reach 6;door e at 0 0 blows 0 reach 1;");
        fault(4, r + "heir h at 0 0 tall ^10");
        good(3, r + "heir h at 0 0 tall 9;heir k at 0 1 tall 0;");
        fault(4, r + "heir h at 0 1 tall 9;heir k at 0 ^1 tall 0;");
        fault(4, r + "bubble b at 0 0 film ^0");
        fault(4, r + "bubble b at 0 0 film ^100");
        fault(4, r + "bubble b at 0 0 film 99 size ^0");
        fault(4, r + "bubble b at 0 0 film 99 size ^10");
        good(2, r + "bubble b at 0 0 film 99 size 9;");
        fault(4, r + "bubble b at 2 1 film 1 size 1;bubble c at 2 ^1 film");
        good(3, r + "bubble b at 2 1 film 1 size 1;heir c at 2 1 tall 0;");
        fault(4, r + "breath ^101");
        good(3, r + "breath 100;breath 0;");
        good(2, r + "thins 9999;");
    }

    private static void nested() {
        good(2, R + "thins " + times(7, "(") + "1" + times(7, ")") + ";");
        fault(5, R + "thins " + times(7, "(") + "^(1" + times(8, ")") + ";");
        good(2, R + "thins " + times(7, "(") + "1" + times(7, ")") + "+" + times(7, "(") + "1" + times(7, ")") + ";");
        good(2, R + "bursts " + times(7, "[") + "all" + times(7, "]") + ";");
        fault(5, R + "bursts " + times(7, "[") + "^[all");
        good(2, R + "bursts " + times(7, "not ") + "all;");
        fault(5, R + "bursts " + times(7, "not ") + "^not all;");
        // A not is open until its FACT ends, and no longer.
        fault(5, R + "bursts " + times(7, "not ") + "^(1)<2;");
        fault(5, R + "bursts " + times(7, "not ") + "1<^(2);");
        good(2, R + "bursts " + times(7, "not ") + "1<2 and (1)<2 or " + times(7, "not ") + "all;");
        fault(5, R + "bursts " + times(7, "not ") + "^[all];");
        fault(5, R + "bursts not [not [not ((^((1");
        fault(5, R + "bursts not [not [(((1)+1)+1)<(((^(1");
        good(2, R + "thins min(((((((1)))))),1);");
        fault(5, R + "thins ((((((min(^(1");
        fault(5, R + "thins (((((((min^(1");
        fault(5, R + "thins min(1,((((((^(1");
        fault(5, R + "thins if(1<((((((^(1");
        fault(5, R + "thins if(all,((((((^(1");
        fault(5, R + "thins if(all,1,((((((^(1");
        String deep = times(6, "(") + "1" + times(6, ")");
        good(2, R + "thins if(" + deep + "=1," + deep + "," + deep + ");");
        fault(5, R + "thins (((((((max^(1");
        fault(5, R + "thins (((((((if^(all");
        fault(1, R + "thins (((((((min^1");
        fault(5, R + "thins if(not if(not if(not if(^not all");
        fault(1, R + "thins (((((((1)))))))^)");
    }

    private static void tooMany() {
        String doors = "";
        String heirs = "";
        String bubbles = "";
        for (int k = 0; k < 6; k++) {
            char c = (char) ('a' + k);
            doors += "door d" + c + " at 0 0 blows 0 reach 1;";
            heirs += "heir h" + c + " at " + k % 3 + " " + k / 3 + " tall 1;";
            bubbles += "bubble b" + c + " at " + k % 3 + " " + k / 3 + " film 1 size 1;";
        }
        good(19, R + doors + heirs + bubbles);
        fault(6, R + doors + "^door x at 0 0 blows 0 reach 1;");
        fault(6, R + doors + "^door;");
        fault(6, R + heirs + " \n^heir");
        fault(6, R + bubbles + "^bubble 7");
        fault(6, R + "thins 1;^thins");
        fault(6, R + "bursts all;^bursts all;");
        fault(6, R + "hue 1;thins 1;^hue 2;");
        good(80, R + times(79, "lamp 0 0;"));
        good(80, R + times(79, "lamp 0 0;") + " \n");
        fault(6, R + times(79, "lamp 0 0;") + "^lamp 0 0;");
        fault(6, R + times(79, "lamp 0 0;") + " ^room 3 by 3;");
        fault(6, R + times(79, "lamp 0 0;") + "^thins");
        fault(1, R + times(78, "lamp 0 0;") + "^room 3 by 3;");
        fault(1, R + times(78, "lamp 0 0;") + "lamp 0 0^");
    }

    private static void formulas() {
        fault(1, R + "thins ^tall;");
        fault(1, R + "thins ^deeds;");
        fault(1, R + "bursts ^drift<1;");
        fault(1, R + "bursts ^deeds<1;");
        fault(1, R + "hue ^tall;");
        fault(1, R + "hue ^drift;");
        good(4, R + "thins film+size+second+drift;bursts film+size+second+tall>0;hue film+size+second+deeds;");
        fault(1, R + "thins ^;");
        fault(1, R + "thins ^-1;");
        fault(1, R + "thins 1 ^2;");
        fault(1, R + "thins 1+^+1;");
        fault(1, R + "thins 1 ^and 2;");
        fault(1, R + "thins 1^<2;");
        fault(1, R + "thins ^not 1;");
        fault(1, R + "thins ^[1];");
        fault(1, R + "thins ^all;");
        fault(1, R + "thins (1^,2);");
        fault(1, R + "thins (^);");
        fault(1, R + "thins min(1^);");
        fault(1, R + "thins min(1,2^,3);");
        fault(1, R + "thins min^[1,2];");
        fault(1, R + "thins if(1^,2,3);");
        fault(1, R + "thins if(all,2^);");
        fault(1, R + "thins if(all,2,3^,4);");
        fault(1, R + "thins ^x;");
        fault(1, R + "bursts film^;");
        fault(1, R + "bursts (film^<1);");
        fault(1, R + "bursts [film<1^);");
        fault(1, R + "bursts film<1^<2;");
        fault(1, R + "bursts film<1 or^;");
        fault(1, R + "bursts film<1 and ^or;");
        fault(1, R + "bursts all ^all;");
        fault(1, R + "bursts [all]^+1;");
        fault(1, R + "bursts all^<1;");
        fault(1, R + "hue 1^=1;");
        good(2, R + "thins min(1,max(2,if(not all or 1=1 and [2>1],3,4)))*5/6%7-8;");
    }

    private static void rooms() {
        SoapDeeds x = good(6, "room 4 by 6;lamp 0 0;lamp 3 5;lamp 1 2;breath 5;breath 7;");
        check("columns", x.has(0), 4);
        check("rows", x.has(1), 6);
        check("the last lamp's column", x.lamp(0), 1);
        check("the last lamp's row", x.lamp(1), 2);
        x = good(1, R);
        check("no lamp", x.lamp(0), -1);
    }

    private static void check(String what, int got, int want) {
        if (got != want) {
            wrong++;
            System.out.println(what + ": " + got + ", due is " + want);
        }
    }

    private static void stays() {
        SoapDeeds x = new SoapDeeds();
        roomOf(x, "room 4 by 4;heir h at 1 1 tall 3;bubble b at 0 0 film 50 size 2;");
        x.seconds(2);
        check("fault", roomOf(x, "room 5 by 5;heir k at 1 1 tall 3;bubble"), -1);
        check("all stays: columns", x.has(0), 4);
        check("all stays: SECOND", x.has(5), 2);
        check("all stays: acts", x.has(11), 1);
        check("all stays: name", x.letter(1, 0, 0), 8);
        check("all stays: film", x.bubble(0, 2), 48);
        check("refused", x.status(1), 1);
        check("the tape is gone", x.end(1) ? 1 : 0, 0);
        check("a good one behind", roomOf(x, "room 5 by 5;"), 1);
        check("its fault", x.fault(0), 0);
        check("its place", x.fault(1), -1);
        check("refused still", x.status(1), 1);
    }
}
