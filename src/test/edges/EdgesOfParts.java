/** Promises 1 to 13: the tape, the ROOM, and what can be asked of its parts. */
final class EdgesOfParts {
    private static final int NONE = Sheet.NONE;
    private static final int LOW = Integer.MIN_VALUE;
    private static final int HIGH = Integer.MAX_VALUE;
    // Each part is another number; p bursts on k in SECOND 0, q is LOST in 1, r floats on.
    private static final String ROOM = "room 4 by 5;lamp 3 4;door da at 1 2 blows 3 reach 6;door db at 2 1 blows 0 reach 4;open db;heir ha at 3 0 tall 9;"
        + "heir hb at 0 3 tall 8;bubble ba at 0 3 film 1 size 5;bubble bb at 1 4 film 2 size 6;bubble bc at 3 4 film 99 size 7;";
    private final Sheet sheet;

    EdgesOfParts(Sheet sheet) {
        this.sheet = sheet;
    }

    void run() {
        newObject();
        feed();
        feedTooMuch();
        end();
        room();
        roomRefused();
        roomAgain();
        roomAfterRoom();
        longRooms();
        fault();
        has();
        letter();
        lamp();
        door();
        heir();
        bubble();
        deed();
        draught();
    }

    /** Six of each sort, with a NAME of six letters for the last. */
    private static String sixOfEach() {
        StringBuilder text = new StringBuilder("room 7 by 3;");
        for (int k = 0; k < 6; k++) {
            String name = k == 5 ? "uvxyz" : "" + (char) ('a' + k);
            text.append("door d").append(name).append(" at ").append(k).append(" 1 blows ").append(k % 4).append(" reach ").append(k + 1).append(';');
            text.append("heir h").append(name).append(" at ").append(k).append(" 0 tall ").append(k).append(';');
            text.append("bubble b").append(name).append(" at ").append(k).append(" 2 film ").append(10 + k).append(" size ").append(k + 1).append(';');
        }
        return text.toString();
    }

    private void newObject() {
        sheet.promise(1);
        sheet.says("No room, no bubbles; the seed is 1.");
        SoapDeeds x = new SoapDeeds();
        sheet.parts("has", x::has, 0, 0, 0, 0, 0, 0, 0, 0, 0, 0, 0, 0, 1);
        sheet.due("refused", Sheet.refusals(x), "0 0 0 0 0 0");
        int[] none = {x.fault(1), x.letter(0, 0, 0), x.letter(1, 0, 0), x.letter(2, 0, 0), x.lamp(0), x.lamp(1), x.door(0, 0), x.heir(0, 0), x.bubble(0, 0),
            x.bubble(0, 2), x.deed(0, 2), x.draught(0, 0), x.later(0, 0, 2), x.goes(0), x.owner(0, 0), x.doors(0, 0, 0), x.stand(0, 1, 2), x.shine(1, 2),
            x.lasts(0, 1), x.odds(0, 0), x.from(0, NONE), x.from(0, 0), x.tells(0, 0), x.kept(0, 0), x.octet(0), x.seconds(1), x.chance(1), x.feel()};
        for (int k = 0; k < none.length; k++) {
            sheet.due("answer " + k + " without a room", none[k], NONE);
        }
        sheet.due("swing", x.swing(0, 1), false);
        sheet.due("tiptoe", x.tiptoe(0, 1), false);
        sheet.due("carry", x.carry(0, 0), false);
        sheet.due("undo", x.undo(), false);
        sheet.due("on", x.on(), false);
        sheet.due("no DRAW without a room", x.has(12), 1);
        sheet.due("refused", Sheet.refusals(x), "0 0 2 3 1 2");
        sheet.due("an image", x.image(), 5);
    }

    private void feed() {
        sheet.promise(2);
        sheet.says("Twenty bytes come behind those on the tape, of each number the highest first: how many there are;");
        SoapDeeds x = new SoapDeeds();
        sheet.due("twenty", x.feed(0x726f6f6d, 0x20332062, 0x7920343b, 0x68656972, 0x20680a61), 20);
        sheet.due("twenty behind them", x.feed(0x74203120, 0x32207462, 0, 0, 0), 40);
        sheet.due("end(27)", x.end(27), true);
        sheet.due("behind 27", x.feed(0x616c6c20, 0x383b6272, 0x65617468, 0x2037203b, 0x20202020), 47);
        // room 3 by 4;heir h\nat 1 2 tall 8;breath 7 ;
        sheet.due("room()", x.room(), 3);
        sheet.due("rows", x.has(1), 4);
        sheet.due("tall", x.heir(0, 2), 8);
        // Each byte of each number, by an image: all bits count, the highest one, too.
        int[] image = Sheet.image(x);
        int[] numbers = {0, 0, 255, 255, 1, 2, 0};
        Sheet.checked(numbers);
        for (int k = 0; k < image.length; k++) {
            sheet.due("byte " + k, image[k], numbers[k]);
        }
        sheet.due("as numbers", x.feed(0x0000ffff, 0x02030000 | numbersCheck(2, 3) << 8, -1, LOW, HIGH), 20);
        sheet.due("end(7)", x.end(7), true);
        sheet.due("on()", x.on(), true);
        sheet.due("column", x.heir(0, 0), 2);
        sheet.due("row", x.heir(0, 1), 3);
    }

    private static int numbersCheck(int column, int row) {
        return Sheet.checked(0, 0, 255, 255, column, row, 0)[6];
    }

    private void feedTooMuch() {
        sheet.promise(2);
        sheet.says("NONE, refused (0), if there would be more than 1600.");
        SoapDeeds x = new SoapDeeds();
        for (int k = 1; k <= 80; k++) {
            sheet.due("feed " + k, x.feed(0x20202020, 0x20202020, 0x20202020, 0x20202020, 0x20202020), 20 * k);
        }
        sheet.due("none was refused", x.status(0), 0);
        sheet.due("feed 81", x.feed(1, 2, 3, 4, 5), NONE);
        sheet.due("one was refused", x.status(0), 1);
        sheet.due("1600 stay", x.end(1600), true);
        for (int length : new int[] {1599, 1590, 1581}) {
            sheet.due("end(" + length + ")", x.end(length), true);
            sheet.due("twenty behind " + length, x.feed(1, 2, 3, 4, 5), NONE);
            sheet.due("they stay", x.end(length), true);
            sheet.due("no more", x.end(length + 1), false);
        }
        sheet.due("end(1580)", x.end(1580), true);
        sheet.due("twenty behind 1580", x.feed(0x20202020, 0x20202020, 0x20202020, 0x20202020, 0x20202020), 1600);
        sheet.due("end(1579)", x.end(1579), true);
        sheet.due("twenty behind 1579", x.feed(0x20202020, 0x20202020, 0x20202020, 0x20202020, 0x20202020), 1599);
        sheet.due("refused: 4 feeds, 3 ends", Sheet.refusals(x), "7 0 0 0 0 0");
        sheet.due("room()", x.room(), NONE);
        sheet.due("1599 blanks", x.fault(1), 1599);
        sheet.due("the tape is empty then", x.feed(0, 0, 0, 0, 0), 20);
    }

    private void end() {
        sheet.promise(3);
        sheet.says("The tape has its first n bytes alone: true; false, refused (0), if it has not so many, or n is below 0.");
        SoapDeeds x = new SoapDeeds();
        sheet.due("0 of none", x.end(0), true);
        sheet.due("1 of none", x.end(1), false);
        sheet.due("-1 of none", x.end(-1), false);
        x.feed(0x726f6f6d, 0x20332062, 0x7920333b, 0x6c616d70, 0x20302030);
        sheet.due("21 of 20", x.end(21), false);
        sheet.due("20 of 20", x.end(20), true);
        sheet.due("-1", x.end(-1), false);
        sheet.due("the lowest", x.end(LOW), false);
        sheet.due("the highest", x.end(HIGH), false);
        sheet.due("refused", Sheet.refusals(x), "6 0 0 0 0 0");
        sheet.due("20 still", x.end(20), true);
        sheet.due("19", x.end(19), true);
        sheet.due("20 no more", x.end(20), false);
        sheet.due("12", x.end(12), true);
        sheet.due("the first 12", x.room(), 1);
        sheet.due("0 behind room()", x.end(0), true);
        sheet.due("1 behind room()", x.end(1), false);
        x.feed(0x726f6f6d, 0x20332062, 0x7920333b, 0, 0);
        sheet.due("0", x.end(0), true);
        sheet.due("nothing is left", x.room(), NONE);
        sheet.due("FAULT at 0", x.fault(1), 0);
    }

    private void room() {
        sheet.promise(4);
        sheet.says("The tape (it goes) is THE ROOM: how many STATEMENTS;");
        SoapDeeds x = new SoapDeeds();
        sheet.due("one", Sheet.room(x, "room 3 by 3;"), 1);
        sheet.due("the tape went", x.end(1), false);
        sheet.due("ten", Sheet.room(x, ROOM), 10);
        sheet.due("the tape went", x.end(1), false);
        sheet.due("eighty", Sheet.room(x, "room 3 by 3;" + "lamp 0 0;".repeat(79)), 80);
        sheet.due("the whole tape", Sheet.room(x, "room 3 by 3;" + " ".repeat(1579) + "breath 0;"), 2);
        sheet.due("the tape went", x.feed(0, 0, 0, 0, 0), 20);
    }

    private void roomRefused() {
        sheet.promise(4);
        sheet.says("NONE, refused (1), with a FAULT (all stays).");
        SoapDeeds x = sheet.in(ROOM);
        x.seed(77);
        x.seconds(1);
        x.swing(0, 1);
        Sheet.felt(x, 0, 2, 3, 4);
        String state = Sheet.state(x);
        String[] texts = {"", "room 3 by 3", "room 8 by 3;", "room 3 by 3;heir a at 0 0 tall 0;heir a", "room 3 by 3;open d;",
            "room 7 by 7;door x at 0 0 blows 1 reach 1;bubble y at 0 0 film 9 size 9;lamp 0 0;thins 9;thins 9;", "room 3 by 3;thins ((((((((1;"};
        for (int k = 0; k < texts.length; k++) {
            sheet.due("room() of " + texts[k], Sheet.room(x, texts[k]), NONE);
            sheet.due("refused", x.status(1), k + 1);
            sheet.due("the tape went", x.end(1), false);
        }
        sheet.due("all stays", Sheet.state(x), state);
        sheet.due("columns stay", x.has(0), 4);
        sheet.due("rows stay", x.has(1), 5);
        sheet.due("NAMES stay", x.letter(0, 1, 1), 2);
        sheet.due("DOORS stay", x.door(0, 3), 6);
        sheet.due("FELT stays", x.has(10), 1);
        sheet.due("it is so still", x.from(2, NONE), 1);
        x.seconds(1);
        sheet.due("thins stays", x.bubble(2, 2), 97);
        sheet.due("refused", Sheet.refusals(x), "7 7 0 0 0 0");
        sheet.due("an ACT can be undone", x.undo(), true);
    }

    private void roomAgain() {
        sheet.promise(4);
        sheet.says("Without one all is as at first, nothing is KEPT or FELT, no ACT can be undone; the seed stays.");
        SoapDeeds x = sheet.in(ROOM);
        String first = Sheet.state(x);
        x.seed(77);
        x.seconds(2);
        x.swing(0, 1);
        x.tiptoe(0, 3);
        x.carry(0, 0);
        Sheet.felt(x, 0, 2, 0, 0);
        sheet.due("KEPT", x.has(9), 2);
        sheet.due("FELT", x.has(10), 1);
        sheet.due("ACTS", x.has(11), 4);
        sheet.due("the same room()", Sheet.room(x, ROOM), 10);
        sheet.due("all is as at first", Sheet.state(x), first.replace("seed 1 ", "seed 77 "));
        sheet.due("none KEPT", x.has(9), 0);
        sheet.due("none FELT", x.has(10), 0);
        sheet.due("all CELLS again", x.from(2, NONE), 20);
        sheet.due("no ACT", x.has(11), 0);
        sheet.due("none can be undone", x.undo(), false);
        sheet.due("the seed", x.has(12), 77);
        sheet.due("another room()", Sheet.room(x, "room 3 by 3;"), 1);
        sheet.parts("has", x::has, 3, 3, 0, 0, 0, 0, 0, 0, 0, 0, 0, 0, 77);
        sheet.due("no lamp", x.lamp(0), NONE);
        sheet.due("no DRAUGHT", x.draught(2, 1), NONE);
        // Rules go with their room.
        Sheet.room(x, "room 3 by 3;lamp 0 0;bubble p at 0 0 film 50 size 1;thins 7;bursts second=1;hue 9;breath 100;");
        Sheet.room(x, "room 3 by 3;lamp 0 0;bubble p at 0 0 film 50 size 1;");
        sheet.due("no bursts", x.seconds(2), 0);
        sheet.due("no thins", x.bubble(0, 2), 48);
        sheet.due("no hue", x.deed(0, 2), 8);
        sheet.due("no breath", x.chance(40), 0);
    }

    /** Texts of one object, with FAULTS or without: none leaves anything to the next one. */
    private void roomAfterRoom() {
        sheet.promise(4);
        sheet.says("Without one all is as at first");
        String full = "room 7 by 7;lamp 6 6;door a at 0 0 blows 1 reach 6;door b at 0 1 blows 1 reach 6;open b;open a;heir c at 0 0 tall 9;heir d at 6 6 tall 9;"
            + "bubble e at 0 0 film 50 size 9;bubble f at 6 6 film 50 size 9;thins 7;bursts second=1;hue 9;breath 100;";
        String plain = "room 3 by 3;lamp 0 0;bubble e at 0 0 film 50 size 1;door a at 1 1 blows 1 reach 1;";
        SoapDeeds x = new SoapDeeds();
        for (String ahead : new String[] {full, full.replace("breath 100;", ""), full + "#", full + "thins 1;", full + "heir a", full + "open a;"}) {
            for (int times = 1; times <= 3; times++) {
                Sheet.room(x, ahead);
                sheet.due("no more than its own", Sheet.room(x, "room 3 by 3;" + "open b;"), NONE);
                sheet.due("its FAULT", x.fault(0), 3);
                sheet.due("the plain room()", Sheet.room(x, plain), 4);
            }
            sheet.parts("has", x::has, 3, 3, 1, 0, 1, 0, 1, 0, 0, 0, 0, 0, 1);
            sheet.due("no open DOOR", x.door(0, 4), 0);
            sheet.due("no bursts", x.seconds(2), 0);
            sheet.due("no thins", x.bubble(0, 2), 48);
            sheet.due("no hue", x.deed(0, 2), 8);
            sheet.due("no breath", x.chance(40), 0);
            x = new SoapDeeds();
        }
        // Each NAME, each rule and each CELL can be told again.
        SoapDeeds y = new SoapDeeds();
        for (int times = 1; times <= 4; times++) {
            sheet.due("the same again", Sheet.room(y, full), 14);
            sheet.due("with a FAULT", Sheet.room(y, full + "heir a"), NONE);
            sheet.due("no lamp", Sheet.room(y, "room 3 by 3;"), 1);
            sheet.due("no lamp", y.lamp(0), NONE);
        }
    }

    /** A rule as long as the tape, told again and again to one object. */
    private void longRooms() {
        sheet.promise(4);
        sheet.says("The tape (it goes) is THE ROOM");
        String head = "room 3 by 3;bubble p at 0 0 film 99 size 1;thins 0";
        // The last number is what thins: not one of them may be left out.
        String text = head + "+0".repeat((1600 - head.length() - 3) / 2) + "+2;";
        SoapDeeds x = new SoapDeeds();
        for (int times = 1; times <= 5; times++) {
            sheet.due("room() " + times, Sheet.room(x, text), 3);
            sheet.due("none bursts", x.seconds(3), 0);
            sheet.due("film", x.bubble(0, 2), 93);
        }
        String least = head + "+min(0,1)".repeat((1600 - head.length() - 3) / 9) + "+2;";
        SoapDeeds y = sheet.in(least);
        y.seconds(40);
        sheet.due("film", y.bubble(0, 2), 19);
    }

    private void fault() {
        sheet.promise(5);
        sheet.says("Of the latest room(): its FAULT (what 0; 0 without, and ahead of any), its place (1; NONE without). NONE for another what.");
        SoapDeeds x = new SoapDeeds();
        sheet.parts("ahead of any", x::fault, 0, NONE);
        String[] texts = {"room 3 by 3;#", "room 3 by 3;heir h at 0 0 tall 0;heir h", "room 3 by 3;open x;", "room 3 by 9", "room 3 by 3;thins ((((((((1",
            "room 3 by 3;hue 1;hue 1;"};
        int[] places = {12, 38, 17, 10, 25, 18};
        for (int k = 0; k < texts.length; k++) {
            Sheet.room(x, texts[k]);
            sheet.parts("FAULT " + (k + 1), x::fault, k + 1, places[k]);
        }
        Sheet.room(x, "room 3 by 3;");
        sheet.parts("without", x::fault, 0, NONE);
        Sheet.room(x, "");
        sheet.parts("at 0", x::fault, 1, 0);
        x.feel();
        x.on();
        sheet.parts("of room() alone", x::fault, 1, 0);
    }

    private void has() {
        sheet.promise(6);
        sheet.says("How many there are: 0 columns, 1 rows, 2 DOORS, 3 HEIRS, 4 BUBBLES, 5 SECOND, 6 that float, 7 DEEDS that are owned, 8 LOST, 9 told as KEPT,"
            + " 10 rows FELT, 11 ACTS that can be undone, 12 the seed. NONE for others.");
        SoapDeeds x = sheet.in(ROOM);
        sheet.parts("has", x::has, 4, 5, 2, 2, 3, 0, 3, 0, 0, 0, 0, 0, 1);
        x.seconds(1);
        x.seconds(1);
        x.seed(HIGH);
        x.swing(0, 1);
        x.carry(0, 0);
        Sheet.felt(x, 0, 0, 255, 255, 0, 1, 255, 255, 1, 2, 3, 4, 2, 2, 3, 4, 3, 2, 3, 4);
        sheet.parts("has", x::has, 4, 5, 2, 2, 3, 2, 1, 1, 1, 2, 5, 4, HIGH);
        SoapDeeds six = sheet.in(sixOfEach());
        sheet.parts("has", six::has, 7, 3, 6, 6, 6, 0, 6, 0, 0, 0, 0, 0, 1);
        // One that joins is no DEED less: it is neither owned nor LOST.
        SoapDeeds two = sheet.in("room 3 by 3;door a at 0 0 blows 1 reach 1;open a;bubble p at 1 0 film 9 size 1;bubble q at 2 0 film 9 size 1;");
        two.seconds(1);
        sheet.parts("has", two::has, 3, 3, 1, 0, 2, 1, 1, 0, 0, 0, 0, 1, 1);
    }

    private void letter() {
        sheet.promise(7);
        sheet.says("Letter k (0 .. 5) of the NAME of a DOOR (kind 0), a HEIR (1), a BUBBLE (2): 1 .. 26; 0 behind it; NONE when there is none such.");
        SoapDeeds x = sheet.in(sixOfEach());
        int[] firsts = {4, 8, 2};
        for (int kind = 0; kind < 3; kind++) {
            int sort = kind;
            sheet.parts("letter 1 of kind " + kind, which -> x.letter(sort, which, 1), 1, 2, 3, 4, 5, 21);
            sheet.parts("letters of the last of kind " + kind, k -> x.letter(sort, 5, k), firsts[kind], 21, 22, 24, 25, 26);
        }
        SoapDeeds y = sheet.in(sixOfEach());
        sheet.parts("first letters by kind", kind -> y.letter(kind, 0, 0), firsts);
        sheet.parts("letters of a short one", k -> y.letter(1, 0, k), 8, 1, 0, 0, 0, 0);
        SoapDeeds z = sheet.in("room 3 by 3;heir a at 0 0 tall 0;heir zzzzzz at 1 0 tall 0;");
        sheet.parts("a", k -> z.letter(1, 0, k), 1, 0, 0, 0, 0, 0);
        sheet.parts("zzzzzz", k -> z.letter(1, 1, k), 26, 26, 26, 26, 26, 26);
        sheet.due("no DOOR", z.letter(0, 0, 0), NONE);
        sheet.due("no BUBBLE", z.letter(2, 0, 0), NONE);
        sheet.due("no third", z.letter(1, 2, 0), NONE);
        sheet.due("none at all", new SoapDeeds().letter(1, 0, 0), NONE);
    }

    private void lamp() {
        sheet.promise(8);
        sheet.says("The lamp's column (what 0), row (1); NONE without one, or for others.");
        SoapDeeds x = sheet.in("room 3 by 7;lamp 2 6;");
        sheet.parts("lamp", x::lamp, 2, 6);
        x.carry(0, 0);
        sheet.parts("lamp", x::lamp, 0, 0);
        SoapDeeds none = sheet.in("room 3 by 7;");
        sheet.parts("without", none::lamp, NONE, NONE);
        sheet.parts("without a room", new SoapDeeds()::lamp, NONE, NONE);
    }

    private void door() {
        sheet.promise(9);
        sheet.says("Of a DOOR: 0 column, 1 row, 2 its WAY, 3 its reach, 4 whether OPEN. NONE when there is none such, or for others.");
        SoapDeeds x = sheet.in(ROOM);
        sheet.parts("the first", what -> x.door(0, what), 1, 2, 3, 6, 0);
        sheet.parts("the last", what -> x.door(1, what), 2, 1, 0, 4, 1);
        sheet.parts("reach by DOORS", door -> x.door(door, 3), 6, 4);
        x.swing(0, 1);
        x.swing(1, 0);
        sheet.parts("OPEN by DOORS", door -> x.door(door, 4), 1, 0);
        SoapDeeds six = sheet.in(sixOfEach());
        sheet.parts("reach by six DOORS", door -> six.door(door, 3), 1, 2, 3, 4, 5, 6);
        sheet.due("none", sheet.in("room 3 by 3;").door(0, 4), NONE);
    }

    private void heir() {
        sheet.promise(10);
        sheet.says("Of a HEIR: 0 column, 1 row, 2 how tall, 3 how many DEEDS, 4 their RENT together. NONE when there is none such, or for others.");
        SoapDeeds x = sheet.in(ROOM);
        sheet.parts("the first", what -> x.heir(0, what), 3, 0, 9, 0, 0);
        sheet.parts("the last", what -> x.heir(1, what), 0, 3, 8, 0, 0);
        x.seconds(1);
        sheet.parts("the last then", what -> x.heir(1, what), 0, 3, 8, 1, 0);
        SoapDeeds six = sheet.in(sixOfEach());
        sheet.parts("tall by six", heir -> six.heir(heir, 2), 0, 1, 2, 3, 4, 5);
        // The most: six DEEDS of 999 each, and none for the others.
        int[] image = Sheet.image(six);
        int at = 4 + 6 + 12;
        for (int k = 0; k < 6; k++) {
            System.arraycopy(new int[] {255, 255, 0, 0, 0}, 0, image, at + 5 * k, 5);
            System.arraycopy(new int[] {5, 3, 231}, 0, image, at + 30 + 3 * k, 3);
        }
        sheet.due("on()", Sheet.on(six, image), true);
        sheet.parts("how many by six", heir -> six.heir(heir, 3), 0, 0, 0, 0, 0, 6);
        sheet.parts("RENT by six", heir -> six.heir(heir, 4), 0, 0, 0, 0, 0, 5994);
        sheet.due("none", sheet.in("room 3 by 3;").heir(0, 3), NONE);
    }

    private void bubble() {
        sheet.promise(11);
        sheet.says("Of a BUBBLE: 0 column, 1 row (NONE each: GONE), 2 film, 3 size, 4 its DEEDS, as bits (0 each: GONE). NONE when there is none such, or for others.");
        SoapDeeds x = sheet.in(ROOM);
        sheet.parts("the first", what -> x.bubble(0, what), 0, 3, 1, 5, 1);
        sheet.parts("the last", what -> x.bubble(2, what), 3, 4, 99, 7, 4);
        x.seconds(1);
        sheet.parts("GONE", what -> x.bubble(0, what), NONE, NONE, 0, 0, 0);
        sheet.parts("not GONE", what -> x.bubble(1, what), 1, 4, 1, 6, 2);
        SoapDeeds six = sheet.in(sixOfEach());
        sheet.parts("film by six", bubble -> six.bubble(bubble, 2), 10, 11, 12, 13, 14, 15);
        sheet.parts("DEEDS by six", bubble -> six.bubble(bubble, 4), 1, 2, 4, 8, 16, 32);
        sheet.due("none", sheet.in("room 3 by 3;").bubble(0, 2), NONE);
    }

    private void deed() {
        sheet.promise(12);
        sheet.says("Of a DEED: 0 the HEIR who owns it (NONE), 1 the BUBBLE in which it is (NONE), 2 its RENT. NONE when there is none such, or for others.");
        SoapDeeds x = sheet.in(ROOM);
        x.seconds(2);
        sheet.parts("owned", what -> x.deed(0, what), 1, NONE, 0);
        sheet.parts("LOST", what -> x.deed(1, what), NONE, NONE, 0);
        sheet.parts("in a BUBBLE", what -> x.deed(2, what), NONE, 2, 18);
        SoapDeeds y = sheet.in(ROOM);
        sheet.parts("where they are", deed -> y.deed(deed, 1), 0, 1, 2);
        sheet.due("none", sheet.in("room 3 by 3;").deed(0, 2), NONE);
    }

    private void draught() {
        sheet.promise(13);
        sheet.says("The DRAUGHT in a CELL; NONE without, or when there is none such.");
        SoapDeeds x = sheet.in("room 3 by 5;door a at 0 0 blows 1 reach 6;door b at 0 4 blows 1 reach 6;open a;open b;");
        sheet.parts("the first row", column -> x.draught(column, 0), 1, 1, 1);
        sheet.parts("the last row", column -> x.draught(column, 4), 1, 1, 1);
        sheet.parts("the second row", column -> x.draught(column, 1), NONE, NONE, NONE);
        sheet.parts("the last column", row -> x.draught(2, row), 1, NONE, NONE, NONE, 1);
        SoapDeeds high = sheet.in("room 7 by 7;door a at 6 6 blows 0 reach 6;open a;");
        sheet.parts("the last column", row -> high.draught(6, row), 0, 0, 0, 0, 0, 0, 0);
        sheet.parts("the last row", column -> high.draught(column, 6), NONE, NONE, NONE, NONE, NONE, NONE, 0);
    }
}
