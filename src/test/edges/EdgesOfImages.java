import java.util.Arrays;

/** Promises 33 to 35: images. */
final class EdgesOfImages {
    private static final int NONE = Sheet.NONE;
    private static final int GONE = 255;
    // The columns differ from the rows, the DOORS from the HEIRS, the HEIRS from the BUBBLES.
    private static final String ROOM = "room 3 by 5;lamp 1 4;door d at 0 0 blows 1 reach 1;heir h at 0 0 tall 1;heir k at 2 4 tall 1;"
        + "bubble p at 0 1 film 9 size 1;bubble q at 2 2 film 9 size 2;bubble r at 1 3 film 9 size 3;";
    private static final int LAMP = 2;
    private static final int DOOR = 4;
    private static final int HEIR = 5;
    private static final int BUBBLE = 9;
    private static final int DEED = 24;
    private static final int LENGTH = 34;
    private final Sheet sheet;

    EdgesOfImages(Sheet sheet) {
        this.sheet = sheet;
    }

    void run() {
        image();
        octet();
        on();
        noSuchImage();
        secondsAndRents();
        flags();
        cells();
        noTwo();
        filmsAndSizes();
        deeds();
        heirs();
        withoutRoom();
    }

    private void image() {
        sheet.promise(33);
        sheet.says("AN IMAGE is written: how many bytes.");
        sheet.due("without a room", new SoapDeeds().image(), 5);
        sheet.due("of an empty room", sheet.in("room 3 by 3;").image(), 5);
        sheet.due("of one DOOR", sheet.in("room 3 by 3;door d at 0 0 blows 0 reach 1;").image(), 6);
        sheet.due("of one HEIR", sheet.in("room 3 by 3;heir h at 0 0 tall 0;").image(), 7);
        sheet.due("of one BUBBLE", sheet.in("room 3 by 3;bubble b at 0 0 film 1 size 1;").image(), 13);
        sheet.due("of a room", sheet.in(ROOM).image(), LENGTH);
        StringBuilder text = new StringBuilder("room 7 by 7;");
        for (int k = 0; k < 6; k++) {
            char c = (char) ('a' + k);
            text.append("door d").append(c).append(" at 0 0 blows 0 reach 1;heir h").append(c).append(" at 0 ").append(k).append(" tall 0;bubble b").append(c)
                .append(" at 6 ").append(k).append(" film 1 size 1;");
        }
        SoapDeeds most = sheet.in(text.toString());
        sheet.due("of six of each", most.image(), 71);
        sheet.due("its last byte", most.octet(70) != NONE, true);
        int[] bytes = Sheet.image(most);
        most.seconds(1);
        sheet.due("with all GONE", most.image(), 71);
        sheet.due("on()", Sheet.on(most, bytes), true);
        sheet.due("all float", most.has(6), 6);
    }

    private void octet() {
        sheet.promise(34);
        sheet.says("Byte k of the latest image(); NONE when there is none such.");
        SoapDeeds x = sheet.in(ROOM);
        sheet.due("ahead of any", x.octet(0), NONE);
        x.image();
        sheet.due("-1", x.octet(-1), NONE);
        sheet.due("the first", x.octet(0), 0);
        sheet.due("the last but one", x.octet(LENGTH - 2), 0);
        sheet.due("the last", x.octet(LENGTH - 1), Sheet.checked(Sheet.image(x))[LENGTH - 1]);
        sheet.due("behind the last", x.octet(LENGTH), NONE);
        sheet.due("71", x.octet(71), NONE);
        for (int wild : Sheet.WILD) {
            sheet.due("" + wild, x.octet(wild), NONE);
        }
        x.seconds(3);
        sheet.due("the latest image(), not what is now", x.octet(1), 0);
        x.undo();
        x.seconds(2);
        x.image();
        x.undo();
        sheet.due("the latest", x.octet(1), 2);
        Sheet.room(x, "room 3 by 3;");
        sheet.due("of the latest, though of another ROOM", x.octet(1), 2);
        sheet.due("a shorter one", x.image(), 5);
        sheet.due("its first", x.octet(1), 0);
        sheet.due("nothing of the longer one", x.octet(5), NONE);
    }

    private static int[] with(int[] image, int at, int... bytes) {
        int[] other = image.clone();
        System.arraycopy(bytes, 0, other, at, bytes.length);
        return Sheet.checked(other);
    }

    private int[] first() {
        return Sheet.image(sheet.in(ROOM));
    }

    /** The image is taken on, and is as it tells. */
    private SoapDeeds taken(String what, int[] image) {
        SoapDeeds x = sheet.in(ROOM);
        x.seconds(1);
        sheet.due(what, Sheet.on(x, image), true);
        sheet.due(what + ": none was refused", x.status(5), 0);
        sheet.due(what + ": as it tells", Arrays.toString(Sheet.image(x)), Arrays.toString(Sheet.checked(image)));
        return x;
    }

    /** All stays but the tape and the count of refusals. */
    private void refused(String what, int[] image) {
        Sheet.checked(image);
        refusedBytes(what, image);
    }

    private void refusedBytes(String what, int... bytes) {
        SoapDeeds x = sheet.in(ROOM);
        x.seconds(9);
        x.seed(5);
        x.carry(0, 0);
        Sheet.felt(x, 0, 0, 255, 255);
        String state = Sheet.state(x);
        Sheet.tape(x, bytes);
        sheet.due(what, x.on(), false);
        sheet.due(what + ": refused", Sheet.refusals(x), "0 0 0 0 0 1");
        sheet.due(what + ": all stays", Sheet.state(x), state);
        sheet.due(what + ": FELT stays", x.has(10), 1);
        sheet.due(what + ": the tape went", x.end(1), false);
    }

    private void on() {
        sheet.promise(35);
        sheet.says("The tape (it goes) is AN IMAGE of this ROOM: true, all is as it tells, nothing is KEPT, no ACT can be undone;");
        SoapDeeds x = sheet.in(ROOM);
        x.seconds(4);
        x.swing(0, 1);
        x.tiptoe(0, 2);
        x.carry(2, 0);
        int[] image = Sheet.image(x);
        SoapDeeds y = sheet.in(ROOM);
        y.seed(9);
        y.seconds(10);
        Sheet.felt(y, 0, 0, 255, 255);
        sheet.due("KEPT", y.has(9), 3);
        sheet.due("ACTS", y.has(11), 1);
        sheet.due("on()", Sheet.on(y, image), true);
        sheet.due("the tape went", y.end(1), false);
        sheet.due("as it tells", Arrays.toString(Sheet.image(y)), Arrays.toString(image));
        sheet.due("nothing is KEPT", y.has(9), 0);
        sheet.due("no ACT", y.has(11), 0);
        sheet.due("none can be undone", y.undo(), false);
        sheet.due("the seed stays", y.has(12), 9);
        sheet.due("FELT stays", y.has(10), 1);
        // It goes on from there as the one did of which the image is.
        y.seconds(5);
        x.seconds(5);
        sheet.due("it goes on", Arrays.toString(Sheet.image(y)), Arrays.toString(Sheet.image(x)));
        sheet.due("KEPT from then on", y.has(9), x.has(9));
        sheet.due("the ROOM's rules stay", y.door(0, 3), 1);
        taken("the first image", first());
        smallerRoom();
    }

    /** An image of a ROOM with fewer of each leaves nothing of one with more. */
    private void smallerRoom() {
        SoapDeeds x = sheet.in(ROOM);
        int[] large = with(first(), DEED, 0, 3, 0);
        System.arraycopy(new int[] {GONE, GONE, 0, 0, 0}, 0, large, BUBBLE, 5);
        int[] all = with(large, BUBBLE + 10, 1, 3, 9, 3, 4);
        sheet.due("on() of the larger", Sheet.on(x, all), true);
        Sheet.room(x, "room 3 by 3;heir h at 0 0 tall 0;bubble p at 0 0 film 1 size 1;");
        sheet.due("on() of the smaller", Sheet.on(x, 0, 7, GONE, GONE, 1, 1, 2, 2, 5, 6, 1, GONE, 0, 8, 0), true);
        sheet.parts("has", x::has, 3, 3, 0, 1, 1, 7, 1, 0, 0, 0, 0, 0, 1);
        sheet.parts("the HEIR", what -> x.heir(0, what), 1, 1, 0, 0, 0);
        sheet.parts("the BUBBLE", what -> x.bubble(0, what), 2, 2, 5, 6, 1);
        sheet.parts("the DEED", what -> x.deed(0, what), NONE, 0, 8);
        sheet.due("its DEEDS", x.stand(0, 5, 2), 1);
        sheet.due("the RENT of all", x.shine(1, 2), 8);
        sheet.due("on() with all owned", Sheet.on(x, 0, 7, GONE, GONE, 1, 1, GONE, GONE, 0, 0, 0, 0, 0, 8, 0), true);
        sheet.due("one DEED", x.heir(0, 3), 1);
        sheet.due("its RENT", x.heir(0, 4), 8);
        sheet.due("none floats", x.has(6), 0);
    }

    private void noSuchImage() {
        sheet.promise(35);
        sheet.says("false, refused (5), all staying, if it is none such");
        int[] image = first();
        refusedBytes("an empty tape");
        refusedBytes("one byte less", Arrays.copyOf(image, LENGTH - 1));
        refused("one byte less, with a last byte that fits", Arrays.copyOf(image, LENGTH - 1));
        refusedBytes("one byte more", Arrays.copyOf(image, LENGTH + 1));
        refused("one byte more, with a last byte that fits", Arrays.copyOf(image, LENGTH + 1));
        refusedBytes("an image twice", Arrays.copyOf(image, 2 * LENGTH));
        refusedBytes("an image of another ROOM", Sheet.image(sheet.in("room 3 by 5;")));
        for (int k = 0; k < 8; k++) {
            int[] bad = image.clone();
            bad[LENGTH - 1] ^= 1 << k;
            refusedBytes("a last byte that differs in bit " + k, bad);
        }
        // Each byte counts for the last one.
        for (int k = 0; k < LENGTH - 1; k++) {
            int[] bad = image.clone();
            bad[k] ^= 1;
            refusedBytes("byte " + k + " without its last byte", bad);
        }
        // Mod 251: 251 more is not the same byte.
        boolean tried = false;
        for (int film = 1; film <= 99; film++) {
            int[] low = with(image, BUBBLE + 2, film);
            if (low[LENGTH - 1] <= 4) {
                taken("a last byte of " + low[LENGTH - 1], low.clone());
                low[LENGTH - 1] += 251;
                refusedBytes("a last byte of 251 more", low);
                tried = true;
            }
        }
        sheet.due("such a last byte was tried", tried, true);
    }

    private void secondsAndRents() {
        sheet.promise(35);
        sheet.says("(SECOND, RENTS 999 at most;");
        int[] image = first();
        for (int n : new int[] {0, 1, 255, 256, 767, 768, 998, 999, 1000, 1001, 1023, 1024, 32768, 65535}) {
            int[] second = with(image, 0, n / 256, n % 256);
            if (n <= 999) {
                sheet.due("SECOND", taken("SECOND " + n, second).has(5), n);
            } else {
                refused("SECOND " + n, second);
            }
            for (int deed = 0; deed < 3; deed++) {
                int[] rent = with(image, DEED + 3 * deed + 1, n / 256, n % 256);
                if (n <= 999) {
                    sheet.due("RENT", taken("RENT " + n, rent).deed(deed, 2), n);
                } else {
                    refused("RENT " + n + " of " + deed, rent);
                }
            }
        }
    }

    private void flags() {
        sheet.promise(35);
        sheet.says("flags 0, 1;");
        int[] image = first();
        sheet.due("0", taken("a flag of 0", with(image, DOOR, 0)).door(0, 4), 0);
        sheet.due("1", taken("a flag of 1", with(image, DOOR, 1)).door(0, 4), 1);
        for (int flag : new int[] {2, 3, 128, 254, 255}) {
            refused("a flag of " + flag, with(image, DOOR, flag));
        }
        // Whatever the text says of it at first.
        SoapDeeds open = sheet.in("room 3 by 3;door d at 0 0 blows 0 reach 1;open d;");
        sheet.due("a flag of 0", Sheet.on(open, 0, 0, 255, 255, 0, 0), true);
        sheet.due("shut", open.door(0, 4), 0);
        sheet.due("a flag of 1", Sheet.on(open, 0, 0, 255, 255, 1, 0), true);
        sheet.due("open", open.door(0, 4), 1);
        SoapDeeds six = sheet.in("room 3 by 3;door a at 0 0 blows 0 reach 1;door b at 0 0 blows 0 reach 1;door c at 0 0 blows 0 reach 1;"
            + "door d at 0 0 blows 0 reach 1;door e at 0 0 blows 0 reach 1;door f at 0 0 blows 0 reach 1;");
        for (int door = 0; door < 6; door++) {
            int[] flags = {0, 0, 255, 255, 0, 0, 0, 0, 0, 0, 0};
            flags[4 + door] = 1;
            sheet.due("one open", Sheet.on(six, flags), true);
            for (int other = 0; other < 6; other++) {
                sheet.due("DOOR " + other, six.door(other, 4), other == door ? 1 : 0);
            }
            flags[4 + door] = 2;
            sheet.due("a flag of 2", Sheet.on(six, flags), false);
        }
    }

    private static boolean isCell(int column, int row) {
        return column < 3 && row < 5;
    }

    private void cells() {
        sheet.promise(35);
        sheet.says("CELLS that there are,");
        int[] image = first();
        int[][] cells = {{0, 0}, {2, 0}, {0, 4}, {2, 4}, {1, 1}, {3, 0}, {0, 5}, {3, 5}, {4, 2}, {2, 6}, {7, 0}, {0, 7}, {8, 0}, {0, 8}, {254, 254}, {GONE, 254},
            {254, GONE}, {GONE, 0}, {0, GONE}, {GONE, GONE}};
        for (int[] cell : cells) {
            String where = cell[0] + " " + cell[1];
            boolean there = isCell(cell[0], cell[1]);
            boolean outside = cell[0] == GONE && cell[1] == GONE;
            int[] lamp = with(image, LAMP, cell);
            if (there || outside) {
                sheet.due("its column", taken("a lamp at " + where, lamp).lamp(0), there ? cell[0] : NONE);
            } else {
                refused("a lamp at " + where, lamp);
            }
            for (int heir = 0; heir < 2; heir++) {
                // The other one is where he is no hindrance.
                int[] heirs = with(with(image, HEIR + 2 * (1 - heir), 1, 2), HEIR + 2 * heir, cell);
                if (there) {
                    sheet.due("his row", taken("a HEIR at " + where, heirs).heir(heir, 1), cell[1]);
                } else {
                    refused("a HEIR at " + where, heirs);
                }
            }
            for (int bubble = 0; bubble < 3; bubble++) {
                int[] bubbles = with(image, BUBBLE + 5 * bubble, cell);
                if (there) {
                    sheet.due("its row", taken("a BUBBLE at " + where, bubbles).bubble(bubble, 1), cell[1]);
                } else {
                    refused("a BUBBLE at " + where, bubbles);
                }
                if (!outside) {
                    refused("nothing at " + where, with(bubbles, BUBBLE + 5 * bubble + 2, 0, 0, 0));
                }
                if (outside) {
                    int[] gone = with(bubbles, BUBBLE + 5 * bubble + 2, 0, 0, 0);
                    sheet.due("that float", taken("a BUBBLE that is GONE", gone).has(6), 2);
                    refused("GONE with a film", with(gone, BUBBLE + 5 * bubble + 2, 1));
                    refused("GONE with a size", with(gone, BUBBLE + 5 * bubble + 3, 1));
                    refused("GONE with a DEED", with(gone, BUBBLE + 5 * bubble + 4, 1 << bubble));
                }
            }
        }
    }

    private void noTwo() {
        sheet.promise(35);
        sheet.says("no two HEIRS, no two BUBBLES in one;");
        int[] image = first();
        refused("two HEIRS, the first with the last", with(image, HEIR, 2, 4));
        refused("two HEIRS, the last with the first", with(image, HEIR + 2, 0, 0));
        taken("two HEIRS who changed places", with(image, HEIR, 2, 4, 0, 0));
        taken("HEIRS in one column", with(image, HEIR, 2, 3));
        taken("HEIRS in one row", with(image, HEIR, 1, 4));
        int[][] places = {{0, 1}, {2, 2}, {1, 3}};
        for (int bubble = 0; bubble < 3; bubble++) {
            for (int other = 0; other < 3; other++) {
                if (bubble != other) {
                    refused("BUBBLE " + bubble + " with " + other, with(image, BUBBLE + 5 * bubble, places[other]));
                    taken("BUBBLE " + bubble + " next to " + other, with(image, BUBBLE + 5 * bubble, places[other][0], places[other][1] + 1));
                }
            }
        }
        taken("a BUBBLE in the CELL of a HEIR and of the lamp", with(with(image, BUBBLE, 2, 4), LAMP, 2, 4));
        // Any number can be GONE at once.
        int[] gone = image.clone();
        for (int bubble = 0; bubble < 3; bubble++) {
            System.arraycopy(new int[] {GONE, GONE, 0, 0, 0}, 0, gone, BUBBLE + 5 * bubble, 5);
            SoapDeeds x = taken(bubble + 1 + " GONE", gone);
            sheet.due("LOST", x.has(8), bubble + 1);
        }
    }

    private void filmsAndSizes() {
        sheet.promise(35);
        sheet.says("films 1 .. 99, sizes 1 .. 9,");
        int[] image = first();
        for (int bubble = 0; bubble < 3; bubble++) {
            for (int n : new int[] {0, 1, 2, 8, 9, 10, 11, 98, 99, 100, 101, 127, 128, 254, 255}) {
                int[] film = with(image, BUBBLE + 5 * bubble + 2, n);
                if (n >= 1 && n <= 99) {
                    sheet.due("film", taken("a film of " + n, film).bubble(bubble, 2), n);
                } else {
                    refused("a film of " + n, film);
                }
                int[] size = with(image, BUBBLE + 5 * bubble + 3, n);
                if (n >= 1 && n <= 9) {
                    sheet.due("size", taken("a size of " + n, size).bubble(bubble, 3), n);
                } else {
                    refused("a size of " + n, size);
                }
            }
        }
    }

    private void deeds() {
        sheet.promise(35);
        sheet.says("one DEED at least of one that floats, no DEED in two;");
        int[] image = first();
        for (int bubble = 0; bubble < 3; bubble++) {
            int at = BUBBLE + 5 * bubble + 4;
            refused("no DEED in " + bubble, with(image, at, 0));
            for (int bits = 1; bits < 256; bits++) {
                boolean others = (bits & 7 & ~(1 << bubble)) != 0;
                if (bits != 1 << bubble) {
                    refused("DEEDS " + bits + " in " + bubble + (others ? ", which others have" : ", which there are none"), with(image, at, bits));
                }
            }
        }
        // With the others GONE any of the three are in the one that floats.
        for (int bits = 1; bits < 9; bits++) {
            int[] one = with(image, BUBBLE, GONE, GONE, 0, 0, 0, 2, 2, 9, 2, bits, GONE, GONE, 0, 0, 0);
            if (bits < 8) {
                SoapDeeds x = taken("DEEDS " + bits, one);
                for (int deed = 0; deed < 3; deed++) {
                    sheet.due("where " + deed + " is", x.deed(deed, 1), (bits >> deed & 1) == 1 ? 1 : NONE);
                }
                sheet.due("LOST", x.has(8), 3 - Integer.bitCount(bits));
            } else {
                refused("DEEDS " + bits, one);
            }
        }
        int[] changed = with(with(with(image, BUBBLE + 4, 4), BUBBLE + 9, 1), BUBBLE + 14, 2);
        sheet.due("each in another's", taken("each has another's", changed).deed(0, 1), 1);
    }

    private void heirs() {
        sheet.promise(35);
        sheet.says("HEIRS that there are, nobody of a DEED that is in a BUBBLE),");
        int[] image = first();
        for (int deed = 0; deed < 3; deed++) {
            int[] gone = with(image, BUBBLE + 5 * deed, GONE, GONE, 0, 0, 0);
            for (int heir : new int[] {0, 1, 2, 3, 6, 127, 128, 254, GONE}) {
                int[] owned = with(gone, DEED + 3 * deed, heir);
                if (heir < 2 || heir == GONE) {
                    SoapDeeds x = taken("DEED " + deed + " of HEIR " + heir, owned);
                    sheet.due("who owns it", x.deed(deed, 0), heir == GONE ? NONE : heir);
                    sheet.due("owned", x.has(7), heir == GONE ? 0 : 1);
                    sheet.due("LOST", x.has(8), heir == GONE ? 1 : 0);
                } else {
                    refused("DEED " + deed + " of HEIR " + heir, owned);
                }
                if (heir != GONE) {
                    refused("DEED " + deed + " in a BUBBLE, of HEIR " + heir, with(image, DEED + 3 * deed, heir));
                    // In another's BUBBLE, too.
                    int other = (deed + 1) % 3;
                    refused("in another's BUBBLE", with(owned, BUBBLE + 5 * other + 4, 1 << deed | 1 << other));
                }
            }
        }
        SoapDeeds none = sheet.in("room 3 by 3;bubble p at 0 0 film 1 size 1;");
        sheet.due("HEIR 0 where there is none", Sheet.on(none, 0, 0, GONE, GONE, GONE, GONE, 0, 0, 0, 0, 0, 0, 0), false);
        sheet.due("nobody", Sheet.on(none, 0, 0, GONE, GONE, GONE, GONE, 0, 0, 0, GONE, 0, 0, 0), true);
    }

    private void withoutRoom() {
        sheet.promise(35);
        sheet.says("or without a room.");
        SoapDeeds x = new SoapDeeds();
        int[] image = Sheet.image(x);
        sheet.due("its own image", Sheet.on(x, image), false);
        sheet.due("the tape went", x.end(1), false);
        sheet.due("an empty tape", x.on(), false);
        sheet.due("refused", Sheet.refusals(x), "1 0 0 0 0 2");
        Sheet.room(x, "room");
        sheet.due("with a FAULT there is none still", Sheet.on(x, image), false);
        Sheet.room(x, "room 3 by 3;");
        sheet.due("with a room", Sheet.on(x, image), true);
    }
}
