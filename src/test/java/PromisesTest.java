/** Each promise by itself, with answers worked out by hand from the document: ordinary, at the edges, and refused. */
public final class PromisesTest {
    private static final int NONE = -1, UNKNOWN = -2, OUTSIDE = -3, NOT = -4, FULL = -5;
    private static final int MIN = Integer.MIN_VALUE, MAX = Integer.MAX_VALUE;
    private static int wrong = 0;
    private static int tested = 0;

    private static void due(String what, int want, int got) {
        tested++;
        if (want != got) {
            wrong++;
            System.out.println(what + ": answered " + got + ", due is " + want);
        }
    }

    private static ShakePictures small() {
        ShakePictures x = new ShakePictures();
        x.ground(2, 2);
        return x;
    }

    /** Two by two cells; an ear in cell 1, a shake in cell 0 begun at 0. */
    private static ShakePictures pair() {
        ShakePictures x = small();
        x.ear(1);
        x.shake(0, 0);
        return x;
    }

    /** The same with cell 1 in a block of its own, so that a step between them has a ray of each block. */
    private static ShakePictures twoBlocks() {
        ShakePictures x = pair();
        x.split(0, 2);
        return x;
    }

    private static void say(ShakePictures x, String text) {
        x.erase();
        for (int i = 0; i < text.length(); i += 8) {
            int n = Math.min(8, text.length() - i);
            long bytes = 0;
            for (int k = 0; k < n; k++) bytes |= (long) (text.charAt(i + k) & 255) << 8 * k;
            x.write(bytes, n);
        }
    }

    private static void promise1() {
        ShakePictures x = new ShakePictures();
        due("1 cells", 12, x.count(0));
        due("1 blocks in use", 1, x.count(1));
        for (int what = 2; what <= 7; what++) due("1 nothing else yet, " + what, 0, x.count(what));
        for (int c = 0; c < 12; c++) {
            due("1 all in block 0", 0, x.at(c, 0));
            due("1 slow at first", 10, x.at(c, 1));
        }
        due("1 four wide: right of cell 3 is nothing", 80, x.time(3, 4, 0));
        due("1 four wide: below cell 0 is cell 4", 20, x.time(0, 4, 0));
        due("1 ratio at first", 17, x.ratio(17));
        for (int b = 0; b < 8; b++) due("1 each slow is 10", 10, x.slow(b, 10));
    }

    private static void promise2() {
        ShakePictures x = new ShakePictures();
        for (int w = 2; w <= 4; w++) {
            for (int h = 2; h <= 4; h++) due("2 cells", w * h, x.ground(w, h));
        }
        x.ground(2, 4);
        due("2 two wide: cell 2 is below cell 0", 20, x.time(0, 2, 0));
        due("2 two wide: cells 1 and 2 do not touch", 40, x.time(1, 2, 0));
        due("2 last cell", 80, x.time(0, 7, 0));
        due("2 no cell 8", UNKNOWN, x.time(0, 8, 0));
        x.split(0, 1);
        x.slow(0, 20);
        x.slow(7, 30);
        x.ratio(20);
        x.ear(0);
        x.clock(0, 5);
        x.shake(1, 7);
        x.pick(0, 0, 0, 1, 2);
        x.tell(0, 2, 3);
        x.days(4);
        x.write(32, 1);
        int[][] no = {{1, 2}, {2, 1}, {5, 2}, {2, 5}, {0, 0}, {-3, 3}, {MAX, 2}, {MIN, MIN}, {3, -3}};
        for (int[] bad : no) due("2 outside " + bad[0] + " " + bad[1], OUTSIDE, x.ground(bad[0], bad[1]));
        due("2 refused: cells stay", 8, x.count(0));
        due("2 refused: blocks stay", 2, x.count(1));
        due("2 refused: ears stay", 1, x.count(2));
        due("2 refused: slow stays", 20, x.at(1, 1));
        due("2 ground", 9, x.ground(3, 3));
        due("2 blocks", 1, x.count(1));
        due("2 no ears", 0, x.count(2));
        due("2 no shakes", 0, x.count(3));
        due("2 no picks", 0, x.count(4));
        due("2 no tellings without picks", 0, x.count(5));
        due("2 the day stays", 4, x.count(6));
        due("2 the text stays", 1, x.count(7));
        due("2 slow of 0", 10, x.slow(0, 10));
        due("2 slow of 7", 10, x.slow(7, 10));
        due("2 ratio stays", 20, x.ratio(17));
        x.ear(4);
        x.shake(4, 0);
        x.pick(0, 0, 0, 0, 0);
        due("2 a new ear's clock is 0", 0, x.of(0, 0));
    }

    private static void promise3() {
        ShakePictures x = new ShakePictures();
        due("3 was 17", 17, x.ratio(10));
        due("3 was 10", 10, x.ratio(30));
        for (int bad : new int[] {9, 31, 0, -10, MIN, MAX}) due("3 outside " + bad, OUTSIDE, x.ratio(bad));
        due("3 refused: stays", 30, x.ratio(19));
        x.slow(0, 3);
        due("3 each cell is cut by itself: 57 by 10 is 5", 10, x.time(0, 1, 1));
        due("3 kind 0 is not by ratio", 6, x.time(0, 1, 0));
        x.slow(0, 1);
        due("3 least of all", 2, x.time(0, 1, 1));
        x.slow(0, 60);
        x.ratio(30);
        due("3 most of all", 360, x.time(0, 1, 1));
    }

    private static void promise4() {
        ShakePictures x = new ShakePictures();
        due("4 was 10", 10, x.slow(0, 60));
        due("4 was 60", 60, x.slow(0, 1));
        due("4 is", 1, x.at(5, 1));
        due("4 a block not in use has slow too", 10, x.slow(7, 33));
        due("4 and keeps it", 33, x.slow(7, 34));
        for (int bad : new int[] {0, 61, -1, MIN, MAX}) due("4 outside " + bad, OUTSIDE, x.slow(0, bad));
        for (int bad : new int[] {-1, 8, MIN, MAX}) due("4 unknown " + bad, UNKNOWN, x.slow(bad, 10));
        due("4 unknown ahead of outside", UNKNOWN, x.slow(8, 61));
        due("4 refused: stays", 1, x.slow(0, 10));
    }

    private static void promise5() {
        ShakePictures x = small();
        x.slow(0, 25);
        x.slow(1, 7);
        due("5 none of its cells", NOT, x.split(0, 0));
        due("5 all of its cells", NOT, x.split(0, 15));
        due("5 a block without cells", NOT, x.split(3, 1));
        due("5 bits of no cells", OUTSIDE, x.split(0, 16));
        due("5 bits of cells and no cells", OUTSIDE, x.split(0, 17));
        due("5 the sign is a bit of no cell", OUTSIDE, x.split(0, MIN));
        due("5 minus one", OUTSIDE, x.split(0, -1));
        due("5 outside ahead of not", OUTSIDE, x.split(3, 16));
        due("5 unknown", UNKNOWN, x.split(8, 1));
        due("5 unknown ahead of outside", UNKNOWN, x.split(-1, 16));
        due("5 still one", 1, x.count(1));
        due("5 split", 1, x.split(0, 3));
        due("5 in it", 1, x.at(0, 0));
        due("5 in it too", 1, x.at(1, 0));
        due("5 not in it", 0, x.at(2, 0));
        due("5 with the same slow", 25, x.at(0, 1));
        due("5 only its own cells of the set", 2, x.split(0, 7));
        due("5 cell 0 stays where it is", 1, x.at(0, 0));
        due("5 cell 2 is in the new one", 2, x.at(2, 0));
        due("5 others do not count as all", NOT, x.split(0, 15));
        x.join(1, 0);
        due("5 the least not in use is 0 now", 0, x.split(1, 8));
        x.ground(3, 3);
        for (int i = 1; i < 8; i++) due("5 block " + i, i, x.split(0, 1 << i));
        due("5 all in use", FULL, x.split(0, 1));
        due("5 not ahead of full", NOT, x.split(0, 2));
        due("5 not ahead of full: all", NOT, x.split(0, 257));
        due("5 full: nothing changes", 0, x.at(0, 0));
        due("5 outside ahead of full", OUTSIDE, x.split(0, 512));
    }

    private static void promise6() {
        ShakePictures x = small();
        x.split(0, 1);
        x.slow(1, 30);
        due("6 unknown", UNKNOWN, x.join(0, 8));
        due("6 unknown too", UNKNOWN, x.join(-1, 0));
        due("6 unknown ahead of outside", UNKNOWN, x.join(8, 8));
        due("6 one is two", OUTSIDE, x.join(1, 1));
        due("6 one without cells is two", OUTSIDE, x.join(5, 5));
        due("6 nothing comes", 3, x.join(0, 5));
        due("6 nothing at all", 0, x.join(6, 5));
        due("6 three come", 4, x.join(1, 0));
        due("6 slow of one stays", 30, x.at(3, 1));
        due("6 block 0 is not in use", 1, x.count(1));
        due("6 slow of two stays", 10, x.slow(0, 10));
        due("6 to one not in use", 4, x.join(7, 1));
        due("6 with that one's slow", 10, x.at(0, 1));
    }

    private static void promise7() {
        ShakePictures x = small();
        x.split(0, 8);
        x.slow(1, 44);
        due("7 block", 1, x.at(3, 0));
        due("7 slow", 44, x.at(3, 1));
        due("7 other", 10, x.at(2, 1));
        for (int bad : new int[] {-1, 4, MIN, MAX}) due("7 unknown " + bad, UNKNOWN, x.at(bad, 0));
        for (int bad : new int[] {-1, 2, MIN, MAX}) due("7 outside " + bad, OUTSIDE, x.at(0, bad));
        due("7 unknown ahead of outside", UNKNOWN, x.at(4, 2));
    }

    private static void promise8() {
        ShakePictures x = new ShakePictures();
        due("8 to itself", 0, x.time(7, 7, 1));
        due("8 far", 100, x.time(11, 0, 0));
        x.ground(3, 3);
        x.split(0, 16 + 2);
        x.slow(1, 60);
        due("8 around the slow ones: 0 3 6 7 8 5 2", 120, x.time(0, 2, 0));
        due("8 the other kind around", 204, x.time(0, 2, 1));
        x.slow(1, 29);
        due("8 straight: 39 and 39", 78, x.time(0, 2, 0));
        due("8 the same back", 78, x.time(2, 0, 0));
        due("8 straight: 17 and 49, twice", 132, x.time(0, 2, 1));
        x.ground(4, 4);
        x.split(0, 1 << 4 | 1 << 5 | 1 << 6 | 1 << 13 | 1 << 14 | 1 << 15);
        x.slow(1, 60);
        x.slow(0, 1);
        due("8 to and fro: 0 1 2 3 7 11 10 9 8 12", 18, x.time(0, 12, 0));
        due("8 and back", 18, x.time(12, 0, 0));
        x.ratio(30);
        x.slow(0, 60);
        due("8 longest", 6 * 360, x.time(0, 15, 1));
        for (int bad : new int[] {-1, 16, MIN, MAX}) {
            due("8 unknown " + bad, UNKNOWN, x.time(bad, 0, 0));
            due("8 unknown " + bad, UNKNOWN, x.time(0, bad, 0));
        }
        for (int bad : new int[] {-1, 2, MIN, MAX}) due("8 outside " + bad, OUTSIDE, x.time(0, 0, bad));
        due("8 unknown ahead of outside", UNKNOWN, x.time(0, 16, 2));
    }

    private static void way(String what, ShakePictures x, int a, int b, int kind, int... cells) {
        for (int i = 0; i < cells.length; i++) due("9 " + what + " " + i, cells[i], x.way(a, b, kind, i));
        due("9 " + what + " is over", NONE, x.way(a, b, kind, cells.length));
        due("9 " + what + " is long over", NONE, x.way(a, b, kind, MAX));
    }

    private static void promise9() {
        ShakePictures x = new ShakePictures();
        way("to itself", x, 5, 5, 0, 5);
        way("least cells ahead", x, 0, 10, 0, 0, 1, 2, 6, 10);
        way("back again, by other cells", x, 10, 0, 0, 10, 6, 2, 1, 0);
        way("up first", x, 8, 2, 0, 8, 4, 0, 1, 2);
        way("left and down", x, 3, 8, 0, 3, 2, 1, 0, 4, 8);
        x.ground(3, 3);
        x.split(0, 16 + 2);
        x.slow(1, 60);
        way("around", x, 0, 2, 0, 0, 3, 6, 7, 8, 5, 2);
        x.slow(1, 30);
        due("9 as long both ways: straight is 80", 80, x.time(0, 2, 0));
        x.split(1, 16);
        x.slow(1, 50);
        x.slow(2, 60);
        due("9 as long both ways", 120, x.time(0, 2, 0));
        way("of two of one time the first", x, 0, 2, 0, 0, 1, 2);
        x.slow(1, 51);
        way("not of the least time any more", x, 0, 2, 0, 0, 3, 6, 7, 8, 5, 2);
        x.ratio(10);
        x.slow(0, 10);
        way("by the other kind", x, 0, 2, 1, 0, 3, 6, 7, 8, 5, 2);
        due("9 unknown", UNKNOWN, x.way(9, 0, 0, 0));
        due("9 unknown", UNKNOWN, x.way(0, -1, 0, 0));
        due("9 unknown ahead of outside", UNKNOWN, x.way(0, 9, 2, -1));
        due("9 kind", OUTSIDE, x.way(0, 1, 2, 0));
        due("9 kind", OUTSIDE, x.way(0, 1, -1, 0));
        due("9 below 0", OUTSIDE, x.way(0, 1, 0, -1));
        due("9 far below 0", OUTSIDE, x.way(0, 1, 0, MIN));
    }

    private static void promise10() {
        ShakePictures x = small();
        for (int bad : new int[] {-1, 4, MIN, MAX}) due("10 unknown " + bad, UNKNOWN, x.ear(bad));
        for (int i = 0; i < 6; i++) due("10 ear", i, x.ear(3));
        due("10 full", FULL, x.ear(0));
        due("10 unknown ahead of full", UNKNOWN, x.ear(4));
        due("10 six", 6, x.count(2));
    }

    private static void promise11() {
        ShakePictures x = pair();
        x.pick(0, 0, 0, 0, 3000);
        due("11 clock", 1, x.clock(0, 99));
        due("11 foretold with it", 119, x.of(0, 0));
        due("11 clock", 1, x.clock(0, -99));
        due("11 foretold with it", -79, x.of(0, 0));
        for (int bad : new int[] {100, -100, MIN, MAX}) due("11 outside " + bad, OUTSIDE, x.clock(0, bad));
        for (int bad : new int[] {1, -1, MIN, MAX}) due("11 unknown " + bad, UNKNOWN, x.clock(bad, 0));
        due("11 unknown ahead of outside", UNKNOWN, x.clock(1, 100));
        due("11 refused: stays", -79, x.of(0, 0));
    }

    private static void promise12() {
        ShakePictures x = small();
        for (int bad : new int[] {-1, 4, MIN, MAX}) due("12 unknown " + bad, UNKNOWN, x.shake(bad, 0));
        for (int bad : new int[] {-1, 1001, MIN, MAX}) due("12 outside " + bad, OUTSIDE, x.shake(0, bad));
        due("12 unknown ahead of outside", UNKNOWN, x.shake(4, -1));
        for (int i = 0; i < 5; i++) due("12 shake", i, x.shake(i % 4, i * 250));
        due("12 full", FULL, x.shake(0, 0));
        due("12 outside ahead of full", OUTSIDE, x.shake(0, 1001));
        due("12 unknown ahead of full", UNKNOWN, x.shake(4, 0));
        x.ear(0);
        x.pick(0, 4, 0, 0, 0);
        due("12 begun", 1000, x.of(0, 0));
        due("12 five", 5, x.count(3));
    }

    private static void promise13() {
        ShakePictures x = pair();
        x.pick(0, 0, 0, 0, 0);
        due("13 put", 1, x.put(0, 2, 1000));
        due("13 foretold from there", 1040, x.of(0, 0));
        due("13 no shake", UNKNOWN, x.put(1, 0, 0));
        due("13 no shake", UNKNOWN, x.put(-1, 0, 0));
        due("13 no cell", UNKNOWN, x.put(0, 4, 0));
        due("13 no cell", UNKNOWN, x.put(0, -1, 0));
        due("13 unknown ahead of outside", UNKNOWN, x.put(0, 4, 1001));
        due("13 outside", OUTSIDE, x.put(0, 0, 1001));
        due("13 outside", OUTSIDE, x.put(0, 0, -1));
        due("13 refused: stays", 1040, x.of(0, 0));
    }

    private static void promise14() {
        ShakePictures x = pair();
        due("14 no ear", UNKNOWN, x.pick(1, 0, 0, 0, 0));
        due("14 no ear", UNKNOWN, x.pick(-1, 0, 0, 0, 0));
        due("14 no shake", UNKNOWN, x.pick(0, 1, 0, 0, 0));
        due("14 no shake", UNKNOWN, x.pick(0, -1, 0, 0, 0));
        due("14 unknown ahead of outside", UNKNOWN, x.pick(0, 1, 2, 5, 4));
        due("14 kind", OUTSIDE, x.pick(0, 0, 2, 0, 0));
        due("14 kind", OUTSIDE, x.pick(0, 0, -1, 0, 0));
        due("14 lo above hi", OUTSIDE, x.pick(0, 0, 0, 5, 4));
        due("14 lo below 0", OUTSIDE, x.pick(0, 0, 0, -1, 4));
        due("14 hi above 3000", OUTSIDE, x.pick(0, 0, 0, 0, 3001));
        due("14 both below", OUTSIDE, x.pick(0, 0, 0, MIN, MIN));
        due("14 none yet", 0, x.count(4) + x.count(5));
        due("14 edges", 0, x.pick(0, 0, 1, 0, 3000));
        due("14 edges", 1, x.pick(0, 0, 0, 3000, 3000));
        due("14 lo", 3000, x.of(1, 2));
        due("14 a telling each", 2, x.count(5));
        for (int i = 2; i < 12; i++) due("14 pick", i, x.pick(0, 0, 0, 0, 0));
        due("14 full", FULL, x.pick(0, 0, 0, 0, 0));
        due("14 outside ahead of full", OUTSIDE, x.pick(0, 0, 2, 0, 0));
        due("14 unknown ahead of full", UNKNOWN, x.pick(1, 0, 0, 0, 0));
        ShakePictures y = pair();
        y.pick(0, 0, 0, 0, 0);
        for (int i = 2; i <= 40; i++) due("14 tellings", i, y.tell(0, i, i));
        due("14 full by tellings", FULL, y.pick(0, 0, 0, 0, 0));
        due("14 still one", 1, y.count(4));
    }

    private static void promise15() {
        ShakePictures x = pair();
        due("15 no pick", UNKNOWN, x.tell(0, 0, 0));
        x.pick(0, 0, 0, 5, 6);
        due("15 unknown", UNKNOWN, x.tell(1, 0, 0));
        due("15 unknown", UNKNOWN, x.tell(-1, 0, 0));
        due("15 unknown ahead of outside", UNKNOWN, x.tell(1, 1, 0));
        due("15 lo above hi", OUTSIDE, x.tell(0, 7, 6));
        due("15 below", OUTSIDE, x.tell(0, -1, 6));
        due("15 above", OUTSIDE, x.tell(0, 6, 3001));
        due("15 refused: stays", 5, x.of(0, 2));
        due("15 told anew", 2, x.tell(0, 7, 9));
        due("15 lo", 7, x.of(0, 2));
        due("15 hi", 9, x.of(0, 3));
        x.pick(0, 0, 0, 1, 1);
        due("15 all tellings count", 4, x.tell(0, 0, 3000));
        due("15 another is another", 1, x.of(1, 3));
        for (int i = 5; i <= 40; i++) due("15 tellings", i, x.tell(1, i, i));
        due("15 full", FULL, x.tell(0, 1, 1));
        due("15 outside ahead of full", OUTSIDE, x.tell(0, 2, 1));
        due("15 unknown ahead of full", UNKNOWN, x.tell(2, 1, 1));
        due("15 full: stays", 3000, x.of(0, 3));
    }

    private static void promise16() {
        ShakePictures x = small();
        for (int bad : new int[] {0, 51, -1, MIN, MAX}) due("16 outside " + bad, OUTSIDE, x.days(bad));
        due("16 one", 1, x.days(1));
        for (int i = 1; i < 10; i++) due("16 fifty", 1 + 50 * i, x.days(50));
        due("16 beyond 500", OUTSIDE, x.days(50));
        due("16 to the last", 500, x.days(49));
        due("16 no more", OUTSIDE, x.days(1));
        due("16 the day", 500, x.count(6));
    }

    private static void promise17() {
        ShakePictures x = small();
        x.ear(3);
        x.shake(0, 100);
        x.clock(0, -7);
        x.pick(0, 0, 0, 140, 150);
        x.pick(0, 0, 1, 150, 160);
        due("17 foretold", 133, x.of(0, 0));
        due("17 below lo", 7, x.of(0, 1));
        due("17 lo", 140, x.of(0, 2));
        due("17 hi", 150, x.of(0, 3));
        due("17 cells of the way", 3, x.of(0, 4));
        due("17 foretold by kind 1", 161, x.of(1, 0));
        due("17 above hi", 1, x.of(1, 1));
        x.clock(0, -8);
        due("17 at hi", 0, x.of(1, 1));
        x.clock(0, 0);
        due("17 at lo", 0, x.of(0, 1));
        x.put(0, 3, 100);
        due("17 one cell", 1, x.of(0, 4));
        for (int bad : new int[] {-1, 5, MIN, MAX}) due("17 outside " + bad, OUTSIDE, x.of(0, bad));
        for (int bad : new int[] {-1, 2, MIN, MAX}) due("17 unknown " + bad, UNKNOWN, x.of(bad, 0));
        due("17 unknown ahead of outside", UNKNOWN, x.of(2, 5));
        x.ground(3, 3);
        x.ear(2);
        x.shake(0, 0);
        x.split(0, 2);
        x.slow(1, 60);
        x.pick(0, 0, 0, 0, 0);
        due("17 a way that bends", 5, x.of(0, 4));
    }

    private static void promise18() {
        ShakePictures x = pair();
        due("18 no picks", 0, x.misfit(0, 0));
        x.pick(0, 0, 0, 25, 30);
        x.days(5);
        x.pick(0, 0, 1, 30, 33);
        x.tell(0, 20, 20);
        x.tell(0, 27, 27);
        x.days(2);
        x.tell(1, 34, 40);
        due("18 day 0", 5, x.misfit(0, 0));
        due("18 day 0 fit: a pick not told yet does not count", 0, x.misfit(0, 1));
        due("18 day 4", 5, x.misfit(4, 0));
        due("18 day 5: the last telling of the day", 8, x.misfit(5, 0));
        due("18 day 6", 8, x.misfit(6, 0));
        due("18 day 7", 7, x.misfit(7, 0));
        due("18 day 7 fit", 1, x.misfit(7, 1));
        x.clock(0, 6);
        due("18 clocks are as now", 0, x.misfit(0, 0));
        due("18 fit", 1, x.misfit(0, 1));
        due("18 one below 27, seven above 33", 8, x.misfit(5, 0));
        due("18 day to come", OUTSIDE, x.misfit(8, 0));
        for (int bad : new int[] {-1, 2, MIN, MAX}) due("18 outside " + bad, OUTSIDE, x.misfit(0, bad));
        for (int bad : new int[] {-1, MIN, MAX}) due("18 outside " + bad, OUTSIDE, x.misfit(bad, 0));
    }

    private static void promise19() {
        ShakePictures x = pair();
        due("19 no picks: stays", 0, x.fit(10));
        due("19 slow stays", 10, x.at(0, 1));
        x.pick(0, 0, 0, 49, 49);
        due("19 24 and 25 miss by one", 1, x.fit(1));
        due("19 the least of them", 24, x.at(0, 1));
        x.slow(0, 25);
        due("19 again", 1, x.fit(1));
        due("19 it stays, for it is one of them", 25, x.at(0, 1));
        x.tell(0, 2000, 2000);
        due("19 no slower than 60", 1880, x.fit(1));
        due("19 at its greatest", 60, x.at(3, 1));
        x.tell(0, 0, 0);
        due("19 no quicker than 1", 2, x.fit(1));
        due("19 at its least", 1, x.at(3, 1));
        x.pick(0, 0, 1, 100, 104);
        x.tell(0, 40, 80);
        due("19 both kinds: slow 30 is 51 by kind 1", 0, x.fit(3));
        due("19 least that fits all", 30, x.at(0, 1));
        for (int bad : new int[] {0, 11, -1, MIN, MAX}) due("19 outside " + bad, OUTSIDE, x.fit(bad));
        ShakePictures y = twoBlocks();
        y.shake(3, 0);
        y.slow(5, 3);
        y.pick(0, 0, 0, 50, 50);
        due("19 block 0 goes first", 0, y.fit(1));
        due("19 block 0 takes all", 40, y.at(0, 1));
        due("19 block 1 stays", 10, y.at(1, 1));
        due("19 a block not in use stays", 3, y.slow(5, 3));
    }

    /**
     * Cells 0 and 2 in block 0, 1 and 3 in block 1: thrice the sum of both from 90 to 110, twice block 0 is 40, twice
     * block 1 is 100. Block 0 goes to 60 while block 1 is 10, and back to 40 when block 1 has come to 50.
     */
    private static ShakePictures twoSweeps() {
        ShakePictures x = small();
        x.split(0, 2 + 8);
        x.ear(1);
        x.ear(2);
        x.shake(0, 0);
        x.shake(3, 0);
        for (int i = 0; i < 3; i++) x.pick(0, 0, 0, 90, 110);
        x.pick(1, 0, 0, 40, 40);
        x.pick(0, 1, 0, 100, 100);
        return x;
    }

    private static void promise19Sweeps() {
        ShakePictures x = twoSweeps();
        due("19 one sweep", 80, x.fit(1));
        due("19 block 0 after one", 60, x.at(0, 1));
        due("19 block 1 after one", 50, x.at(1, 1));
        due("19 one sweep more", 40, x.fit(1));
        due("19 block 0 after two", 40, x.at(0, 1));
        due("19 block 1 after two", 50, x.at(1, 1));
        ShakePictures y = twoSweeps();
        due("19 two sweeps at once", 40, y.fit(2));
        due("19 ten: nothing changes", 40, y.fit(10));
    }

    private static void promise20() {
        ShakePictures x = twoBlocks();
        due("20 no picks: least", 1, x.span(0, 0));
        due("20 no picks: greatest", 60, x.span(7, 1));
        x.pick(0, 0, 0, 30, 40);
        due("20 least", 1, x.span(0, 0));
        due("20 greatest", 39, x.span(0, 1));
        due("20 greatest of the other", 39, x.span(1, 1));
        due("20 no ray there", 60, x.span(2, 1));
        x.tell(0, 70, 80);
        due("20 least", 10, x.span(0, 0));
        due("20 least of the other", 10, x.span(1, 0));
        due("20 greatest", 60, x.span(1, 1));
        x.put(0, 0, 20);
        x.clock(0, 5);
        due("20 less begun and clock: 45 to 55", 54, x.span(0, 1));
        x.pick(0, 0, 1, 0, 0);
        due("20 kind 1 does not press", 54, x.span(0, 1));
        x.put(0, 2, 20);
        due("20 along the way as it is now: 3 rays of 0, 1 of 1", 18, x.span(0, 1));
        due("20 and of 1", 52, x.span(1, 1));
        x.tell(0, 25, 28);
        due("20 quarrel", NONE, x.span(0, 0));
        due("20 quarrel, of a block not in use too", NONE, x.span(6, 1));
        x.tell(0, 25, 29);
        due("20 just not: 4 is the least sum", 1, x.span(0, 1));
        due("20 just not", 1, x.span(1, 1));
        x.tell(0, 25 + 240, 400);
        due("20 just not above: 240 is the greatest", 60, x.span(1, 0));
        x.tell(0, 25 + 241, 400);
        due("20 above", NONE, x.span(1, 0));
        due("20 unknown", UNKNOWN, x.span(8, 0));
        due("20 unknown", UNKNOWN, x.span(-1, 0));
        due("20 unknown ahead of outside", UNKNOWN, x.span(8, 2));
        due("20 outside ahead of the quarrel", OUTSIDE, x.span(0, 2));
        due("20 outside", OUTSIDE, x.span(0, -1));
        ShakePictures y = pair();
        y.pick(0, 0, 0, 21, 21);
        due("20 no number: 2 v is 21", NONE, y.span(0, 0));
        y.tell(0, 21, 24);
        due("20 cut up", 11, y.span(0, 0));
        due("20 cut down", 12, y.span(0, 1));
        y.put(0, 1, 900);
        due("20 no ray, no quarrel", 60, y.span(0, 1));
    }

    private static void promise21() {
        ShakePictures x = pair();
        due("21 none", 0, x.quarrel());
        x.pick(0, 0, 1, 2000, 2000);
        due("21 kind 1 never", 0, x.quarrel());
        x.pick(0, 0, 0, 20, 21);
        x.pick(0, 0, 0, 20, 40);
        due("21 they agree", 0, x.quarrel());
        x.pick(0, 0, 0, 22, 24);
        due("21 picks 1 and 3", 2 + 8, x.quarrel());
        x.pick(0, 0, 0, 22, 23);
        due("21 of several the least by bits", 2 + 8, x.quarrel());
        x.tell(3, 0, 3000);
        due("21 picks 1 and 4", 2 + 16, x.quarrel());
        x.pick(0, 0, 0, 300, 301);
        due("21 one alone is fewer", 32, x.quarrel());
        x.tell(2, 23, 23);
        due("21 of two alone the least", 4, x.quarrel());
        ShakePictures y = twoBlocks();
        y.ear(2);
        y.shake(3, 0);
        y.pick(0, 0, 0, 30, 30);
        y.pick(1, 0, 0, 40, 40);
        y.pick(0, 1, 0, 30, 3000);
        due("21 two agree with each other", 0, y.quarrel());
        y.split(0, 8);
        y.pick(0, 1, 0, 70, 70);
        y.tell(2, 0, 80);
        due("21 blocks 0 and 1 are 20 and 10, block 2 is 60", 0, y.quarrel());
        y.tell(3, 71, 71);
        due("21 three that only quarrel together", 1 + 2 + 8, y.quarrel());
    }

    private static void promise22() {
        ShakePictures x = twoBlocks();
        due("22 no picks", 0, x.rank());
        x.pick(0, 0, 1, 0, 0);
        due("22 kind 1 has no row", 0, x.rank());
        x.pick(0, 0, 0, 0, 0);
        x.pick(0, 0, 0, 5, 5);
        due("22 the same row twice", 1, x.rank());
        x.ear(2);
        x.pick(1, 0, 0, 0, 0);
        due("22 another one", 2, x.rank());
        x.ear(3);
        x.pick(2, 0, 0, 0, 0);
        due("22 no more than blocks in use", 2, x.rank());
        x.put(0, 1, 0);
        due("22 one of them has no rays now", 2, x.rank());
        ShakePictures y = pair();
        y.put(0, 1, 0);
        y.pick(0, 0, 0, 0, 0);
        due("22 a row of nothing", 0, y.rank());
    }

    private static void promise23() {
        ShakePictures x = twoBlocks();
        due("23 hidden", 0, x.resolved(0));
        x.pick(0, 0, 1, 0, 0);
        due("23 hidden, kind 1 shows nothing", 0, x.resolved(1));
        x.pick(0, 0, 0, 0, 0);
        due("23 neither", 1, x.resolved(0));
        due("23 neither", 1, x.resolved(1));
        x.ear(2);
        x.pick(1, 0, 0, 0, 0);
        due("23 resolved", 2, x.resolved(0));
        due("23 resolved with it", 2, x.resolved(1));
        x.split(0, 8);
        due("23 hidden", 0, x.resolved(2));
        due("23 not in use", NONE, x.resolved(3));
        due("23 not in use", NONE, x.resolved(7));
        for (int bad : new int[] {-1, 8, MIN, MAX}) due("23 unknown " + bad, UNKNOWN, x.resolved(bad));
        x.join(4, 1);
        due("23 not in use any more", NONE, x.resolved(1));
        due("23 its cells elsewhere", 2, x.resolved(4));
    }

    private static void promise24() {
        ShakePictures x = small();
        x.split(0, 2);
        due("24 outside ahead of not", OUTSIDE, x.best(2));
        due("24 outside", OUTSIDE, x.best(-1));
        due("24 no shakes", NOT, x.best(0));
        x.shake(0, 0);
        due("24 cell 2 has 2 rays of block 0", 2, x.best(0));
        due("24 one block", 1, x.best(1));
        x.ear(1);
        x.pick(0, 0, 0, 0, 0);
        due("24 with the pick it resolves both", 2, x.best(1));
        due("24 cell", 2, x.best(0));
        x.put(0, 1, 0);
        due("24 the pick has no ray now", 0, x.best(1));
        due("24 of several the least", 0, x.best(0));
        x.shake(2, 0);
        due("24 from cell 2 as well", 2, x.best(1));
        due("24 cell 0: 1 0 is of both, 2 0 of block 0", 0, x.best(0));
        for (int i = 1; i < 6; i++) x.ear(0);
        due("24 with all ears there are", 0, x.best(0));
        due("24 nothing is put there", 6, x.count(2));
    }

    private static void promise25() {
        ShakePictures x = pair();
        due("25 no picks", 0, x.heap(0, 3, 0));
        due("25 no picks", 0, x.heap(0, 3, 1));
        x.ear(2);
        x.shake(3, 0);
        x.pick(0, 0, 0, 100, 110);
        x.pick(1, 0, 0, 105, 120);
        x.pick(0, 1, 0, 100, 110);
        due("25 in cell 0 both, from 85 on", 2, x.heap(0, 0, 0));
        due("25 the least begun", 85, x.heap(0, 0, 1));
        due("25 in cell 1: 100 to 110, 65 to 80", 1, x.heap(0, 1, 0));
        due("25 the lesser one", 65, x.heap(0, 1, 1));
        x.clock(1, -40);
        due("25 in cell 1: 100 to 110, 105 to 120", 105, x.heap(0, 1, 1));
        due("25 both", 2, x.heap(0, 1, 0));
        x.tell(0, 0, 30);
        due("25 from 0 to 30 less 20; from 0 on is least", 0, x.heap(0, 0, 1));
        x.tell(1, 990, 3000);
        x.tell(0, 3000, 3000);
        due("25 begun 1000 at most: 1010 is too late", 0, x.heap(0, 0, 0));
        x.tell(1, 980, 2000);
        due("25 begun 1000 is not", 1, x.heap(0, 0, 0));
        due("25 begun 1000", 1000, x.heap(0, 0, 1));
        x.pick(0, 0, 1, 34, 34);
        due("25 both kinds count", 0, x.heap(0, 0, 1));
        due("25 nothing changes", 20, x.of(0, 0));
        due("25 no shake", UNKNOWN, x.heap(2, 0, 0));
        due("25 no shake", UNKNOWN, x.heap(-1, 0, 0));
        due("25 no cell", UNKNOWN, x.heap(0, 4, 0));
        due("25 no cell", UNKNOWN, x.heap(0, -1, 0));
        due("25 unknown ahead of outside", UNKNOWN, x.heap(0, 4, 2));
        due("25 outside", OUTSIDE, x.heap(0, 0, 2));
        due("25 outside", OUTSIDE, x.heap(0, 0, -1));
    }

    private static void promise26() {
        ShakePictures x = pair();
        due("26 unknown", UNKNOWN, x.move(1));
        due("26 unknown", UNKNOWN, x.move(-1));
        due("26 no picks", NOT, x.move(0));
        x.ear(2);
        x.shake(3, 500);
        x.pick(0, 0, 0, 100, 100);
        x.pick(1, 0, 0, 140, 140);
        due("26 only another shake's", NOT, x.move(1));
        due("26 in cell 1 it is 40 nearer", 1, x.move(0));
        due("26 moved there, begun at 100", 100, x.of(0, 0));
        due("26 both fit", 2, x.misfit(0, 1));
        x.tell(1, 100, 100);
        due("26 of cells 0 and 3 the least", 0, x.move(0));
        due("26 begun at 80", 100, x.of(1, 0));
        x.tell(0, 3000, 3000);
        x.tell(1, 3000, 3000);
        due("26 no heap: cell 0", 0, x.move(0));
        due("26 no heap: begun at 0", 20, x.of(0, 0));
        x.pick(0, 1, 0, 520, 520);
        x.move(0);
        due("26 the other shake is not moved", 520, x.of(2, 0));
    }

    private static void promise27() {
        ShakePictures x = small();
        due("27 unknown", -102, x.off(0));
        x.ear(0);
        for (int bad : new int[] {-1, 1, MIN, MAX}) due("27 unknown " + bad, -102, x.off(bad));
        x.clock(0, 50);
        due("27 no picks", 0, x.off(0));
        x.shake(0, 100);
        x.pick(0, 0, 0, 105, 107);
        due("27 nearest to 0 from above", 5, x.off(0));
        x.tell(0, 95, 97);
        due("27 nearest to 0 from below", -3, x.off(0));
        x.tell(0, 97, 97);
        x.pick(0, 0, 0, 103, 103);
        due("27 as near: the lesser", -3, x.off(0));
        x.tell(1, 102, 102);
        due("27 nearer", 2, x.off(0));
        x.tell(1, 90, 97);
        due("27 by most", -3, x.off(0));
        x.tell(0, 199, 199);
        x.tell(1, 199, 300);
        due("27 greatest", 99, x.off(0));
        x.tell(0, 200, 200);
        x.tell(1, 200, 200);
        due("27 beyond the greatest", 0, x.off(0));
        x.tell(0, 0, 1);
        x.tell(1, 0, 1);
        due("27 least", -99, x.off(0));
        x.put(0, 1, 0);
        x.pick(0, 0, 1, 40, 40);
        x.tell(0, 26, 30);
        due("27 time by the kind: 40 less 34, 26 less 20", 6, x.off(0));
        x.ear(3);
        due("27 another ear", 0, x.off(1));
        due("27 the clock is not set", 70, x.of(0, 0));
    }

    private static void promise28() {
        ShakePictures x = pair();
        due("28 no picks: all 15", 0, x.board(10, 20, 0));
        due("28 no picks: 20 and 21 by 2, cut, is 20", 1, x.board(20, 21, 0));
        x.pick(0, 0, 0, 3000, 3000);
        due("28 found, whatever was told", 1, x.board(10, 20, 0));
        due("28 from 15 down to 12 by tol 5, least 8", 0, x.board(10, 20, 5));
        due("28 tol 10: it fits as it is", 1, x.board(10, 10, 20));
        due("28 slow stays", 10, x.at(0, 1));
        ShakePictures y = twoBlocks();
        y.ear(2);
        y.shake(3, 0);
        y.slow(0, 33);
        y.slow(1, 44);
        y.slow(6, 55);
        y.pick(1, 0, 0, 0, 0);
        y.pick(0, 0, 0, 0, 0);
        due("28 both found", 2, y.board(8, 30, 0));
        due("28 even ones only: the way to 1 is not picked", 1, drop(8, 30));
        due("28 slow of 0 stays", 33, y.at(0, 1));
        due("28 slow of 1 stays", 44, y.at(1, 1));
        due("28 slow of 6 stays", 55, y.slow(6, 55));
        due("28 tellings stay", 2, y.count(5));
        for (int bad : new int[] {0, 61, MIN, MAX}) {
            due("28 outside " + bad, OUTSIDE, y.board(bad, 1, 0));
            due("28 outside " + bad, OUTSIDE, y.board(1, bad, 0));
        }
        for (int bad : new int[] {-1, 21, MIN, MAX}) due("28 outside " + bad, OUTSIDE, y.board(1, 1, bad));
        due("28 edges", 2, y.board(60, 60, 20));
        due("28 edges", 2, y.board(1, 1, 0));
    }

    private static int drop(int a, int b) {
        ShakePictures y = twoBlocks();
        y.ear(2);
        y.pick(1, 0, 0, 0, 0);
        return y.board(a, b, 0);
    }

    private static void promise29() {
        ShakePictures x = small();
        for (int bad : new int[] {0, 9, -1, MIN, MAX}) due("29 outside " + bad, OUTSIDE, x.write(0, bad));
        due("29 one, the rest is not looked at", 1, x.write(0x7a7a7a7a7a7a7a66L, 1));
        due("29 the others", 5, x.write(0x31207469L, 4));
        due("29 reads fit 1", NONE, x.fault());
        for (int i = 1; i <= 19; i++) due("29 eight", 5 + 8 * i, x.write(0x2020202020202020L, 8));
        due("29 no room", FULL, x.write(0, 4));
        due("29 outside ahead of full", OUTSIDE, x.write(0, 9));
        due("29 the last three", 160, x.write(0x202020, 3));
        due("29 no room for one", FULL, x.write(32, 1));
        due("29 nothing changed", 160, x.count(7));
        due("29 still fit 1", 1, x.run());
        x.erase();
        x.write(-1L, 8);
        due("29 bytes are 0 to 255", 0, x.fault());
    }

    private static void promise30() {
        ShakePictures x = small();
        due("30 empty", 0, x.erase());
        x.write(0, 8);
        due("30 had eight", 8, x.erase());
        due("30 has none", 0, x.count(7));
        due("30 had none", 0, x.erase());
        say(x, "fit 1");
        due("30 what was there is gone", NONE, x.fault());
    }

    private static void fault(ShakePictures x, String text, int place) {
        say(x, text);
        due("31 \"" + text + "\"", place, x.fault());
    }

    private static void promise31() {
        ShakePictures x = small();
        x.ear(0);
        x.ear(0);
        x.shake(0, 0);
        String[] good = {"slow 0 1", "slow 7 60", "fit 1", "fit 10", "move 0 3", "clock 1 0", "clock 0 99", "split 7 by 3",
            "split 0 by 0 and 1 and 2 and 3", "split 0 by 1 and 1", "  fit   3  ", "fit 1;fit 2", "fit 1 ; fit 2 ;fit 3",
            "slow 0007 0060", "fit1;fit2", "split0by1and2"};
        for (String text : good) fault(x, text, NONE);
        fault(x, "", 0);
        fault(x, "   ", 3);
        fault(x, ";", 0);
        fault(x, "fit 1;", 6);
        fault(x, "fit 1;  ", 8);
        fault(x, "fit 1;;fit 2", 6);
        fault(x, "fit 1 fit 2", 6);
        fault(x, "fit 1 2", 6);
        fault(x, "fit", 3);
        fault(x, "fit ", 4);
        fault(x, "fit 0", 4);
        fault(x, "fit 11", 4);
        fault(x, "fit 00001", 4);
        fault(x, "fit 99999999999999", 4);
        fault(x, "fit x", 4);
        fault(x, "fit ;", 4);
        fault(x, "fit -1", 4);
        fault(x, "fits 1", 0);
        fault(x, "fi 1", 0);
        fault(x, "Fit 1", 0);
        fault(x, "fiT 1", 0);
        fault(x, "fitX 1", 3);
        fault(x, "fita 1", 0);
        fault(x, "fitz 1", 0);
        fault(x, "fit` 1", 3);
        fault(x, "fit{ 1", 3);
        fault(x, "fit 1/", 5);
        fault(x, "fit 1:", 5);
        fault(x, "5 fit", 0);
        fault(x, "by", 0);
        fault(x, "slow 8 10", 5);
        fault(x, "slow 0 0", 7);
        fault(x, "slow 0 61", 7);
        fault(x, "slow 0", 6);
        fault(x, "slow 0;", 6);
        fault(x, "slow fit 1", 5);
        fault(x, "move 1 0", 5);
        fault(x, "move 0 4", 7);
        fault(x, "move 0", 6);
        fault(x, "clock 2 0", 6);
        fault(x, "clock 1 100", 8);
        fault(x, "clock 1 ; fit 1", 8);
        fault(x, "split 8 by 0", 6);
        fault(x, "split 0", 7);
        fault(x, "split 0 1", 8);
        fault(x, "split 0 and 1", 8);
        fault(x, "split 0 by", 10);
        fault(x, "split 0 by by 1", 11);
        fault(x, "split 0 by 4", 11);
        fault(x, "split 0 by 1 and", 16);
        fault(x, "split 0 by 1 and 4", 17);
        fault(x, "split 0 by 1 and and 2", 17);
        fault(x, "split 0 by 1 2", 13);
        fault(x, "split 0 by 1 by 2", 13);
        fault(x, "split 0 by 1 and 2 fit 1", 19);
        fault(x, "fit 1\t", 5);
        fault(x, "fit\n1", 3);
        fault(x, "fit 1\u0000", 5);
        fault(x, "fit 1 \u00ff", 6);
        fault(x, "fit 1; slow 9 99; zzz", 12);
        StringBuilder most = new StringBuilder("fit1");
        for (int i = 1; i < 32; i++) most.append(";fit1");
        fault(x, most.toString(), NONE);
        due("31 all of them", 32, x.run());
        x.ground(2, 2);
        say(x, "clock 0 1");
        due("31 no ear now", 6, x.fault());
        x.ear(0);
        due("31 one ear now", NONE, x.fault());
        say(x, "move 0 8");
        x.ground(3, 3);
        x.shake(0, 0);
        due("31 cell 8 is there now", NONE, x.fault());
    }

    private static void promise32() {
        ShakePictures x = pair();
        x.pick(0, 0, 0, 60, 60);
        say(x, "slow 3 12; clock 0 20; fit 2; split 0 by 1 and 3; move 0 3");
        due("32 five statements", 5, x.run());
        due("32 slow", 12, x.slow(3, 10));
        due("32 fitted with the clock", 20, x.at(0, 1));
        due("32 split", 1, x.at(1, 0));
        due("32 split too", 1, x.at(3, 0));
        due("32 moved, begun as it was", 60, x.of(0, 0));
        x.put(0, 0, 77);
        say(x, "move 0 1");
        due("32 move", 1, x.run());
        due("32 begun stays", 97, x.of(0, 0));
        due("32 the text stays", 8, x.count(7));
        x.put(0, 0, 0);
        say(x, "slow 0 5; slow 6 6; clock 0 9; move 0 2; split 0 by 0; fit 1; split 5 by 0");
        due("32 the last one is refused", NOT, x.run());
        due("32 slow is as it was", 20, x.at(0, 1));
        due("32 slow of 6 too", 10, x.slow(6, 10));
        due("32 blocks too", 2, x.count(1));
        due("32 cell 0 too", 0, x.at(0, 0));
        due("32 clock and cell too", 60, x.of(0, 0));
        say(x, "slow 0 5; fit 11");
        due("32 a fault", NOT, x.run());
        due("32 nothing is done ahead of a fault", 20, x.at(0, 1));
        x.erase();
        due("32 no text", NOT, x.run());
        ShakePictures y = new ShakePictures();
        for (int i = 1; i < 8; i++) y.split(0, 1 << i);
        say(y, "slow 0 9; split 0 by 0");
        due("32 full is refused as well", NOT, y.run());
        due("32 as it was", 10, y.at(0, 1));
        say(y, "slow 0 9; slow 0 8; slow 1 9");
        due("32 in order", 3, y.run());
        due("32 the last word", 8, y.at(0, 1));
        ShakePictures z = small();
        say(z, "split 0 by 1; split 1 by 1");
        due("32 refused as it is then", NOT, z.run());
        due("32 whole or not at all", 1, z.count(1));
        say(z, "split 0 by 1 and 2; split 1 by 2");
        due("32 allowed as it is then", 2, z.run());
        due("32 block 2", 2, z.at(2, 0));
    }

    private static void promise33() {
        ShakePictures x = small();
        x.split(0, 1);
        x.ear(0);
        x.ear(1);
        x.ear(2);
        x.shake(0, 0);
        x.shake(0, 0);
        x.pick(0, 0, 0, 0, 0);
        x.tell(0, 0, 0);
        x.tell(0, 0, 0);
        x.tell(0, 0, 0);
        x.tell(0, 0, 0);
        x.days(9);
        x.write(0, 7);
        int[] want = {4, 2, 3, 2, 1, 5, 9, 7};
        for (int what = 0; what < 8; what++) due("33 count " + what, want[what], x.count(what));
        for (int bad : new int[] {-1, 8, MIN, MAX}) due("33 outside " + bad, OUTSIDE, x.count(bad));
    }

    public static void main(String[] args) {
        promise1();
        promise2();
        promise3();
        promise4();
        promise5();
        promise6();
        promise7();
        promise8();
        promise9();
        promise10();
        promise11();
        promise12();
        promise13();
        promise14();
        promise15();
        promise16();
        promise17();
        promise18();
        promise19();
        promise19Sweeps();
        promise20();
        promise21();
        promise22();
        promise23();
        promise24();
        promise25();
        promise26();
        promise27();
        promise28();
        promise29();
        promise30();
        promise31();
        promise32();
        promise33();
        System.out.println(tested + " answers tested, " + wrong + " wrong");
        if (wrong != 0) System.exit(1);
    }
}
