/** Boundary cases of the term FAULTS and of promises 17 to 19, sentence by sentence. */
public final class FaultsBoundsTest {
    public static void main(String[] args) {
        bannedShots();
        namesOfMaps();
        namesInMixes();
        leastFrames();
        sameCamera();
        slack();
        order();
        kinds();
        mostFaults();
        faultNumbers();
        fits();
        nothingChanges();
        Expect.end("FaultsBoundsTest");
    }

    private static void bannedShots() {
        Expect.sentence("FAULTS", "(1) each piece of a banned shot");
        NewsReel x = Expect.made("shot 0 9;shot 1 9;map a;ban 0 3 5;ban 1 5 5;", "repeat 2{shot 0;shot 1 from 0 to 0;map 0 9;};", "");
        int[] weeks = {0, 2, 3, 4, 5, 6, 99};
        int[] due = {0, 0, 2, 2, 4, 0, 0};
        for (int i = 0; i < weeks.length; i++) {
            x.setWeek(weeks[i]);
            Expect.due("banned pieces in week " + weeks[i], x.faults(1), due[i]);
        }
        x.setWeek(5);
        Expect.dueRow("the piece of fault", i -> x.fault(i, 1), 0, 1, 3, 4);
        Expect.edit(x, "map 0 9;");
        Expect.due("banned pieces of maps alone", x.faults(1), 0);
        Expect.edit(x, "");
        Expect.due("banned pieces of none", x.faults(1), 0);
        Expect.edit(x, "repeat 6{repeat 5{shot 0;shot 1;};};");
        Expect.due("banned pieces of sixty", x.faults(1), 60);
    }

    private static void names(String reel, int due) {
        // b is said from 0 to 1, a from 2 to 3.
        NewsReel x = Expect.made("shot 0 30;map a;speed 2;pause 0;", reel, "b a.");
        Expect.due("names that are not shown of " + reel, x.faults(2), due);
        Expect.due("words of map 0 that are no fault of " + reel, x.map(0, 3), 1 - due);
    }

    private static void namesOfMaps() {
        Expect.sentence("FAULTS", "(2) each word that is the NAME of a map, if this map is not on the screen in the frame in which the word begins");
        names("", 1);
        names("map 0 1;", 1);
        names("map 0 2;", 1);
        names("map 0 3;", 0);
        names("shot 0 from 0 to 0;map 0 1;", 1);
        names("shot 0 from 0 to 0;map 0 2;", 0);
        names("shot 0 from 0 to 1;map 0 1;", 0);
        names("shot 0 from 0 to 2;map 0 9;", 1);
        names("map 0 2;shot 0;", 1);
        names("shot 0;map 0 9;", 1);
        NewsReel other = Expect.made("map a;map b;speed 2;pause 0;", "map 1 9;map 0 9;", "b a. b a b.");
        Expect.due("names of which another map is shown", other.faults(2), 2);
        Expect.dueRow("their words", i -> other.fault(i, 1), 1, 3);
        NewsReel first = Expect.made("map a;", "map 0 1;", "a.");
        Expect.due("a name that begins in frame 0", first.faults(2), 0);
        NewsReel late = Expect.made("map a;speed 1;pause 50;", "repeat 9{map 0 5;};", "a. a.");
        Expect.due("a name that begins behind the END", late.faults(2), 1);
        Expect.due("its word", late.fault(late.faults(1), 1), 1);
        Expect.due("the END as the name begins", late.insert(1, 0, 6), 51);
        Expect.due("a name that begins at the END", late.faults(2), 1);
        Expect.due("the END a frame later", late.insert(0, 0, 1), 52);
        Expect.due("a name that begins in the last frame", late.faults(2), 0);
        NewsReel others = Expect.made("map a;map abc;", "", "aa ab abcd bc b.");
        Expect.due("words that are no names", others.faults(2), 0);
        Expect.due("names without maps", Expect.voice("a b.", 2).faults(2), 0);
    }

    private static void namesInMixes() {
        Expect.sentence("THE REEL", "On the screen is, of the pieces that are there, the one with the greatest number.");
        names("mix 1{map 0 3;shot 0;};", 1);
        names("mix 1{map 0 4;shot 0;};", 0);
        names("mix 1{shot 0 from 0 to 2;map 0 2;};", 0);
        names("mix 1{shot 0 from 0 to 3;map 0 2;};", 1);
        names("mix 1{map 0 3;map 0 3;};", 0);
    }

    private static void least(int least, int frames, int due) {
        NewsReel x = Expect.made("shot 0 400;map a;least " + least + ";", "shot 0 from 1 to " + frames + ";map 0 " + frames + ";", "");
        Expect.due("pieces of " + frames + " shorter than " + least, x.faults(3), due);
    }

    private static void leastFrames() {
        Expect.sentence("FAULTS", "(3) each piece that is shorter than LEAST");
        least(1, 1, 0);
        least(2, 1, 2);
        least(2, 2, 0);
        least(8, 7, 2);
        least(8, 8, 0);
        least(8, 9, 0);
        least(50, 49, 2);
        least(50, 50, 0);
        least(50, 399, 0);
        NewsReel first = Expect.made("map a;", "map 0 7;map 0 8;", "");
        Expect.due("pieces shorter than LEAST at first", first.faults(3), 1);
        NewsReel mixed = Expect.made("map a;", "mix 40{map 0 8;map 0 8;};", "");
        Expect.due("pieces of which the overlap leaves less than LEAST", mixed.faults(3), 0);
    }

    private static void cameras(String reel, long... pieces) {
        NewsReel x = Expect.made("shot 0 30;shot 0 30;shot 1 30;map a;", reel, "");
        Expect.due("pieces behind the same camera of " + reel, x.faults(4), pieces.length);
        Expect.dueRow("the piece of " + reel + " fault", i -> x.fault(i, 1), pieces);
    }

    private static void sameCamera() {
        Expect.sentence("FAULTS", "(4) each piece of a shot, if the piece ahead of it is one of a shot with the same CAMERA");
        cameras("");
        cameras("shot 0;");
        cameras("shot 0;shot 0;", 1);
        cameras("shot 0;shot 1;", 1);
        cameras("shot 0;shot 2;");
        cameras("shot 0;map 0 9;shot 0;");
        cameras("map 0 9;map 0 9;shot 0;");
        cameras("shot 0;shot 0 from 0 to 8;shot 1;shot 2;shot 2;", 1, 2, 4);
        cameras("repeat 3{shot 0;};", 1, 2);
        cameras("repeat 3{shot 0;map 0 9;};");
        cameras("repeat 2{shot 0;shot 2;shot 1;};", 3);
        cameras("mix 9{shot 0;};repeat 9{};shot 1;", 1);
        NewsReel sixty = Expect.made("shot 5 9;", "repeat 6{repeat 5{shot 0;shot 0;};};", "");
        Expect.due("pieces behind the same camera of sixty", sixty.faults(4), 59);
    }

    private static void slack(int slack, int end, int due) {
        // The voice ends in frame 200.
        NewsReel x = Expect.made("map a;speed 20;slack " + slack + ";", "map 0 " + end + ";", "b b b b b b b b b b.");
        Expect.due("END " + end + " with SLACK " + slack, x.faults(5), due);
    }

    private static void slack() {
        Expect.sentence("FAULTS", "(5) one, if the END and the frame in which the voice ends differ by more than SLACK");
        for (int slack : new int[] {0, 1, 99, 100}) {
            slack(slack, 200 - slack - 1, 1);
            slack(slack, 200 - slack, 0);
            slack(slack, 200, 0);
            slack(slack, 200 + slack, 0);
            slack(slack, 200 + slack + 1, 1);
        }
        NewsReel none = new NewsReel();
        Expect.due("no reel and no voice", none.faults(5), 0);
        Expect.say(none, "a.");
        Expect.due("no reel", none.faults(5), 1);
        none.setSlack(3);
        Expect.due("no reel with SLACK 3", none.faults(5), 1);
        none.setSlack(4);
        Expect.due("no reel with SLACK 4", none.faults(5), 0);
    }

    private static void order() {
        Expect.sentence("FAULTS", "The faults are, in this order", "Those of one kind come by the numbers of pieces or words.");
        NewsReel x = Expect.made("shot 0 30;shot 1 7;map a;ban 0 0 0;ban 1 0 0;", "shot 1;shot 1;shot 0;shot 0;", "a b a.");
        Expect.dueRow("the kind of fault", i -> x.fault(i, 0), 1, 1, 1, 1, 2, 2, 3, 3, 4, 4, 5);
        Expect.dueRow("the place of fault", i -> x.fault(i, 1), 0, 1, 2, 3, 0, 2, 0, 1, 1, 3, -1);
    }

    private static void kinds() {
        Expect.sentence("Promise 17",
                "`kind`: 1 to 5; 0 for all kinds",
                "Returns how many faults of this kind there are.",
                "Throws `IllegalArgumentException` if kind is out of range");
        NewsReel x = Expect.made("shot 0 30;shot 1 7;map a;ban 0 0 0;ban 1 0 0;", "shot 1;shot 1;shot 0;shot 0;", "a b a.");
        Expect.dueRow("faults", x::faults, 11, 4, 2, 2, 2, 1);
        Expect.throwsArgumentAround("faults", x::faults, 0, 5);
        NewsReel none = new NewsReel();
        Expect.dueRow("faults of a new object", none::faults, 0, 0, 0, 0, 0, 0);
        Expect.throwsArgumentAround("faults of a new object", none::faults, 0, 5);
    }

    private static void mostFaults() {
        Expect.sentence("Promise 18", "`index`: a fault, from 0 on, in their order");
        NewsReel x = Expect.made("shot 0 1;map a;ban 0 0 99;", "repeat 6{repeat 5{shot 0;shot 0;};};", "a.".repeat(60));
        Expect.dueRow("faults", x::faults, 240, 60, 60, 60, 59, 1);
        int[] index = {0, 59, 60, 119, 120, 179, 180, 238, 239};
        int[] kind = {1, 1, 2, 2, 3, 3, 4, 4, 5};
        int[] place = {0, 59, 0, 59, 0, 59, 1, 59, -1};
        for (int i = 0; i < index.length; i++) {
            Expect.due("the kind of fault " + index[i], x.fault(index[i], 0), kind[i]);
            Expect.due("the place of fault " + index[i], x.fault(index[i], 1), place[i]);
        }
        Expect.throwsIndexAround("a fault of 240", i -> x.fault(i, 0), 240);
    }

    private static void faultNumbers() {
        Expect.sentence("Promise 18", "0: its kind; 1: the piece or word (NONE of kind 5)", "Throws `IndexOutOfBoundsException` if there is no such fault");
        NewsReel none = new NewsReel();
        Expect.throwsIndexAround("a fault of none", i -> none.fault(i, 0), 0);
        NewsReel one = Expect.voice("a.", 1);
        Expect.dueRow("the only fault", what -> one.fault(0, what), 5, -1);
        Expect.throwsIndexAround("a fault of one", i -> one.fault(i, 1), 1);
        Expect.sentence("Promise 18", "Throws `IllegalArgumentException` if what is out of range");
        Expect.throwsArgumentAround("fault 0", what -> one.fault(0, what), 0, 1);
    }

    private static void fits() {
        Expect.sentence("Promise 19", "Returns whether there is no fault.");
        String library = "shot 0 30;shot 1 30;map a;ban 1 1 1;speed 20;slack 10;week ";
        fits(true, library + "0;", "", "");
        fits(true, library + "0;", "map 0 10;shot 1;", "a b.");
        fits(false, library + "1;", "map 0 10;shot 1;", "a b.");
        fits(false, library + "0;", "shot 1;map 0 10;", "a b.");
        fits(false, library + "0;", "map 0 7;shot 1;", "a b.");
        fits(false, library + "0;", "map 0 10;shot 1 from 0 to 9;shot 1 from 0 to 9;", "a b.");
        fits(false, library + "0;", "map 0 21;shot 1;", "a b.");
        fits(true, library + "0;", "map 0 20;shot 1;", "a b.");
    }

    private static void fits(boolean due, String library, String reel, String voice) {
        NewsReel x = Expect.made(library, reel, voice);
        Expect.due("fits of " + library + reel + voice, x.fits(), due);
        Expect.due("all faults of " + library + reel + voice, x.faults(0), due ? 0 : 1);
    }

    private static void nothingChanges() {
        Expect.sentence("EXCEPTIONS", "---- faults, choices (nothing changes)");
        NewsReel x = Expect.made("shot 0 30;shot 1 7;map a;ban 0 5 50;", "shot 1;map 0 4;mix 3{shot 0;shot 0;};", "a b a.");
        x.writeVoice();
        String state = Expect.state(x);
        String rest = Expect.rest(x);
        x.faults(0);
        x.fault(0, 1);
        x.fits();
        x.share(0);
        x.pace();
        x.best(0);
        x.bestWeek();
        x.bestSpeed();
        Expect.dueText("the state after questions", Expect.state(x), state);
        Expect.dueText("the rest after questions", Expect.rest(x), rest);
    }
}
