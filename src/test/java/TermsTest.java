import java.util.Set;
import java.util.TreeSet;

/**
 * One method or more for each sentence of the section "Terms", in their order; the sentence is quoted.
 * The first sentence stands in CrashPointsTest, those of what throws or is refused in RefusalsTest, and
 * what no run of calls shows of the steps in InsideTest.
 */
public final class TermsTest {
    private static final Checks CHECKS = new Checks();
    private static final Class<IllegalStateException> STATE = IllegalStateException.class;
    private static final int[] SEEDS = {0, 1, -1, 2, 3, 77777, -1103515245, Integer.MIN_VALUE, Integer.MAX_VALUE};
    private static final String COMMIT_OF_TWO = "SSSSFE" + "SFE" + "SSFFE" + "SFE";
    private static final String RECOVERY_OF_TWO = "SSFFE" + "SFE";

    /** A shelf that was stopped before step n of the call that is looked at. */
    interface Stopped {
        WordShelf at(int n, int seed);
    }

    public static void main(String[] args) {
        memory();
        changes();
        transactions();
        recovery();
        CHECKS.end();
    }

    private static void memory() {
        usedFor512Calls();
        has112Words();
        linesOfEight();
        looseAtFirstNone();
        valuesAndKeptOnes();
        sameValueIsLooseToo();
        flushKeepsNothing();
        fenceKeepsFlushedLines();
        crashDrawsForLooseWordsOnly();
        crashKeepsOneOfTheValues();
        seedWraps();
        behindACrashNoneAreLoose();
        crashEndsTransactionAndSnapshots();
        stopBehindNoStep();
        stopBehindTheLastStep();
        stopBehindAllSteps();
        stopIsGone();
        stopOutlastsOtherCrashes();
        placesOfTheShelf();
        placesOfTheLog();
    }

    private static void changes() {
        sumsWrap();
        pushGoesRoundTheRing();
        popGoesRoundTheRing();
        poppedWordStays();
        numberOfThatKey();
        newPairInItsPlace();
        cutMovesDown();
    }

    private static void transactions() {
        changesAreNotInTheMemory();
        onlyWordsWithAnotherValue();
        byRisingNumbers();
        commitOfNone();
        commitOfOneToAllWords();
        stepsOfACommit();
        linesOfTheLog();
        changeOutside();
        changeOfNothingOutside();
    }

    private static void recovery() {
        recoverOfNone();
        recoverOfOne();
        recoverOfAllWords();
        recoverFromTheLastEntry();
        stepsOfARecovery();
        snapshotsAreOfATime();
        none();
    }

    private static void usedFor512Calls() {
        CHECKS.of("An object is used for at most 512 calls");
        WordShelf x = new WordShelf();
        for (int i = 1; i <= 511; i++) {
            CHECKS.is("call " + i, x.add(3, 1), i);
        }
        CHECKS.is("call 512", x.look(4), 511 * 5);
        WordShelf y = new WordShelf();
        for (int i = 0; i < 256; i++) {
            CHECKS.is("push as call " + (2 * i + 1), y.push(i), 1);
            CHECKS.is("pop as call " + (2 * i + 2), y.pop(), i);
        }
    }

    private static void has112Words() {
        CHECKS.of("MEMORY has 112 WORDS, longs, .. at first 0.");
        WordShelf x = new WordShelf();
        CHECKS.words("all of them", x, 0, new long[112]);
        CHECKS.fails("one too many", IndexOutOfBoundsException.class, () -> x.word(112, false));
        x.add(3, Long.MIN_VALUE);
        CHECKS.words("a long", x, 3, Long.MIN_VALUE);
    }

    private static void linesOfEight() {
        CHECKS.of("in LINES of eight (word w is in line w / 8)");
        WordShelf x = new WordShelf();
        // The log's line, line 5 twice, and those of the shelf's words.
        CHECKS.steps("words 5, 6", x, 8, 4, 4, () -> x.push(9));
        CHECKS.steps("words 5, 7", x, 8, 4, 4, () -> x.push(9));
        CHECKS.steps("words 5, 8", x, 8, 5, 4, () -> x.push(9));
        CHECKS.steps("words 14, 15 and 23", x, 11, 5, 4, () -> x.put(1, 1));
        CHECKS.steps("words 14, 16 and 24", x, 11, 6, 4, () -> x.put(2, 2));
        CHECKS.steps("word 23", x, 5, 4, 4, () -> x.put(1, 7));
        CHECKS.steps("word 24", x, 5, 4, 4, () -> x.put(2, 7));
    }

    private static void looseAtFirstNone() {
        CHECKS.of("A word has .. a row of LOOSE values, at first none.");
        WordShelf x = new WordShelf();
        for (int w = 0; w < 112; w++) {
            CHECKS.is("loose(" + w + ")", x.loose(w), 0);
        }
    }

    private static void valuesAndKeptOnes() {
        CHECKS.of("A word has a VALUE, a KEPT value");
        WordShelf x = Shelves.withAllWordsChanged();
        x.commit();
        for (int w = 0; w < 112; w++) {
            CHECKS.is("fenced, word " + w + " is kept", x.word(w, true), x.word(w, false));
            CHECKS.is("fenced, loose(" + w + ")", x.loose(w), 0);
        }
    }

    private static void flushKeepsNothing() {
        CHECKS.of("To FLUSH a line: it is FLUSHED, until the next fence.");
        for (int seed : SEEDS) {
            WordShelf x = Shelves.withAllWordsChanged();
            // The log's 62 stores and 8 flushes; the fence is not done.
            x.stop(70, seed);
            CHECKS.fails("commit", STATE, x::commit);
            CHECKS.is("flushes", x.look(5), 8);
            int[] r = Shelves.drawn(seed, 62);
            for (int e = 0; e < 31; e++) {
                CHECKS.words("flushed, seed " + seed, x, 48 + 2 * e, e * r[2 * e], 0);
            }
        }
    }

    private static void fenceKeepsFlushedLines() {
        CHECKS.of("A FENCE: of each word in a line that is flushed the value is kept, "
                + "and it has no loose ones any more.");
        for (int seed : SEEDS) {
            WordShelf x = Shelves.withAllWordsChanged();
            x.stop(71, seed);
            CHECKS.fails("commit", STATE, x::commit);
            CHECKS.is("fences", x.look(6), 1);
            for (int e = 0; e < 31; e++) {
                CHECKS.words("fenced, seed " + seed, x, 48 + 2 * e, e, 0);
            }
        }
    }

    private static void crashDrawsForLooseWordsOnly() {
        CHECKS.of("A CRASH with a SEED x: for each word that has loose values, from the first one on");
        for (int seed = 0; seed < 64; seed++) {
            WordShelf x = new WordShelf();
            x.begin();
            x.add(0, 6);
            x.add(3, 9);
            // 4 stores, flush, fence, store, flush, fence, 2 stores: the words 0 and 3 are loose, no others.
            x.stop(11, seed);
            CHECKS.fails("seed " + seed, STATE, x::commit);
            int[] r = Shelves.drawn(seed, 2);
            CHECKS.words("seed " + seed, x, 0, 6 * r[0], 0, 0, 9 * r[1]);
        }
    }

    private static void sameValueIsLooseToo() {
        CHECKS.of("to STORE a value in a word: that is its value, and goes to the end of its loose ones");
        for (int seed = 0; seed < 64; seed++) {
            WordShelf x = new WordShelf();
            x.begin();
            x.add(0, 1);
            x.add(1, 1);
            // The stores 0, 0, 1, 0 go to the words 48 to 51; the first two have 0 already, and are loose.
            x.stop(4, seed);
            CHECKS.fails("seed " + seed, STATE, x::commit);
            CHECKS.words("seed " + seed, x, 48, 0, 0, Shelves.drawn(seed, 3)[2], 0);
        }
    }

    private static void crashKeepsOneOfTheValues() {
        CHECKS.of("of the kept value and the loose ones in their order, n values in all, "
                + "the one with number r (from 0) is kept");
        WordShelf x = new WordShelf();
        x.add(2, 4);
        x.stop(8, Shelves.KEEPS_OLD);
        CHECKS.fails("number 0", STATE, () -> x.add(2, 3));
        CHECKS.words("number 0 is the kept one", x, 2, 4);
        WordShelf y = new WordShelf();
        y.add(2, 4);
        y.stop(8, Shelves.KEEPS_NEW);
        CHECKS.fails("number 1", STATE, () -> y.add(2, 3));
        CHECKS.words("number 1 is the loose one", y, 2, 7);
    }

    private static void seedWraps() {
        CHECKS.of("r being (x >>> 16) % n, behind x becoming x * 1103515245 + 12345 (as an int) first");
        for (int seed : SEEDS) {
            WordShelf x = Shelves.withAllWordsChanged();
            // Behind the stores of the log: 31 addresses, 0 to 30, and 31 old values, all 0.
            x.stop(62, seed);
            CHECKS.fails("seed " + seed, STATE, x::commit);
            int[] r = Shelves.drawn(seed, 62);
            for (int e = 0; e < 31; e++) {
                CHECKS.words("seed " + seed, x, 48 + 2 * e, e * r[2 * e], 0);
            }
        }
    }

    private static void behindACrashNoneAreLoose() {
        CHECKS.of("then all values are the kept ones, none are loose");
        for (int n = 0; n < 13; n++) {
            WordShelf x = new WordShelf();
            x.stop(n, Shelves.KEEPS_OLD);
            CHECKS.fails("stop " + n, STATE, () -> x.add(1, 5));
            for (int w = 0; w < 112; w++) {
                CHECKS.is("stop " + n + ": word " + w, x.word(w, false), x.word(w, true));
                CHECKS.is("stop " + n + ": loose(" + w + ")", x.loose(w), 0);
            }
        }
    }

    private static void crashEndsTransactionAndSnapshots() {
        CHECKS.of("the shelf is DOWN, there is no transaction and no snapshot");
        for (boolean byStop : new boolean[] {false, true}) {
            WordShelf x = new WordShelf();
            x.freeze(0);
            x.freeze(1);
            x.begin();
            x.add(0, 1);
            x.stop(0, 0);
            CHECKS.fails("stop first: " + byStop, STATE, () -> {
                if (!byStop) {
                    x.crash(0);
                }
                x.commit();
            });
            CHECKS.looks("down", x, 1, 0);
            x.recover();
            CHECKS.looks("up", x, 0, 0);
            CHECKS.fails("no transaction", STATE, x::abort);
            for (int s = 0; s < 2; s++) {
                int snapshot = s;
                CHECKS.fails("no snapshot " + s, IndexOutOfBoundsException.class, () -> x.frozen(snapshot, true, 0));
            }
            CHECKS.is("nothing of it", x.counter(0), 0);
        }
    }

    private static void stopBehindNoStep() {
        CHECKS.of("A STOP can be set: behind so many more steps, when the next one is about to be done: the first");
        WordShelf x = new WordShelf();
        x.stop(0, Shelves.KEEPS_NEW);
        CHECKS.looks("not before a step is due", x, 0, 0, 0, 0, 0, 0, 0, 0, 0);
        CHECKS.fails("the first step", STATE, () -> x.push(5));
        CHECKS.looks("no step was done", x, 1, 0, -1, -1, 0, 0, 0, 1, -1);
        CHECKS.words("nothing was stored", x, 0, new long[112]);
    }

    private static void stopBehindTheLastStep() {
        CHECKS.of("A STOP can be set: behind so many more steps, when the next one is about to be done: the last");
        WordShelf x = new WordShelf();
        x.stop(12, Shelves.KEEPS_OLD);
        CHECKS.fails("the last fence", STATE, () -> x.add(0, 5));
        CHECKS.looks("all but the last fence", x, 1, 0, -1, -1, 5, 4, 3, 1, -1);
        CHECKS.words("the log's count was loose", x, 40, 1);
        CHECKS.is("set back", x.recover(), 1);
        CHECKS.is("nothing of it", x.counter(0), 0);
    }

    private static void stopBehindAllSteps() {
        CHECKS.of("A STOP can be set: behind so many more steps: as many as the call takes");
        WordShelf x = new WordShelf();
        x.stop(13, 0);
        CHECKS.is("not met", x.add(0, 5), 5);
        CHECKS.looks("none left", x, 0, 0, 0, 0, 5, 4, 4, 0, 0);
        CHECKS.is("reads are no steps", x.counter(0), 5);
        CHECKS.fails("met by the next call", STATE, () -> x.add(0, 1));
        CHECKS.looks("none of its steps", x, 1, 0, -1, -1, 5, 4, 4, 1, -1);
    }

    private static void stopIsGone() {
        CHECKS.of("the stop is gone, and the call throws");
        WordShelf x = new WordShelf();
        x.stop(0, 0);
        CHECKS.fails("met", STATE, () -> x.add(0, 1));
        CHECKS.is("gone", x.look(8), -1);
        x.recover();
        CHECKS.is("not met again", x.add(0, 1), 1);
        CHECKS.is("one crash", x.look(7), 1);
    }

    private static void stopOutlastsOtherCrashes() {
        CHECKS.of("there is a CRASH with its seed instead, the stop is gone: by no other CRASH");
        WordShelf x = new WordShelf();
        x.add(0, 5);
        x.stop(8, Shelves.KEEPS_NEW);
        x.crash(Shelves.KEEPS_OLD);
        CHECKS.is("a CRASH is no step", x.look(8), 8);
        CHECKS.is("nor is a recovery of none", x.recover(), 0);
        CHECKS.is("still there", x.look(8), 8);
        CHECKS.fails("met behind 8 steps", STATE, () -> x.add(0, 1));
        CHECKS.words("with its own seed", x, 0, 6);
        CHECKS.is("gone", x.look(8), -1);
    }

    private static void placesOfTheShelf() {
        CHECKS.of("THE SHELF in words: 0 .. 3; 4; 5; 6 .. 13; 14; 15 .. 22; 23 .. 30");
        WordShelf x = Shelves.withAllWordsChanged();
        x.commit();
        CHECKS.words("each full", x, 0, 1, 2, 3, 4, 1, 7, 1, 2, 3, 4, 5, 6, 7, 8, 8,
                10, 20, 30, 40, 50, 60, 70, 80, 100, 200, 300, 400, 500, 600, 700, 800);
        CHECKS.words("none behind them", x, 31, new long[17]);
    }

    private static void placesOfTheLog() {
        CHECKS.of("40 the LOG's count; for e = 0, 1, ..: 48 + 2 * e an ADDRESS, 49 + 2 * e an OLD value");
        WordShelf x = Shelves.withAllWordsChanged();
        // 62 stores, 8 flushes, fence, store, flush, fence: the count is kept.
        x.stop(74, Shelves.KEEPS_OLD);
        CHECKS.fails("commit", STATE, x::commit);
        CHECKS.words("count", x, 39, 0, 31, 0, 0, 0, 0, 0, 0, 0);
        for (int e = 0; e < 31; e++) {
            CHECKS.words("entry " + e, x, 48 + 2 * e, e, 0);
        }
        CHECKS.words("behind the longest log", x, 110, 0, 0);
    }

    private static void sumsWrap() {
        CHECKS.of("ADD d to a counter (sums wrap).");
        for (int c = 0; c < 4; c++) {
            WordShelf x = new WordShelf();
            x.add(c, Long.MAX_VALUE);
            CHECKS.is("most + 1", x.add(c, 1), Long.MIN_VALUE);
            CHECKS.is("least - 1", x.add(c, -1), Long.MAX_VALUE);
            CHECKS.is("most + most", x.add(c, Long.MAX_VALUE), -2);
            CHECKS.is("-2 + least", x.add(c, Long.MIN_VALUE), Long.MAX_VALUE - 1);
            x.add(c, 1);
            x.add(c, 1);
            CHECKS.is("least + least", x.add(c, Long.MIN_VALUE), 0);
            CHECKS.words("in the memory", x, c, 0);
        }
    }

    private static void pushGoesRoundTheRing() {
        CHECKS.of("PUSH v: the word 6 + (first + size) % 8 is v, the size 1 more.");
        for (int first = 0; first < 8; first++) {
            for (int size = 0; size < 8; size++) {
                WordShelf x = Shelves.withQueue(first, size);
                long[] due = new long[8];
                for (int i = 0; i < 8; i++) {
                    due[i] = x.word(6 + i, false);
                }
                CHECKS.is("push", x.push(7), size + 1);
                due[(first + size) % 8] = 7;
                CHECKS.words("first " + first + ", size " + size, x, 4, first, size + 1);
                CHECKS.words("first " + first + ", size " + size, x, 6, due);
                CHECKS.is("the last one", x.queued(size), 7);
            }
        }
    }

    private static void popGoesRoundTheRing() {
        CHECKS.of("POP: the first place is (first + 1) % 8, the size 1 less");
        for (int first = 0; first < 8; first++) {
            for (int size = 1; size <= 8; size++) {
                WordShelf x = Shelves.withQueue(first, size);
                CHECKS.is("pop", x.pop(), 100);
                CHECKS.words("first " + first + ", size " + size, x, 4, first == 7 ? 0 : first + 1, size - 1);
                for (int i = 0; i < size - 1; i++) {
                    CHECKS.is("first " + first + ", size " + size + ": queued " + i, x.queued(i), 101 + i);
                }
            }
        }
    }

    private static void poppedWordStays() {
        CHECKS.of("POP: (the word stays)");
        for (int first = 0; first < 8; first++) {
            WordShelf x = Shelves.withQueue(first, 1);
            CHECKS.steps("words 4 and 5 alone", x, 8, 4, 4, x::pop);
            CHECKS.words("first " + first, x, 6 + first, 100);
        }
    }

    private static void numberOfThatKey() {
        CHECKS.of("PUT a key and a number: the number of that key's pair");
        for (int i = 1; i <= 8; i++) {
            WordShelf x = Shelves.withMap(8);
            CHECKS.is("put", x.put(10 * i, -5), 8);
            for (int k = 1; k <= 8; k++) {
                CHECKS.words("put " + 10 * i, x, 14 + k, 10 * k);
                CHECKS.words("put " + 10 * i, x, 22 + k, k == i ? -5 : 1000 * k);
            }
        }
    }

    private static void newPairInItsPlace() {
        CHECKS.of("or a new pair in its place, those behind it moving up by one");
        for (int pairs = 0; pairs < 8; pairs++) {
            for (int place = 0; place <= pairs; place++) {
                WordShelf x = Shelves.withMap(pairs);
                CHECKS.is("put", x.put(10 * place + 5, -5), pairs + 1);
                long[] due = new long[17];
                due[0] = pairs + 1;
                for (int i = 0; i < pairs; i++) {
                    int now = i < place ? i : i + 1;
                    due[1 + now] = 10 * i + 10;
                    due[9 + now] = 1000 * i + 1000;
                }
                due[1 + place] = 10 * place + 5;
                due[9 + place] = -5;
                CHECKS.words(pairs + " pairs, place " + place, x, 14, due);
            }
        }
        WordShelf y = Shelves.withMap(2);
        y.put(Long.MAX_VALUE, 1);
        y.put(Long.MIN_VALUE, 2);
        CHECKS.words("the least and the most key", y, 14, 4, Long.MIN_VALUE, 10, 20, Long.MAX_VALUE);
        CHECKS.words("the least and the most key", y, 23, 2, 1000, 2000, 1);
    }

    private static void cutMovesDown() {
        CHECKS.of("CUT a key: its pair goes, those behind it move down by one (the last words stay as they are).");
        for (int pairs = 1; pairs <= 8; pairs++) {
            for (int place = 0; place < pairs; place++) {
                WordShelf x = Shelves.withMap(pairs);
                CHECKS.is("cut", x.cut(10 * place + 10), true);
                long[] due = new long[17];
                due[0] = pairs - 1;
                for (int i = 0; i < pairs; i++) {
                    // The last place has what it had, which stands in the one before it too.
                    int was = i < place || i == pairs - 1 ? i : i + 1;
                    due[1 + i] = 10 * was + 10;
                    due[9 + i] = 1000 * was + 1000;
                }
                CHECKS.words(pairs + " pairs, place " + place, x, 14, due);
                CHECKS.is("gone", x.cut(10 * place + 10), false);
            }
        }
    }

    private static void changesAreNotInTheMemory() {
        CHECKS.of("A TRANSACTION collects changes, which are seen by all calls, but not in the memory.");
        WordShelf x = Shelves.withAllWordsChanged();
        CHECKS.words("not in the memory", x, 0, new long[112]);
        CHECKS.looks("seen, no steps", x, 0, 1, 7, 8, 0, 0, 0, 0, -1);
        CHECKS.is("push sees them", x.push(9), 8);
        CHECKS.fails("push sees a full queue", UnsupportedOperationException.class, () -> x.push(10));
        CHECKS.fails("put sees a full map", UnsupportedOperationException.class, () -> x.put(11, 1));
        CHECKS.is("pop sees them", x.pop(), 2);
        CHECKS.is("cut sees them", x.cut(80), true);
        CHECKS.is("cut sees its cut", x.cut(80), false);
        CHECKS.is("next sees them", x.next(61, false), 700);
        CHECKS.is("counter sees them", x.counter(3), 4);
        CHECKS.is("queued sees them", x.queued(6), 9);
        x.freeze(0);
        CHECKS.is("freeze sees them", x.frozen(0, false, 70), 700);
        CHECKS.is("audit sees the memory", x.audit(), 0);
    }

    private static void onlyWordsWithAnotherValue() {
        CHECKS.of("the words among 0 .. 30 that have another value by its changes than in the memory");
        WordShelf x = Shelves.withMap(8);
        x.begin();
        x.add(0, Long.MIN_VALUE);
        x.add(0, Long.MIN_VALUE);
        x.cut(80);
        x.put(80, 8000);
        x.put(10, 1);
        x.put(10, 1000);
        CHECKS.is("all have what they had", x.commit(), 0);
        x.begin();
        x.put(80, 8001);
        CHECKS.is("word 30 alone", x.commit(), 1);
        CHECKS.words("word 30 alone", x, 48, 30, 8000);
        x.begin();
        x.add(0, 1);
        x.push(0);
        CHECKS.is("the ring has the pushed value already", x.commit(), 2);
        CHECKS.words("words 0 and 5", x, 48, 0, 0, 5, 0);
        x.begin();
        x.pop();
        x.push(6);
        CHECKS.is("the size is what it was", x.commit(), 2);
        CHECKS.words("words 4 and 7", x, 48, 4, 0, 7, 0);
    }

    private static void byRisingNumbers() {
        CHECKS.of("w(0), w(1), .. by rising numbers");
        WordShelf x = new WordShelf();
        x.begin();
        x.put(9, 90);
        x.push(7);
        x.add(3, 3);
        x.add(0, 1);
        CHECKS.is("commit", x.commit(), 7);
        CHECKS.words("log", x, 48, 0, 0, 3, 0, 5, 0, 6, 0, 14, 0, 15, 0, 23, 0);
    }

    private static void commitOfNone() {
        CHECKS.of("If n is 0, nothing is done.");
        WordShelf x = new WordShelf();
        x.stop(0, 0);
        x.begin();
        CHECKS.is("no changes", x.commit(), 0);
        CHECKS.looks("no steps, no transaction", x, 0, 0, 0, 0, 0, 0, 0, 0, 0);
        x.begin();
        x.add(1, 5);
        x.add(1, -5);
        CHECKS.is("changed and back", x.commit(), 0);
        CHECKS.looks("no steps, no transaction", x, 0, 0, 0, 0, 0, 0, 0, 0, 0);
        CHECKS.words("no log", x, 40, new long[72]);
    }

    private static void commitOfOneToAllWords() {
        CHECKS.of("Otherwise these STEPS");
        WordShelf x = new WordShelf();
        x.begin();
        x.add(2, 1);
        CHECKS.steps("one word", x, 2 + 1 + 1 + 1, 4, 4, x::commit);
        WordShelf y = Shelves.withAllWordsChanged();
        CHECKS.steps("31 words", y, 62 + 1 + 31 + 1, 8 + 1 + 4 + 1, 4, y::commit);
    }

    /** The words 0 and 23 get other values, from 5 and 70 to 6 and 71, by a transaction that is not yet committed. */
    private static WordShelf withTwoWordsChanged() {
        WordShelf x = new WordShelf();
        x.add(0, 5);
        x.put(7, 70);
        x.begin();
        x.add(0, 1);
        x.put(7, 71);
        return x;
    }

    private static WordShelf stoppedInCommit(int n, int seed) {
        WordShelf x = withTwoWordsChanged();
        x.stop(n, seed);
        CHECKS.fails("commit with a stop at " + n, STATE, x::commit);
        return x;
    }

    /** The commit was stopped where all but the log's count is done. */
    private static WordShelf stoppedInRecovery(int n, int seed) {
        WordShelf x = stoppedInCommit(14, seed);
        x.stop(n, seed);
        CHECKS.fails("recover with a stop at " + n, STATE, x::recover);
        return x;
    }

    private static void stepsOfACommit() {
        CHECKS.of("STEPS: for e = 0 .. n - 1: STORE w(e) in word 48 + 2 * e, STORE the memory's value of w(e) in "
                + "49 + 2 * e; FLUSH each line that has one of those, by rising numbers; FENCE; STORE n in 40; "
                + "FLUSH line 5; FENCE; STORE the new value in each w(e); FLUSH each line that has one of those, "
                + "by rising numbers; FENCE; STORE 0 in 40; FLUSH line 5; FENCE.");
        Stopped commit = TermsTest::stoppedInCommit;
        checkKinds(commit, withTwoWordsChanged(), COMMIT_OF_TWO);
        // The log had the words 14, 15 and 23 of the put before.
        checkWord(commit, 48, 14, 0, 0, 5, 17);
        checkWord(commit, 49, 0, 5, 1, 5, 17);
        checkWord(commit, 50, 15, 23, 2, 5, 17);
        checkWord(commit, 51, 0, 70, 3, 5, 17);
        checkWord(commit, 52, 23, 23, 17, 17, 17);
        checkWord(commit, 40, 0, 2, 6, 8, 15);
        checkWord(commit, 0, 5, 6, 9, 13, 17);
        checkWord(commit, 23, 70, 71, 10, 13, 17);
        CHECKS.same("word 40, its last store done", possible(commit, 40, 15), Set.of(0L, 2L));
        CHECKS.same("word 40, its last flush done", possible(commit, 40, 16), Set.of(0L, 2L));
        WordShelf x = withTwoWordsChanged();
        x.stop(17, 0);
        CHECKS.is("no more steps", x.commit(), 2);
        CHECKS.is("no more steps", x.look(8), 0);
        CHECKS.words("word 40, all done", x, 40, 0);
    }

    private static void stepsOfARecovery() {
        CHECKS.of("for e = n - 1, .. 0: STORE the OLD value e in the word with the ADDRESS e; FLUSH each line that "
                + "has one of those, by rising numbers; FENCE; STORE 0 in 40; FLUSH line 5; FENCE.");
        Stopped recovery = TermsTest::stoppedInRecovery;
        checkKinds(recovery, stoppedInCommit(14, 0), RECOVERY_OF_TWO);
        checkWord(recovery, 23, 71, 70, 0, 4, 8);
        checkWord(recovery, 0, 6, 5, 1, 4, 8);
        checkWord(recovery, 40, 2, 0, 5, 7, 8);
        checkWord(recovery, 48, 0, 0, 8, 8, 8);
        WordShelf x = stoppedInCommit(14, 0);
        x.stop(8, 0);
        CHECKS.is("no more steps", x.recover(), 2);
        CHECKS.is("no more steps", x.look(8), 0);
        CHECKS.words("word 40, all done", x, 40, 0);
        CHECKS.of("Then the shelf is up.");
        CHECKS.looks("up", x, 0, 0, 0, 1);
        CHECKS.is("as before", x.counter(0), 5);
        CHECKS.is("as before", x.next(7, false), 70);
        x.stop(1000, 0);
        CHECKS.is("the next change", x.add(0, 2), 7);
    }

    /** The kinds of the steps, store, flush and fence, as the counts of a shelf stopped before each of them show. */
    private static void checkKinds(Stopped call, WordShelf before, String kinds) {
        int[] due = {before.look(4), before.look(5), before.look(6)};
        for (int n = 0; n < kinds.length(); n++) {
            WordShelf x = call.at(n, Shelves.KEEPS_OLD);
            for (int kind = 0; kind < 3; kind++) {
                CHECKS.is("before step " + n + ": look(" + (4 + kind) + ")", x.look(4 + kind), due[kind]);
            }
            due["SFE".indexOf(kinds.charAt(n))]++;
        }
    }

    /** A word has its old value, then any of both behind its store, then its new one behind the fence. */
    private static void checkWord(Stopped call, int w, long old, long now, int stored, int fenced, int end) {
        for (int n = 0; n < end; n++) {
            Set<Long> due = new TreeSet<>();
            if (n <= fenced) {
                due.add(old);
            }
            if (n > stored) {
                due.add(now);
            }
            CHECKS.same("word " + w + " before step " + n, possible(call, w, n), due);
        }
    }

    /** What a word is behind a crash before step n, over so many seeds that each choice comes up. */
    private static Set<Long> possible(Stopped call, int w, int n) {
        Set<Long> values = new TreeSet<>();
        for (int seed = 0; seed < 64; seed++) {
            values.add(call.at(n, seed).word(w, true));
        }
        return values;
    }

    private static void linesOfTheLog() {
        CHECKS.of("FLUSH each line that has one of those, by rising numbers");
        WordShelf x = new WordShelf();
        x.begin();
        for (int c = 0; c < 4; c++) {
            x.add(c, 1);
        }
        CHECKS.steps("four entries fill a line", x, 8 + 1 + 4 + 1, 4, 4, x::commit);
        x.begin();
        for (int c = 0; c < 4; c++) {
            x.add(c, 1);
        }
        x.push(0);
        CHECKS.steps("five entries", x, 10 + 1 + 5 + 1, 5, 4, x::commit);
        flushesRise();
    }

    /** The order of flushes shows in nothing but the count: none of them keeps a word before the fence. */
    private static void flushesRise() {
        for (int flushed = 0; flushed <= 4; flushed++) {
            WordShelf x = Shelves.withAllWordsChanged();
            x.stop(62 + 8 + 1 + 3 + 31 + flushed, 12345);
            CHECKS.fails("a stop among the flushes", STATE, x::commit);
            CHECKS.is("flushes before it", x.look(5), 8 + 1 + flushed);
            int[] r = Shelves.drawn(12345, 31);
            for (int c = 0; c < 4; c++) {
                CHECKS.words("a flush without a fence keeps nothing", x, c, (c + 1) * r[c]);
            }
            CHECKS.words("of no line", x, 30, 800 * r[30]);
        }
    }

    private static void changeOutside() {
        CHECKS.of("A change outside of a transaction is one of its own, committed at once.");
        WordShelf x = new WordShelf();
        CHECKS.steps("ADD", x, 5, 4, 4, () -> x.add(3, 9));
        CHECKS.words("ADD", x, 3, 9);
        CHECKS.steps("PUSH", x, 8, 4, 4, () -> x.push(8));
        CHECKS.words("PUSH", x, 4, 0, 1, 8);
        CHECKS.steps("PUT", x, 11, 5, 4, () -> x.put(7, 70));
        CHECKS.words("PUT", x, 14, 1, 7);
        CHECKS.words("PUT", x, 23, 70);
        CHECKS.steps("POP", x, 8, 4, 4, x::pop);
        CHECKS.words("POP", x, 4, 1, 0, 8);
        CHECKS.steps("CUT", x, 5, 4, 4, () -> x.cut(7));
        CHECKS.words("CUT", x, 14, 0, 7);
        CHECKS.looks("no transaction is left", x, 0, 0);
        x.begin();
        CHECKS.steps("none in a transaction", x, 0, 0, 0, () -> x.add(3, 1));
    }

    private static void changeOfNothingOutside() {
        CHECKS.of("A change outside of a transaction is one of its own, committed at once: of no word.");
        WordShelf x = Shelves.withMap(8);
        x.stop(0, 0);
        CHECKS.is("add of 0", x.add(2, 0), 0);
        CHECKS.is("put of the same", x.put(80, 8000), 8);
        CHECKS.is("no step", x.look(8), 0);
        x.stop(1000, 0);
        CHECKS.steps("push of what the ring has: word 5 alone", x, 5, 4, 4, () -> x.push(0));
        CHECKS.looks("no transaction", x, 0, 0, 1, 8);
        CHECKS.words("at once", x, 5, 1);
        CHECKS.fails("none to commit", STATE, x::commit);
    }

    private static void recoverOfNone() {
        CHECKS.of("To RECOVER: if word 40 is n above 0 .. Then the shelf is up.");
        WordShelf x = Shelves.down();
        x.stop(0, 0);
        CHECKS.is("recover", x.recover(), 0);
        CHECKS.looks("up without a step", x, 0, 0, 0, 0, 0, 0, 0, 1, 0);
    }

    private static void recoverOfOne() {
        CHECKS.of("To RECOVER: if word 40 is n above 0: 1");
        WordShelf x = new WordShelf();
        x.add(0, 5);
        // 2 stores, flush, fence, store, flush, fence: word 40 is 1, word 0 is not stored yet.
        x.stop(7, 0);
        CHECKS.fails("add", STATE, () -> x.add(0, 1));
        CHECKS.steps("1 word", x, 2, 2, 2, () -> CHECKS.is("recover", x.recover(), 1));
        CHECKS.is("counter", x.counter(0), 5);
        CHECKS.words("count", x, 40, 0);
    }

    private static void recoverOfAllWords() {
        CHECKS.of("To RECOVER: STORE the OLD value e in the word with the ADDRESS e: 31 of them");
        for (int seed : SEEDS) {
            WordShelf x = Shelves.withAllWordsChanged();
            x.stop(62 + 8 + 1 + 3 + 31, seed);
            CHECKS.fails("commit", STATE, x::commit);
            CHECKS.steps("31 words", x, 31 + 1, 4 + 1, 2, () -> CHECKS.is("recover", x.recover(), 31));
            CHECKS.words("as before", x, 0, new long[48]);
            CHECKS.looks("empty", x, 0, 0, 0, 0);
        }
    }

    private static void recoverFromTheLastEntry() {
        CHECKS.of("for e = n - 1, .. 0");
        for (int done = 0; done < 31; done++) {
            WordShelf x = Shelves.withAllWordsChanged();
            // All 31 words are kept; the next step would store 0 in word 40.
            x.stop(62 + 8 + 1 + 3 + 31 + 4 + 1, 0);
            CHECKS.fails("commit", STATE, x::commit);
            x.stop(done, 9);
            CHECKS.fails("recover", STATE, x::recover);
            int[] r = Shelves.drawn(9, 31);
            long[] due = {1, 2, 3, 4, 1, 7, 1, 2, 3, 4, 5, 6, 7, 8, 8,
                10, 20, 30, 40, 50, 60, 70, 80, 100, 200, 300, 400, 500, 600, 700, 800};
            for (int i = 0; i < done; i++) {
                int w = 31 - done + i;
                due[w] = r[i] == 1 ? 0 : due[w];
            }
            CHECKS.words("stop behind " + done, x, 0, due);
        }
    }

    private static void snapshotsAreOfATime() {
        CHECKS.of("SNAPSHOTS 0, 1 keep counters and the map as they are at a time (with a transaction's changes).");
        WordShelf x = Shelves.withMap(8);
        x.freeze(0);
        x.begin();
        x.cut(80);
        x.add(3, 7);
        x.freeze(1);
        x.abort();
        x.cut(10);
        CHECKS.is("the last key", x.frozen(0, false, 80), 8000);
        CHECKS.is("the first key", x.frozen(0, false, 10), 1000);
        CHECKS.is("counter", x.frozen(0, true, 3), 0);
        CHECKS.fails("cut in the transaction", IndexOutOfBoundsException.class, () -> x.frozen(1, false, 80));
        CHECKS.is("cut behind it", x.frozen(1, false, 10), 1000);
        CHECKS.is("changed in the transaction", x.frozen(1, true, 3), 7);
    }

    private static void none() {
        CHECKS.of("NONE = -1: There is none.");
        CHECKS.is("NONE", WordShelf.NONE, -1);
    }
}
