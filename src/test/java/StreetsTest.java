import java.util.Random;

/** Whole streets, from few FEELINGS to all 36, each asked all that can be asked of it, and compared with the Oracle. */
public final class StreetsTest {
  private static final int STREETS = 60;
  private static final String[] RULES = {
      "cost strength; let not fixed;", "cost strength; let 1;", "cost 1 - hate; let not (fixed and kin);", "cost 0; let 1;",
      "cost strength*kin*200; let hate;", "cost least + most; let least + 1 < most;", "cost 1; let not hate or 2 < strength;"};

  private final Check check;
  private final Random random;
  private final TwoCamps real = new TwoCamps();
  private final Oracle oracle = new Oracle();
  private final String name;
  private final int people;

  private StreetsTest(Check check, int seed) {
    this.check = check;
    random = new Random(7919L * seed);
    name = "street " + seed + ", ";
    people = 3 + random.nextInt(7);
  }

  public static void main(String[] args) {
    int streets = args.length > 0 ? Integer.parseInt(args[0]) : STREETS;
    Check check = new Check();
    for (int seed = 0; seed < streets; seed++) {
      StreetsTest street = new StreetsTest(check, seed);
      street.tell();
      street.ask();
      street.turn();
      street.ask();
      street.layBack();
    }
    check.end("StreetsTest");
  }

  private void due(String call, long got, long want) {
    check.due(name + call, got, want);
  }

  private void tell() {
    int prices = random.nextBoolean() ? 3 : 100;
    for (int p = 0; p < people; p++) {
      int price = random.nextInt(prices);
      due("person", real.person(price), oracle.person(price));
    }
    double density = random.nextDouble() * 1.3;
    int likes = 1 + random.nextInt(5), strengths = random.nextBoolean() ? 3 : 99, loose = 2 + random.nextInt(20);
    for (int a = 0; a < people; a++) {
      for (int b = 0; b < a; b++) {
        int sign = random.nextInt(likes) == 0 ? -1 : 1, strength = 1 + random.nextInt(strengths);
        int kinds = 2 * random.nextInt(2) + (random.nextInt(loose) == 0 ? 1 : 0);
        if (random.nextDouble() < density) {
          due("feel", real.feel(a, b, sign, strength, kinds), oracle.feel(a, b, sign, strength, kinds));
        }
      }
    }
    String rule = RULES[random.nextInt(RULES.length)];
    Check.feed(real, rule);
    oracle.tape.append(rule);
    due("text", real.text(), oracle.text());
    due("force", real.force(1), oracle.force(1));
    due("image", real.image(), oracle.image());
  }

  private void turn() {
    for (int p = 0; p < people; p++) {
      due("step(" + p + ")", real.step(p), oracle.step(p));
    }
  }

  private void layBack() {
    due("back", real.back(), oracle.back());
    due("threes, laid back", real.threes(), oracle.threes());
    due("least, laid back", real.least(), oracle.least());
  }

  private void ask() {
    askAll();
    for (int a = 0; a < people; a++) {
      for (int b = 0; b < people; b++) {
        // an object is for 512 calls
        if (random.nextInt(6) == 0) {
          askTwo(a, b);
        }
      }
    }
    for (int f = random.nextInt(3); f < oracle.feelings.size(); f += 3) {
      due("edge(" + f + ")", real.edge(f), oracle.edge(f));
      for (int what = 6; what < 9; what++) {
        due("felt(" + f + ", " + what + ")", real.felt(f, what), oracle.felt(f, what));
      }
    }
  }

  private void askAll() {
    due("peace", real.peace(), oracle.peace());
    for (int i = -1; i < 10; i++) {
      due("ring(" + i + ")", real.ring(i), oracle.ring(i));
    }
    due("least", real.least(), oracle.least());
    int all = oracle.all(-1);
    for (int i : new int[] {-1, 0, 1, all - 1, all}) {
      due("all(" + i + ")", real.all(i), oracle.all(i));
    }
    due("aside", real.aside(), oracle.aside());
    for (int k = 1; k <= (people < 7 ? 4 : 2); k++) {
      due("many(" + k + ")", real.many(k), oracle.many(k));
    }
    due("doors", real.doors(), oracle.doors());
    due("threes", real.threes(), oracle.threes());
    for (int n : new int[] {0, 1, 2, 20}) {
      due("ends(" + n + ")", real.ends(n), oracle.ends(n));
    }
    for (int what = 0; what < 8; what++) {
      due("count(" + what + ")", real.count(what), oracle.count(what));
    }
  }

  private void askTwo(int a, int b) {
    String two = "(" + a + ", " + b;
    due("between" + two + ")", real.between(a, b), oracle.between(a, b));
    due("part(" + a + ")", real.part(a), oracle.part(a));
    due("together" + two + ")", real.together(a, b), oracle.together(a, b));
    due("meet" + two + ", 0)", real.meet(a, b, 0), oracle.meet(a, b, 0));
    due("meet" + two + ", 1)", real.meet(a, b, 1), oracle.meet(a, b, 1));
    due("bring" + two + ")", real.bring(a, b), oracle.bring(a, b));
  }
}
