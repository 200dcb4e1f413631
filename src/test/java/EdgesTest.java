import java.io.IOException;
import java.nio.file.Files;
import java.nio.file.Path;
import java.util.ArrayList;
import java.util.List;

/**
 * The boundary cases of the document, sentence by sentence. The sentences are looked up in the
 * document itself: what a test quotes must stand there, and each sentence must have its test.
 */
public final class EdgesTest extends Edges {
  private static final Path DOCUMENT = Path.of("../shared/DOC.md");
  private static final int PROMISES = 29;
  /** Sentences that only name a thing; what they name has its edges in the sentences around them. */
  private static final List<String> WITHOUT_EDGE = List.of("Returns a property of a row.",
      "Returns a property of a seat.", "Returns a property of a party.", "Returns the property;",
      "Returns a waiting party.", "Returns the party;", "Returns a number.", "Returns the number;",
      "Returns that number;", "A fraction.", "`row`: the row", "`seat`: the seat", "`party`: the party",
      "The constructor and the methods follow, a promise each: the signature, then what it does.");
  /** Headings, and the signatures, which FaceTest knows. */
  private static final String NO_SENTENCE = "#.*|----.*|[A-Z ]+|The constants:|`[A-Za-z ]+\\(.*\\)`";

  public static void main(String[] args) throws IOException {
    int answers = wrongAnswers();
    int sentences = Files.exists(DOCUMENT) ? wrongSentences(Files.readString(DOCUMENT)) : 0;
    System.out.println(QUOTES.size() + " tests of boundary cases, " + answers + " wrong answers, "
        + sentences + " wrong sentences");
    if (answers + sentences != 0) System.exit(1);
  }

  static int wrongAnswers() {
    ConventionEdges.all();
    HallEdges.all();
    ActEdges.all();
    PlaceEdges.all();
    ChanceEdges.all();
    SlotEdges.all();
    return wrong;
  }

  private static String oneLine(String text) {
    return text.replaceAll("\\s+", " ").strip();
  }

  private static String section(String document, String title) {
    int from = document.indexOf("## " + title);
    int to = document.indexOf("\n## ", from + 1);
    return from < 0 ? "" : document.substring(from, to < 0 ? document.length() : to);
  }

  private static int wrongSentences(String document) {
    int wrongOnes = 0;
    String use = section(document, "What it is");
    String shared = use.substring(Math.max(0, use.indexOf("An object is used"))) + section(document, "Description");
    for (Quote q : QUOTES) {
      String own = section(document, "Promise " + q.promise() + ":");
      if (!oneLine(own).contains(oneLine(q.sentence())) && !oneLine(shared).contains(oneLine(q.sentence()))) {
        wrongOnes++;
        System.out.println("not in the document at promise " + q.promise() + ": " + q.sentence());
      }
    }
    wrongOnes += untested(shared, 0);
    for (int p = 1; p <= PROMISES; p++) wrongOnes += untested(section(document, "Promise " + p + ":"), p);
    return wrongOnes;
  }

  /** Prints the sentences of a section that no test of its promise quotes, wholly or in part. */
  private static int untested(String section, int promise) {
    int missing = 0;
    for (String sentence : sentences(section)) {
      boolean quoted = WITHOUT_EDGE.contains(sentence);
      for (Quote q : QUOTES) {
        String quote = oneLine(q.sentence());
        if (promise != 0 && q.promise() != promise) continue;
        quoted = quoted || sentence.contains(quote) || quote.contains(sentence);
      }
      if (!quoted) {
        missing++;
        System.out.println("without a test at promise " + promise + ": " + sentence);
      }
    }
    return missing;
  }

  private static List<String> sentences(String section) {
    List<String> found = new ArrayList<>();
    for (String paragraph : section.split("\n\n|\n(?=- )|\n(?=  )|\n(?=[A-Z])")) {
      for (String sentence : oneLine(paragraph).replaceFirst("^- ", "").split("(?<=[.;]) ")) {
        if (!sentence.isEmpty() && !sentence.matches(NO_SENTENCE)) found.add(sentence);
      }
    }
    return found;
  }
}
