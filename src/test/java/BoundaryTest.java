import java.io.IOException;
import java.nio.file.Path;

/**
 * Each sentence of the document with its boundaries: `Sentence.of(20, "Returns the rank, from 1.")`
 * stands before what is looked at for that sentence of promise 20; 0 stands for the description.
 */
final class BoundaryTest {
  public static void main(String[] args) throws IOException {
    Sentence.read(Path.of(args.length > 1 ? args[1] : "../shared/DOC.md"));
    GeneralSentences.all();
    TextSentences.all();
    ContextSentences.all();
    InclusionSentences.all();
    RankSentences.all();
    UnificationSentences.all();
    EffectSentences.all();
    RunSentences.all();
    FigureSentences.all();
    Sentence.finish();
    Due.finish();
  }
}
